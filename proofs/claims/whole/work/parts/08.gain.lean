/-! the gains: X's and Y's comparison decide alike -/
theorem hp_b64 {z : Int} (h : z.natAbs < 9223372036854775808) : z.bmod (2 ^ 64) = z := Int.bmod_eq_of_le (by omega) (by omega)
theorem hp_b32 {z : Int} (h : z.natAbs < 2147483648) : z.bmod (2 ^ 32) = z := Int.bmod_eq_of_le (by omega) (by omega)
theorem hp_mulB {a b : Int64} {x y : Int} {A B : Nat} (ha : a.toInt = x) (hb : b.toInt = y) (hx : x.natAbs ≤ A) (hy : y.natAbs ≤ B) (h : A * B < 9223372036854775808) : (a * b).toInt = x * y ∧ (x * y).natAbs ≤ A * B := by
  have k : (x * y).natAbs ≤ A * B := by rw [Int.natAbs_mul]; exact Nat.mul_le_mul hx hy
  exact ⟨by rw [Int64.toInt_mul, ha, hb, hp_b64 (Nat.lt_of_le_of_lt k h)], k⟩
theorem hp_addB {a b : Int64} {x y : Int} {A B : Nat} (ha : a.toInt = x) (hb : b.toInt = y) (hx : x.natAbs ≤ A) (hy : y.natAbs ≤ B) (h : A + B < 9223372036854775808) : (a + b).toInt = x + y ∧ (x + y).natAbs ≤ A + B := by
  have k : (x + y).natAbs ≤ A + B := by omega
  exact ⟨by rw [Int64.toInt_add, ha, hb, hp_b64 (Nat.lt_of_le_of_lt k h)], k⟩
theorem hp_subB {a b : Int64} {x y : Int} {A B : Nat} (ha : a.toInt = x) (hb : b.toInt = y) (hx : x.natAbs ≤ A) (hy : y.natAbs ≤ B) (h : A + B < 9223372036854775808) : (a - b).toInt = x - y ∧ (x - y).natAbs ≤ A + B := by
  have k : (x - y).natAbs ≤ A + B := by omega
  exact ⟨by rw [Int64.toInt_sub, ha, hb, hp_b64 (Nat.lt_of_le_of_lt k h)], k⟩
theorem hp_sgn {a b x y : Int} (ha : 0 < a) (hb : 0 < b) (e : a * x = b * y) : 0 < x ↔ 0 < y :=
  ⟨fun h => Int.pos_of_mul_pos_right (e ▸ Int.mul_pos ha h) hb, fun h => Int.pos_of_mul_pos_right (e.symm ▸ Int.mul_pos hb h) ha⟩
theorem hp_gid (sl sr nl nr : Int) : (nl + nr) * (sl * sl * nr + sr * sr * nl) = (sl * nr - sr * nl) * (sl * nr - sr * nl) + (sl + sr) * (sl + sr) * (nl * nr) := by grind
theorem hp_gain {n s sl sr nl nr G Bc T Br : Int} (hn : nl + nr = n) (hs : sl + sr = s) (h0 : 0 < n) (hBc : 0 < Bc) (hBr : 0 < Br) (hI : n * T * Bc = Br * (G + s * s * Bc)) :
    T * (nl * nr) < (sl * sl * nr + sr * sr * nl) * Br ↔ G * (nl * nr) < (sl * nr - sr * nl) * (sl * nr - sr * nl) * Bc := by
  have e := hp_gid sl sr nl nr
  rw [hn, hs] at e
  have k : (n * Bc) * ((sl * sl * nr + sr * sr * nl) * Br - T * (nl * nr)) = Br * ((sl * nr - sr * nl) * (sl * nr - sr * nl) * Bc - G * (nl * nr)) := by grind
  have j := hp_sgn (Int.mul_pos h0 hBc) hBr k
  omega
theorem hp_nT {n : Nat} (h : n ≤ 24) : (nI n).toInt64.toInt = (n : Int) ∧ ((n : Int)).natAbs ≤ 24 :=
  ⟨by rw [Int32.toInt_toInt64, nI_toInt (by omega)], by omega⟩
theorem hp_cmp {nl nr : Nat} {s sl : Int32} {B3 B4 C1 C2 : Int64} {G Bc T Br : Int} (hn : nl + nr ≤ 24) (h1 : 0 < nl) (h2 : 0 < nr) (hs : s.toInt.natAbs ≤ 9600) (hsl : sl.toInt.natAbs ≤ 9600)
    (eG : B3.toInt = G) (eB : B4.toInt = Bc) (eT : C1.toInt = T) (eR : C2.toInt = Br) (bG : G.natAbs ≤ 1000000000000) (bB : Bc.natAbs ≤ 576) (bT : T.natAbs ≤ 100000000000) (bR : Br.natAbs ≤ 576) (pB : 0 < Bc) (pR : 0 < Br)
    (hI : ((nl : Int) + nr) * T * Bc = Br * (G + s.toInt * s.toInt * Bc)) :
    (((hp_d (nI nl) sl (nI nr) (s - sl) * hp_d (nI nl) sl (nI nr) (s - sl)) * B4 ≤ B3 * ((nI nl).toInt64 * (nI nr).toInt64)) ↔ (hp_t (nI nl).toInt64 sl.toInt64 (nI nr).toInt64 (s.toInt64 - sl.toInt64) * C2 ≤ (C1 * (nI nl).toInt64) * (nI nr).toInt64)) ∧
    ∃ sr : Int, s.toInt = sl.toInt + sr ∧ (hp_d (nI nl) sl (nI nr) (s - sl) * hp_d (nI nl) sl (nI nr) (s - sl)).toInt = (sl.toInt * nr - sr * nl) * (sl.toInt * nr - sr * nl) ∧ ((sl.toInt * nr - sr * nl) * (sl.toInt * nr - sr * nl)).natAbs ≤ 1000000000000 ∧
    ((nI nl).toInt64 * (nI nr).toInt64).toInt = (nl : Int) * nr ∧ ((nl : Int) * nr).natAbs ≤ 576 ∧
    (hp_t (nI nl).toInt64 sl.toInt64 (nI nr).toInt64 (s.toInt64 - sl.toInt64)).toInt = sl.toInt * sl.toInt * nr + sr * sr * nl ∧ (sl.toInt * sl.toInt * nr + sr * sr * nl).natAbs ≤ 100000000000 := by
  obtain ⟨eL, bL⟩ := hp_nT (n := nl) (by omega)
  obtain ⟨eN, bN⟩ := hp_nT (n := nr) (by omega)
  have e1 : sl.toInt64.toInt = sl.toInt := Int32.toInt_toInt64 _
  have e2 : s.toInt64.toInt = s.toInt := Int32.toInt_toInt64 _
  obtain ⟨e3, b3⟩ := hp_subB e2 e1 hs hsl (by decide)
  have e4 : (s - sl).toInt64.toInt = s.toInt - sl.toInt := by
    rw [Int32.toInt_toInt64, Int32.toInt_sub, hp_b32 (by omega)]
  have ex : s.toInt = sl.toInt + (s.toInt - sl.toInt) := by omega
  generalize s.toInt - sl.toInt = sr at e3 b3 e4 ex
  generalize hS : s.toInt = S at hI hs e2 ex
  generalize hSl : sl.toInt = Sl at hsl e1 ex
  generalize hL : (nl : Int) = NL at eL bL hI
  generalize hN : (nr : Int) = NR at eN bN hI
  obtain ⟨m1, c1⟩ := hp_mulB e1 eN hsl bN (by decide)
  obtain ⟨m2, c2⟩ := hp_mulB e4 eL b3 bL (by decide)
  obtain ⟨m3, c3⟩ := hp_subB m1 m2 c1 c2 (by decide)
  obtain ⟨m4, c4⟩ := hp_mulB m3 m3 c3 c3 (by decide)
  obtain ⟨m5, c5⟩ := hp_mulB eL eN bL bN (by decide)
  obtain ⟨m6, c6⟩ := hp_mulB m4 eB c4 bB (by decide)
  obtain ⟨m7, c7⟩ := hp_mulB eG m5 bG c5 (by decide)
  obtain ⟨t1, d1⟩ := hp_mulB e1 e1 hsl hsl (by decide)
  obtain ⟨t2, d2⟩ := hp_mulB t1 eN d1 bN (by decide)
  obtain ⟨t3, d3⟩ := hp_mulB e3 e3 b3 b3 (by decide)
  obtain ⟨t4, d4⟩ := hp_mulB t3 eL d3 bL (by decide)
  obtain ⟨t5, d5⟩ := hp_addB t2 t4 d2 d4 (by decide)
  obtain ⟨t6, d6⟩ := hp_mulB t5 eR d5 bR (by decide)
  obtain ⟨t7, d7⟩ := hp_mulB eT eL bT bL (by decide)
  obtain ⟨t8, d8⟩ := hp_mulB t7 eN d7 bN (by decide)
  have pN : 0 < NL + NR := by omega
  have K := hp_gain (sl := Sl) (sr := sr) (n := NL + NR) rfl ex.symm pN pB pR hI
  unfold hp_d hp_t
  refine ⟨?_, sr, ex, m4, Nat.le_trans c4 (by decide), m5, c5, t5, Nat.le_trans d5 (by decide)⟩
  rw [Int64.le_iff_toInt_le, Int64.le_iff_toInt_le, m6, m7, t6, t8]
  rw [Int.mul_assoc T NL NR]
  omega
