section
/-! rows pasted from the rows given for pasting -/
theorem pk_us {f : Nat → Int32} {k : Nat} {x : Int32} : upd f k x k = x := if_pos rfl
theorem pk_un {f : Nat → Int32} {k j : Nat} {x : Int32} (h : j ≠ k) : upd f k x j = f j := if_neg h
theorem pk_sub {a b : Nat} (h : b ≤ a) : nI a - nI b = nI (a - b) := by
  obtain ⟨c, rfl⟩ : ∃ c, a = c + b := ⟨a - b, by omega⟩
  rw [← nI_add, Int32.add_sub_cancel, Nat.add_sub_cancel]
theorem pk_mul (a b : Nat) : nI a * nI b = nI (a * b) := (Int32.ofNat_mul a b).symm
theorem pk_ix (x : Int32) {n : Nat} (hn : n < 2 ^ 31) : x < 0 ∨ nI n ≤ x ∨ ∃ j : Nat, j < n ∧ x = nI j := by
  by_cases h : x < 0
  · exact Or.inl h
  · obtain ⟨j, hj, rfl⟩ := nI_of h
    by_cases h2 : j < n
    · exact Or.inr (Or.inr ⟨j, h2, rfl⟩)
    · exact Or.inr (Or.inl (nI_le (by omega) hj))
theorem pk_le {x y : Int32} {A B : Prop} (a b : Nat) (f : a ≤ b → A) (g : b < a → B) (hx : x = nI a := by rfl) (hy : y = nI b := by rfl) (ha : a < 2 ^ 31 := by omega) (hb : b < 2 ^ 31 := by omega) : (x ≤ y → A) ∧ (¬ x ≤ y → B) := by
  subst hx hy
  rw [nI_leI ha hb]
  exact ⟨f, fun z => g (by omega)⟩
theorem pk_lt {x y : Int32} {A B : Prop} (a b : Nat) (f : a < b → A) (g : b ≤ a → B) (hx : x = nI a := by rfl) (hy : y = nI b := by rfl) (ha : a < 2 ^ 31 := by omega) (hb : b < 2 ^ 31 := by omega) : (x < y → A) ∧ (¬ x < y → B) := by
  subst hx hy
  rw [nI_ltI ha hb]
  exact ⟨f, fun z => g (by omega)⟩
theorem pk_eq {x y : Int32} {A B : Prop} (a b : Nat) (f : a = b → A) (g : a ≠ b → B) (hx : x = nI a := by rfl) (hy : y = nI b := by rfl) (ha : a < 2 ^ 31 := by omega) (hb : b < 2 ^ 31 := by omega) : (x = y → A) ∧ (¬ x = y → B) := by
  subst hx hy
  rw [nI_eq ha hb]
  exact ⟨f, g⟩
theorem pk_in {x : Int32} (n N : Nat) (h : n < N) (hx : x = nI n := by rfl) (hN : N < 2 ^ 31 := by omega) : vp_in x N := by
  subst hx
  exact vp_in_nI h hN
theorem pk_cl {x : Int32} (n : Nat) (hx : x = nI n := by rfl) (h : n < 2 ^ 31 := by omega) : x.toNatClampNeg = n := by
  subst hx
  exact nI_clamp h
theorem pk_and (x : Int32) {m : Int32} (k : Nat) (hm : m.toBitVec.toNat = 2 ^ k - 1) : x &&& m = nI (x.toBitVec.toNat % 2 ^ k) := by
  apply Int32.toBitVec_inj.mp
  apply BitVec.eq_of_toNat_eq
  rw [Int32.toBitVec_and, BitVec.toNat_and, hm, Nat.and_two_pow_sub_one_eq_mod]
  show _ = (BitVec.ofNat 32 _).toNat
  rw [BitVec.toNat_ofNat]
  exact (Nat.mod_eq_of_lt (Nat.lt_of_le_of_lt (Nat.mod_le _ _) x.toBitVec.isLt)).symm
theorem pk_andE (x : Int32) {m : Int32} (k : Nat) (hm : m.toBitVec.toNat = 2 ^ k - 1) : ∃ j : Nat, j < 2 ^ k ∧ x &&& m = nI j := ⟨_, Nat.mod_lt _ (Nat.two_pow_pos k), pk_and x k hm⟩
theorem pk_lT {n : Nat} (h : n < 2 ^ 63) : (lN n).toInt = (n : Int) := lg_ofNat_toInt h
theorem pk_lLT {a b : Nat} (ha : a < 2 ^ 63) (hb : b < 2 ^ 63) : lN a < lN b ↔ a < b := by
  rw [Int64.lt_iff_toInt_lt, pk_lT ha, pk_lT hb]; omega
theorem pk_lLE {a b : Nat} (ha : a < 2 ^ 63) (hb : b < 2 ^ 63) : lN a ≤ lN b ↔ a ≤ b := by
  rw [Int64.le_iff_toInt_le, pk_lT ha, pk_lT hb]; omega
def bt (x : Int32) (i : Nat) : Bool := x.toBitVec.getLsbD i
theorem b_ext {x y : Int32} (h : ∀ i, i < 32 → bt x i = bt y i) : x = y := Int32.toBitVec_inj.mp (BitVec.eq_of_getLsbD_eq (fun i hi => h i hi))
theorem b_and (x y : Int32) (i : Nat) : bt (x &&& y) i = (bt x i && bt y i) := by unfold bt; rw [Int32.toBitVec_and, BitVec.getLsbD_and]
theorem b_big {x : Int32} {i : Nat} (h : 32 ≤ i) : bt x i = false := BitVec.getLsbD_of_ge _ _ h
theorem s_l : ∀ n, n < 32 → ((nI n &&& 31).toBitVec.smod 32).toNat = n := by decide +kernel
theorem b_sshr (n : Nat) (hn : n < 32) (x : Int32) {i : Nat} (hi : i < 32) : bt (x >>> (nI n &&& 31)) i = if n + i < 32 then bt x (n + i) else bt x 31 := by
  unfold bt
  rw [Int32.toBitVec_shiftRight]
  show (x.toBitVec.sshiftRight ((nI n &&& 31).toBitVec.smod 32).toNat).getLsbD i = _
  rw [s_l n hn, BitVec.getLsbD_sshiftRight, BitVec.msb_eq_getLsbD_last]
  simp [hi]
end
section
/-! the pure picture: fields, counts, sums, offers, sending, growing, predicting -/
abbrev hp_A : Type := Nat → Int32
abbrev hp_B : Type := Int32 × Int32 × Int64 × Int64
abbrev hp_C : Type := Int64 × Int64 × hp_A × hp_A
abbrev hp_T : Type := hp_A × hp_A × hp_A × hp_A × hp_A
/-- the three bits of x that belong to feature f -/
def hp_fld (x f : Int32) : Int32 := (x >>> ((3 * f) &&& 31)) &&& 7
theorem hp_fld7 (x f : Int32) : ¬ (7 : Int32) < hp_fld x f := by
  obtain ⟨j, hj, e⟩ := pk_andE (x >>> ((3 * f) &&& 31)) (m := 7) 3 (by decide)
  unfold hp_fld
  rw [e]
  exact nI_nlt (a := 7) (by omega) (by decide)
theorem hp_fm (x : Int32) (j : Nat) (hj : j < 3) : hp_fld (x &&& 511) (nI j) = hp_fld x (nI j) := by
  unfold hp_fld
  have e : (3 : Int32) * nI j = nI (3 * j) := pk_mul 3 j
  rw [e]
  apply b_ext
  intro i hi
  rw [b_and, b_and, b_sshr (3 * j) (by omega) _ hi, b_sshr (3 * j) (by omega) _ hi]
  by_cases h : i < 3
  · rw [if_pos (by omega), if_pos (by omega), b_and]
    have h9 : bt 511 (3 * j + i) = true := (by decide +kernel : ∀ k, k < 9 → bt 511 k = true) _ (by omega)
    rw [h9, Bool.and_true]
  · have h7 : bt 7 i = false := (by decide +kernel : ∀ k, k < 32 → 3 ≤ k → bt 7 k = false) i hi (by omega)
    rw [h7, Bool.and_false, Bool.and_false]
/-- row i is in node nd, at most b in field f -/
def hp_g (wh pk : hp_A) (nd f b : Int32) (i : Nat) : Bool := if wh i = nd then (if b < hp_fld (pk i) f then false else true) else false
theorem hp_g_t {wh pk : hp_A} {nd f b : Int32} {i : Nat} (h : wh i = nd) (h2 : ¬ b < hp_fld (pk i) f) : hp_g wh pk nd f b i = true := by
  unfold hp_g; rw [if_pos h, if_neg h2]
theorem hp_g_f {wh pk : hp_A} {nd f b : Int32} {i : Nat} (h : b < hp_fld (pk i) f) : ¬ hp_g wh pk nd f b i = true := by
  unfold hp_g; rw [if_pos h]; simp
theorem hp_g_n {wh pk : hp_A} {nd f b : Int32} {i : Nat} (h : ¬ wh i = nd) : ¬ hp_g wh pk nd f b i = true := by
  unfold hp_g; rw [if_neg h]; simp
theorem hp_g_m {wh pk : hp_A} {nd f b : Int32} {i : Nat} (h : hp_g wh pk nd f b i = true) : hp_g wh pk nd 0 7 i = true := by
  by_cases e : wh i = nd
  · exact hp_g_t e (hp_fld7 _ _)
  · exact absurd h (hp_g_n e)
theorem hp_g_k (wh rf : hp_A) (nd : Int32) (j : Nat) (hj : j < 3) (b : Int32) : hp_g wh (fun i => rf i &&& 511) nd (nI j) b = hp_g wh rf nd (nI j) b := by
  funext i; unfold hp_g; rw [hp_fm _ j hj]
def hp_cnt (g : Nat → Bool) : Nat → Nat
  | 0 => 0
  | c + 1 => if g c = true then hp_cnt g c + 1 else hp_cnt g c
def hp_sm (g : Nat → Bool) (r : hp_A) : Nat → Int32
  | 0 => 0
  | c + 1 => if g c = true then hp_sm g r c + r c else hp_sm g r c
def hp_sL (g : Nat → Bool) (r : hp_A) : Nat → Int64
  | 0 => 0
  | c + 1 => if g c = true then hp_sL g r c + (r c).toInt64 else hp_sL g r c
theorem hp_cnt_1 {g : Nat → Bool} {i : Nat} (h : g i = true) : hp_cnt g (i + 1) = hp_cnt g i + 1 := if_pos h
theorem hp_cnt_0 {g : Nat → Bool} {i : Nat} (h : ¬ g i = true) : hp_cnt g (i + 1) = hp_cnt g i := if_neg h
theorem hp_sm_1 {g : Nat → Bool} {r : hp_A} {i : Nat} (h : g i = true) : hp_sm g r (i + 1) = hp_sm g r i + r i := if_pos h
theorem hp_sm_0 {g : Nat → Bool} {r : hp_A} {i : Nat} (h : ¬ g i = true) : hp_sm g r (i + 1) = hp_sm g r i := if_neg h
theorem hp_sL_1 {g : Nat → Bool} {r : hp_A} {i : Nat} (h : g i = true) : hp_sL g r (i + 1) = hp_sL g r i + (r i).toInt64 := if_pos h
theorem hp_sL_0 {g : Nat → Bool} {r : hp_A} {i : Nat} (h : ¬ g i = true) : hp_sL g r (i + 1) = hp_sL g r i := if_neg h
theorem hp_n1 {g : Nat → Bool} {i : Nat} (h : g i = true) : nI (hp_cnt g i) + 1 = nI (hp_cnt g (i + 1)) := by rw [hp_cnt_1 h, nI_1]
/-- X's offers -/
def hp_d (nl sl nr sr : Int32) : Int64 := (sl.toInt64 * nr.toInt64) - (sr.toInt64 * nl.toInt64)
def hp_of (f b nl sl nr sr : Int32) (S : hp_B) : hp_B :=
  if (hp_d nl sl nr sr * hp_d nl sl nr sr) * S.2.2.2 ≤ S.2.2.1 * (nl.toInt64 * nr.toInt64) then S else (f, b, hp_d nl sl nr sr * hp_d nl sl nr sr, nl.toInt64 * nr.toInt64)
def hp_xo (L n s nl sl f b : Int32) (S : hp_B) : hp_B := if nl < L then S else if n - nl < L then S else hp_of f b nl sl (n - nl) (s - sl) S
def hp_xi (L n s : Int32) (c : Nat) (wh pk re : hp_A) (nd f : Int32) (S : hp_B) : Nat → hp_B
  | 0 => S
  | j + 1 => hp_xo L n s (nI (hp_cnt (hp_g wh pk nd f (nI j)) c)) (hp_sm (hp_g wh pk nd f (nI j)) re c) f (nI j) (hp_xi L n s c wh pk re nd f S j)
def hp_xb (L n s : Int32) (c : Nat) (wh pk re : hp_A) (nd : Int32) : Nat → hp_B
  | 0 => (-6, -6, 0, 1)
  | k + 1 => hp_xi L n s c wh pk re nd (nI k) (hp_xb L n s c wh pk re nd k) 7
/-- Y's offers: top, bottom, features, bounds -/
def hp_t (nl sl nr sr : Int64) : Int64 := ((sl * sl) * nr) + ((sr * sr) * nl)
def hp_yo (L : Int32) (n s : Int64) (nl : Int32) (sl : Int64) (x : Nat) (f b : Int32) (S : hp_C) : hp_C :=
  if nl.toInt64 < L.toInt64 then S else if n - nl.toInt64 < L.toInt64 then S else
  if hp_t nl.toInt64 sl (n - nl.toInt64) (s - sl) * S.2.1 ≤ (S.1 * nl.toInt64) * (n - nl.toInt64) then S else
  (hp_t nl.toInt64 sl (n - nl.toInt64) (s - sl), nl.toInt64 * (n - nl.toInt64), upd S.2.2.1 x f, upd S.2.2.2 x b)
def hp_yi (L : Int32) (n s : Int64) (c : Nat) (wh pk re : hp_A) (x : Nat) (nd f : Int32) (S : hp_C) : Nat → hp_C
  | 0 => S
  | j + 1 => hp_yo L n s (nI (hp_cnt (hp_g wh pk nd f (nI j)) c)) (hp_sL (hp_g wh pk nd f (nI j)) re c) x f (nI j) (hp_yi L n s c wh pk re x nd f S j)
def hp_yb (L : Int32) (n s : Int64) (c : Nat) (wh pk re : hp_A) (x : Nat) (nd : Int32) (S : hp_C) : Nat → hp_C
  | 0 => S
  | k + 1 => hp_yi L n s c wh pk re x nd (nI k) (hp_yb L n s c wh pk re x nd S k) 7
/-- the rows of node nd go to l or r: i rows sent -/
def hp_snd (pk : hp_A) (nd f b l r : Int32) (wh : hp_A) : Nat → hp_A
  | 0 => wh
  | i + 1 => if hp_snd pk nd f b l r wh i i = nd then (if b < hp_fld (pk i) f then upd (hp_snd pk nd f b l r wh i) i r else upd (hp_snd pk nd f b l r wh i) i l) else hp_snd pk nd f b l r wh i
theorem hp_snd_k (rf : hp_A) (nd : Int32) (j : Nat) (hj : j < 3) (b l r : Int32) (wh : hp_A) : ∀ i, hp_snd (fun i => rf i &&& 511) nd (nI j) b l r wh i = hp_snd rf nd (nI j) b l r wh i
  | 0 => rfl
  | i + 1 => by
    simp only [hp_snd]
    rw [hp_snd_k rf nd j hj b l r wh i, hp_fm _ j hj]
/-- a node is grown: features, bounds, values, sizes, nodes of the rows -/
def hp_dv (n s : Int32) : Int32 := if n = 0 then 0 else s / n
def hp_xl (x : Nat) (n s : Int32) (S : hp_T) : hp_T := (S.1, S.2.1, upd S.2.2.1 x (hp_dv n s), upd S.2.2.2.1 x n, S.2.2.2.2)
def hp_xs (c : Nat) (rf : hp_A) (t k : Nat) (n : Int32) (B : hp_B) (S : hp_T) : hp_T :=
  (upd (upd (upd S.1 (t * 7 + k) B.1) (t * 7 + (2 * k + 1)) (-6)) (t * 7 + (2 * k + 2)) (-6),
   upd (upd (upd S.2.1 (t * 7 + k) B.2.1) (t * 7 + (2 * k + 1)) (-6)) (t * 7 + (2 * k + 2)) (-6),
   S.2.2.1, upd S.2.2.2.1 (t * 7 + k) n, hp_snd rf (nI k) B.1 B.2.1 (nI (2 * k + 1)) (nI (2 * k + 2)) S.2.2.2.2 c)
def hp_x3 (c : Nat) (rf : hp_A) (t k : Nat) (n s : Int32) (B : hp_B) (S : hp_T) : hp_T := if B.1 = -6 then hp_xl (t * 7 + k) n s S else hp_xs c rf t k n B S
def hp_x2 (L : Int32) (c : Nat) (rf re : hp_A) (t k : Nat) (n s : Int32) (S : hp_T) : hp_T :=
  if 3 ≤ k then hp_xl (t * 7 + k) n s S else hp_x3 c rf t k n s (hp_xb L n s c S.2.2.2.2 rf re (nI k) 3) S
def hp_xg (L : Int32) (c : Nat) (rf re : hp_A) (t k : Nat) (S : hp_T) : hp_T :=
  if S.1 (t * 7 + k) = -7 then S else hp_x2 L c rf re t k (nI (hp_cnt (hp_g S.2.2.2.2 rf (nI k) 0 7) c)) (hp_sm (hp_g S.2.2.2.2 rf (nI k) 0 7) re c) S
def hp_xP (L : Int32) (c : Nat) (rf re : hp_A) (t : Nat) (S : hp_T) : Nat → hp_T
  | 0 => S
  | k + 1 => hp_xg L c rf re t k (hp_xP L c rf re t S k)
/-- the same of Y: settle's last step, split's end, settle -/
def hp_yv (x : Nat) (n s : Int32) (S : hp_T) : hp_T := if S.1 x = -6 then (if n ≤ 0 then S else (S.1, S.2.1, upd S.2.2.1 x (s / n), S.2.2.2.1, S.2.2.2.2)) else S
def hp_ys (c : Nat) (pk : hp_A) (t k : Nat) (C : hp_C) (S : hp_T) : hp_T :=
  if C.2.2.1 (t * 7 + k) < 0 then (C.2.2.1, C.2.2.2, S.2.2.1, S.2.2.2.1, S.2.2.2.2) else
  (upd (upd C.2.2.1 (t * 7 + (2 * k + 1)) (-6)) (t * 7 + (2 * k + 2)) (-6), C.2.2.2, S.2.2.1, S.2.2.2.1,
   hp_snd pk (nI k) (C.2.2.1 (t * 7 + k)) (C.2.2.2 (t * 7 + k)) (nI (2 * k + 1)) (nI (2 * k + 2)) S.2.2.2.2 c)
def hp_yp (L : Int32) (c : Nat) (pk re : hp_A) (t k : Nat) (n : Int32) (sL : Int64) (S : hp_T) : hp_T :=
  hp_ys c pk t k (hp_yb L n.toInt64 sL c S.2.2.2.2 pk re (t * 7 + k) (nI k) (sL * sL, n.toInt64, S.1, S.2.1) 3) S
def hp_y2 (L : Int32) (c : Nat) (pk re : hp_A) (t k : Nat) (n : Int32) (sL : Int64) (S : hp_T) : hp_T :=
  if 3 ≤ k then hp_yv (t * 7 + k) n sL.toInt32 S else if n ≤ 0 then hp_yv (t * 7 + k) n sL.toInt32 S else hp_yv (t * 7 + k) n sL.toInt32 (hp_yp L c pk re t k n sL S)
def hp_sz (x : Nat) (n : Int32) (S : hp_T) : hp_T := (S.1, S.2.1, S.2.2.1, upd S.2.2.2.1 x n, S.2.2.2.2)
def hp_yst (L : Int32) (c : Nat) (pk re : hp_A) (t k : Nat) (S : hp_T) : hp_T :=
  hp_y2 L c pk re t k (nI (hp_cnt (hp_g S.2.2.2.2 pk (nI k) 0 7) c)) (hp_sL (hp_g S.2.2.2.2 pk (nI k) 0 7) re c) (hp_sz (t * 7 + k) (nI (hp_cnt (hp_g S.2.2.2.2 pk (nI k) 0 7) c)) S)
def hp_yg (L : Int32) (c : Nat) (pk re : hp_A) (t k : Nat) (S : hp_T) : hp_T := if S.1 (t * 7 + k) = -6 then hp_yst L c pk re t k S else S
def hp_yP (L : Int32) (c : Nat) (pk re : hp_A) (t : Nat) (S : hp_T) : Nat → hp_T
  | 0 => S
  | k + 1 => hp_yg L c pk re t k (hp_yP L c pk re t S k)
/-- Y's leaves after k nodes -/
def hp_yl (L : Int32) (c : Nat) (pk re : hp_A) (t : Nat) (S : hp_T) (j : Nat) : Bool := decide ((hp_yP L c pk re t S (j + 1)).1 (t * 7 + j) = -6)
/-- planting -/
def hp_pl (f : hp_A) (a : Nat) (v0 v : Int32) (k : Nat) : hp_A := fun j => if a ≤ j ∧ j < a + k then (if j = a then v0 else v) else f j
theorem hp_pl0 (f : hp_A) (a : Nat) (v0 v : Int32) : hp_pl f a v0 v 0 = f := by
  funext j; unfold hp_pl; rw [if_neg (by omega)]
theorem hp_pls (f : hp_A) (a : Nat) (v0 v : Int32) (k : Nat) : upd (hp_pl f a v0 v k) (a + k) (if k = 0 then v0 else v) = hp_pl f a v0 v (k + 1) := by
  funext j
  show (if j = a + k then (if k = 0 then v0 else v) else (if a ≤ j ∧ j < a + k then (if j = a then v0 else v) else f j)) = (if a ≤ j ∧ j < a + (k + 1) then (if j = a then v0 else v) else f j)
  by_cases h : j = a + k
  · have h2 : a ≤ j ∧ j < a + (k + 1) := by omega
    rw [if_pos h, if_pos h2]
    by_cases h0 : k = 0
    · have h3 : j = a := by omega
      rw [if_pos h0, if_pos h3]
    · have h3 : ¬ j = a := by omega
      rw [if_neg h0, if_neg h3]
  · rw [if_neg h]
    by_cases h1 : a ≤ j ∧ j < a + k
    · have h2 : a ≤ j ∧ j < a + (k + 1) := by omega
      rw [if_pos h1, if_pos h2]
    · have h2 : ¬ (a ≤ j ∧ j < a + (k + 1)) := by omega
      rw [if_neg h1, if_neg h2]
theorem hp_plS (f : hp_A) (a : Nat) (v : Int32) (k : Nat) : upd (hp_pl f a v v k) (a + k) v = hp_pl f a v v (k + 1) := by
  have h := hp_pls f a v v k
  rw [ite_self] at h
  exact h
theorem hp_plu (f : hp_A) (a : Nat) (v0 v : Int32) (k : Nat) (hk : 0 < k) : upd (hp_pl f a v v k) a v0 = hp_pl f a v0 v k := by
  funext j
  show (if j = a then v0 else (if a ≤ j ∧ j < a + k then (if j = a then v else v) else f j)) = (if a ≤ j ∧ j < a + k then (if j = a then v0 else v) else f j)
  by_cases h : j = a
  · have h2 : a ≤ j ∧ j < a + k := by omega
    rw [if_pos h, if_pos h2, if_pos h]
  · rw [if_neg h, if_neg h, if_neg h]
/-- predictions -/
def hp_w (fe bo : hp_A) (x : Int32) (a m : Nat) : Nat := if fe (a + m) < 0 then m else if bo (a + m) < hp_fld x (fe (a + m)) then 2 * m + 2 else 2 * m + 1
theorem hp_w_le (fe bo : hp_A) (x : Int32) (a m : Nat) : hp_w fe bo x a m ≤ 2 * m + 2 := by
  unfold hp_w; split
  · omega
  · split <;> omega
def hp_lf (fe bo va : hp_A) (x : Int32) (a : Nat) : Int32 := va (a + hp_w fe bo x a (hp_w fe bo x a 0))
def hp_pr (fe bo va : hp_A) (x : Int32) : Nat → Int32
  | 0 => 0
  | t + 1 => hp_pr fe bo va x t + hp_lf fe bo va x (t * 7)
/-- the rests of the first i rows -/
def hp_rs (fe bo va pk tg : hp_A) (t : Nat) (re : hp_A) : Nat → hp_A
  | 0 => re
  | i + 1 => upd (hp_rs fe bo va pk tg t re i) i (tg i - hp_pr fe bo va (pk i) t)
/-- the loss -/
def hp_ls (fe bo va pk tg : hp_A) (t : Nat) : Nat → Int32
  | 0 => 0
  | i + 1 => hp_ls fe bo va pk tg t i + (tg i - hp_pr fe bo va (pk i) t) * (tg i - hp_pr fe bo va (pk i) t)
/-- numbers -/
theorem hp_at (t k : Nat) : nI t * 7 + nI k = nI (t * 7 + k) := by
  have e : nI t * 7 = nI (t * 7) := pk_mul t 7
  rw [e, nI_add]
theorem hp_c1 (k : Nat) : 2 * nI k + 1 = nI (2 * k + 1) := by
  have e : (2 : Int32) * nI k = nI (2 * k) := pk_mul 2 k
  rw [e, nI_1]
theorem hp_c2 (k : Nat) : 2 * nI k + 2 = nI (2 * k + 2) := by
  have e : (2 : Int32) * nI k = nI (2 * k) := pk_mul 2 k
  have e2 : nI (2 * k) + 2 = nI (2 * k + 2) := nI_add (2 * k) 2
  rw [e, e2]
end
section
/-! X: counting, summing, offering, the best split -/
theorem hp_Xcnt6 {L : Int32} {c t : Nat} {f1 f2 : Int32} {f3 f4 : Int64} {rf tg fe cb va sz re wh : Nat → Int32} (hc : c ≤ 24) {post : Int32 → Prop} {nd fx b : Int32} (H : post (nI (hp_cnt (hp_g wh rf nd fx b) c))) : ∀ n i, i ≤ c → c - i < n → wX_countLeft_6 post nd fx b L (nI c) (nI t) f1 f2 f3 f4 rf tg fe cb va sz re wh n (nI (hp_cnt (hp_g wh rf nd fx b) i)) (nI i) := by
  intro n
  induction n with
  | zero => intro i _ h; omega
  | succ n ih =>
    intro i hi hn
    refine pk_le c i (fun h => ?_) (fun h => ?_)
    · have e : i = c := by omega
      rw [e]; exact H
    · have hcl : (nI i).toNatClampNeg = i := nI_clamp (by omega)
      have hin : vp_in (nI i) 24 := vp_in_nI (by omega) (by omega)
      have J := ih (i + 1) (by omega) (by omega)
      rw [hcl]
      refine ⟨hin, ?_⟩
      by_cases hw : wh i = nd
      · refine br_t hw ⟨hin, ?_⟩
        by_cases hb : b < hp_fld (rf i) fx
        · refine br_t hb (nm_r (nI_1 i) ?_)
          rw [hp_cnt_0 (hp_g_f hb)] at J
          exact J
        · exact br_f hb (nm_r (hp_n1 (hp_g_t hw hb)) (nm_r (nI_1 i) J))
      · refine br_f hw (nm_r (nI_1 i) ?_)
        rw [hp_cnt_0 (hp_g_n hw)] at J
        exact J
theorem hp_Xcnt {L : Int32} {c t : Nat} {f1 f2 : Int32} {f3 f4 : Int64} {rf tg fe cb va sz re wh : Nat → Int32} (hc : c ≤ 24) {post : Int32 → Prop} {nd fx b : Int32} (H : post (nI (hp_cnt (hp_g wh rf nd fx b) c))) : wpX_countLeft post (L, (nI c), (nI t), f1, f2, f3, f4, rf, tg, fe, cb, va, sz, re, wh) nd fx b :=
  ⟨c + 1, hp_Xcnt6 hc H (c + 1) 0 (Nat.zero_le _) (by omega)⟩
theorem hp_Xsum6 {L : Int32} {c t : Nat} {f1 f2 : Int32} {f3 f4 : Int64} {rf tg fe cb va sz re wh : Nat → Int32} (hc : c ≤ 24) {post : Int32 → Prop} {nd fx b : Int32} (H : post (hp_sm (hp_g wh rf nd fx b) re c)) : ∀ n i, i ≤ c → c - i < n → wX_sumLeft_6 post nd fx b L (nI c) (nI t) f1 f2 f3 f4 rf tg fe cb va sz re wh n (hp_sm (hp_g wh rf nd fx b) re i) (nI i) := by
  intro n
  induction n with
  | zero => intro i _ h; omega
  | succ n ih =>
    intro i hi hn
    refine pk_le c i (fun h => ?_) (fun h => ?_)
    · have e : i = c := by omega
      rw [e]; exact H
    · have hcl : (nI i).toNatClampNeg = i := nI_clamp (by omega)
      have hin : vp_in (nI i) 24 := vp_in_nI (by omega) (by omega)
      have J := ih (i + 1) (by omega) (by omega)
      rw [hcl]
      refine ⟨hin, ?_⟩
      by_cases hw : wh i = nd
      · refine br_t hw ⟨hin, ?_⟩
        by_cases hb : b < hp_fld (rf i) fx
        · refine br_t hb (nm_r (nI_1 i) ?_)
          rw [hp_sm_0 (hp_g_f hb)] at J
          exact J
        · exact br_f hb ⟨hin, nm_r (hp_sm_1 (hp_g_t hw hb)).symm (nm_r (nI_1 i) J)⟩
      · refine br_f hw (nm_r (nI_1 i) ?_)
        rw [hp_sm_0 (hp_g_n hw)] at J
        exact J
theorem hp_Xsum {L : Int32} {c t : Nat} {f1 f2 : Int32} {f3 f4 : Int64} {rf tg fe cb va sz re wh : Nat → Int32} (hc : c ≤ 24) {post : Int32 → Prop} {nd fx b : Int32} (H : post (hp_sm (hp_g wh rf nd fx b) re c)) : wpX_sumLeft post (L, (nI c), (nI t), f1, f2, f3, f4, rf, tg, fe, cb, va, sz, re, wh) nd fx b :=
  ⟨c + 1, hp_Xsum6 hc H (c + 1) 0 (Nat.zero_le _) (by omega)⟩
theorem hp_Xoff {L : Int32} {c t : Nat} {rf tg fe cb va sz re wh : Nat → Int32} {post : SX → Prop} {B : hp_B} {fx b nl sl nr sr : Int32} (H : post (L, (nI c), (nI t), ((hp_of fx b nl sl nr sr B).1), ((hp_of fx b nl sl nr sr B).2.1), ((hp_of fx b nl sl nr sr B).2.2.1), ((hp_of fx b nl sl nr sr B).2.2.2), rf, tg, fe, cb, va, sz, re, wh)) :
    wpX_offerSplit post (L, (nI c), (nI t), B.1, B.2.1, B.2.2.1, B.2.2.2, rf, tg, fe, cb, va, sz, re, wh) fx b nl sl nr sr := by
  unfold hp_of at H
  refine nm_e (nm_e (nm_e ?_))
  by_cases h : (hp_d nl sl nr sr * hp_d nl sl nr sr) * B.2.2.2 ≤ B.2.2.1 * (nl.toInt64 * nr.toInt64)
  · rw [if_pos h] at H
    exact br_t h H
  · rw [if_neg h] at H
    exact br_f h H
theorem hp_Xin {L : Int32} {c t : Nat} {rf tg fe cb va sz re wh : Nat → Int32} (hc : c ≤ 24) {post : SX → Prop} {J : Int32 → Int32 → Int32 → Int32 → Int32 → Int32 → Int64 → Int64 → hp_A → hp_A → hp_A → hp_A → hp_A → hp_A → hp_A → hp_A → Prop} {nd n s fx : Int32} {B : hp_B}
    (H : J (fx + 1) L (nI c) (nI t) ((hp_xi L n s c wh rf re nd fx B 7).1) ((hp_xi L n s c wh rf re nd fx B 7).2.1) ((hp_xi L n s c wh rf re nd fx B 7).2.2.1) ((hp_xi L n s c wh rf re nd fx B 7).2.2.2) rf tg fe cb va sz re wh) :
    ∀ m j, j ≤ 7 → 7 - j < m → wX_findBestSplit_34 post J nd n s fx m (nI j) L (nI c) (nI t) ((hp_xi L n s c wh rf re nd fx B j).1) ((hp_xi L n s c wh rf re nd fx B j).2.1) ((hp_xi L n s c wh rf re nd fx B j).2.2.1) ((hp_xi L n s c wh rf re nd fx B j).2.2.2) rf tg fe cb va sz re wh := by
  intro m
  induction m with
  | zero => intro j _ h; omega
  | succ m ih =>
    intro j hj hm
    refine pk_le 7 j (fun h => ?_) (fun h => ?_)
    · have e : j = 7 := by omega
      rw [e]; exact nm_e H
    · have K := ih (j + 1) (by omega) (by omega)
      simp only [hp_xi] at K
      refine hp_Xcnt hc (hp_Xsum hc ?_)
      generalize hnl : nI (hp_cnt (hp_g wh rf nd fx (nI j)) c) = nl at K ⊢
      generalize hsl : hp_sm (hp_g wh rf nd fx (nI j)) re c = sl at K ⊢
      generalize hp_xi L n s c wh rf re nd fx B j = S at K ⊢
      unfold hp_xo at K
      by_cases h1 : nl < L
      · rw [if_pos h1] at K
        exact br_t h1 (nm_r (nI_1 j) K)
      · rw [if_neg h1] at K
        refine br_f h1 ?_
        by_cases h2 : n - nl < L
        · rw [if_pos h2] at K
          exact br_t h2 (nm_r (nI_1 j) K)
        · rw [if_neg h2] at K
          refine br_f h2 (hp_Xoff ?_)
          exact nm_r (nI_1 j) K
theorem hp_Xout {L : Int32} {c t : Nat} {rf tg fe cb va sz re wh : Nat → Int32} (hc : c ≤ 24) {post : SX → Prop} {nd n s : Int32}
    (H : post (L, (nI c), (nI t), ((hp_xb L n s c wh rf re nd 3).1), ((hp_xb L n s c wh rf re nd 3).2.1), ((hp_xb L n s c wh rf re nd 3).2.2.1), ((hp_xb L n s c wh rf re nd 3).2.2.2), rf, tg, fe, cb, va, sz, re, wh)) :
    ∀ m k, k ≤ 3 → 3 - k < m → wX_findBestSplit_25 post nd n s m (nI k) L (nI c) (nI t) ((hp_xb L n s c wh rf re nd k).1) ((hp_xb L n s c wh rf re nd k).2.1) ((hp_xb L n s c wh rf re nd k).2.2.1) ((hp_xb L n s c wh rf re nd k).2.2.2) rf tg fe cb va sz re wh := by
  intro m
  induction m with
  | zero => intro j _ h; omega
  | succ m ih =>
    intro k hk hm
    refine pk_le 3 k (fun h => ?_) (fun h => ?_)
    · have e : k = 3 := by omega
      rw [e]; exact H
    · have K := ih (k + 1) (by omega) (by omega)
      simp only [hp_xb] at K
      rw [← nI_1 k] at K
      exact ⟨8, hp_Xin (B := hp_xb L n s c wh rf re nd k) hc K 8 0 (by omega) (by omega)⟩
theorem hp_Xbest {L : Int32} {c t : Nat} {f1 f2 : Int32} {f3 f4 : Int64} {rf tg fe cb va sz re wh : Nat → Int32} (hc : c ≤ 24) {post : SX → Prop} {nd n s : Int32}
    (H : post (L, (nI c), (nI t), ((hp_xb L n s c wh rf re nd 3).1), ((hp_xb L n s c wh rf re nd 3).2.1), ((hp_xb L n s c wh rf re nd 3).2.2.1), ((hp_xb L n s c wh rf re nd 3).2.2.2), rf, tg, fe, cb, va, sz, re, wh)) :
    wpX_findBestSplit post (L, (nI c), (nI t), f1, f2, f3, f4, rf, tg, fe, cb, va, sz, re, wh) nd n s := ⟨4, hp_Xout hc H 4 0 (by omega) (by omega)⟩
end
section
/-! X: setting, splitting, growing, planting, counting leaves -/
theorem hp_Xset {L : Int32} {c t : Nat} {f1 f2 : Int32} {f3 f4 : Int64} {rf tg fe cb va sz re wh : Nat → Int32} {post : SX → Prop} {p v w : Int32} {x : Nat} (hx : x < 28) (e : p = nI x) (H : post (L, (nI c), (nI t), f1, f2, f3, f4, rf, tg, (upd fe x v), (upd cb x w), va, sz, re, wh)) : wpX_setNode post (L, (nI c), (nI t), f1, f2, f3, f4, rf, tg, fe, cb, va, sz, re, wh) p v w := by
  subst e
  have hcl : (nI x).toNatClampNeg = x := nI_clamp (by omega)
  have hin : vp_in (nI x) 28 := vp_in_nI hx (by omega)
  exact ⟨hin, nm_r (by rw [hcl]) ⟨hin, nm_r (by rw [hcl]) H⟩⟩
theorem hp_Xspl6 {L : Int32} {c t : Nat} {f1 f2 : Int32} {f3 f4 : Int64} {rf tg fe cb va sz re wh : Nat → Int32} (hc : c ≤ 24) {post : SX → Prop} {nd l r : Int32} (H : post (L, (nI c), (nI t), f1, f2, f3, f4, rf, tg, fe, cb, va, sz, re, (hp_snd rf nd f1 f2 l r wh c))) : ∀ n i, i ≤ c → c - i < n → wX_splitNode_63 post nd l r L (nI c) (nI t) f1 f2 f3 f4 n (nI i) rf tg fe cb va sz re (hp_snd rf nd f1 f2 l r wh i) := by
  intro n
  induction n with
  | zero => intro i _ h; omega
  | succ n ih =>
    intro i hi hn
    refine pk_le c i (fun h => ?_) (fun h => ?_)
    · have e : i = c := by omega
      rw [e]; exact H
    · have hcl : (nI i).toNatClampNeg = i := nI_clamp (by omega)
      have hin : vp_in (nI i) 24 := vp_in_nI (by omega) (by omega)
      have J := ih (i + 1) (by omega) (by omega)
      simp only [hp_snd] at J
      rw [hcl]
      refine ⟨hin, ?_⟩
      generalize hp_snd rf nd f1 f2 l r wh i = w at J ⊢
      by_cases hw : w i = nd
      · rw [if_pos hw] at J
        refine br_t hw ⟨hin, ?_⟩
        by_cases hb : f2 < hp_fld (rf i) f1
        · rw [if_pos hb] at J
          exact br_t hb ⟨hin, nm_e (nm_r (nI_1 i) J)⟩
        · rw [if_neg hb] at J
          exact br_f hb ⟨hin, nm_e (nm_r (nI_1 i) J)⟩
      · rw [if_neg hw] at J
        exact br_f hw (nm_r (nI_1 i) J)
theorem hp_Xspl {L : Int32} {c t : Nat} {f1 f2 : Int32} {f3 f4 : Int64} {rf tg re : Nat → Int32} {S : hp_T} (hc : c ≤ 24) (ht : t < 4) {k : Nat} (hk : k < 3) {post : SX → Prop} {n : Int32}
    (H : post (L, (nI c), (nI t), f1, f2, f3, f4, rf, tg, (upd (upd (upd S.1 (t * 7 + k) f1) (t * 7 + (2 * k + 1)) (-6)) (t * 7 + (2 * k + 2)) (-6)), (upd (upd (upd S.2.1 (t * 7 + k) f2) (t * 7 + (2 * k + 1)) (-6)) (t * 7 + (2 * k + 2)) (-6)), S.2.2.1, (upd S.2.2.2.1 (t * 7 + k) n), re, (hp_snd rf (nI k) f1 f2 (nI (2 * k + 1)) (nI (2 * k + 2)) S.2.2.2.2 c))) :
    wpX_splitNode post (L, (nI c), (nI t), f1, f2, f3, f4, rf, tg, S.1, S.2.1, S.2.2.1, (upd S.2.2.2.1 (t * 7 + k) n), re, S.2.2.2.2) (nI t) (nI k) := by
  unfold wpX_splitNode
  refine nm_r (hp_c1 k) (nm_r (hp_c2 k) ?_)
  refine hp_Xset (x := t * 7 + k) (by omega) (hp_at t k) ?_
  refine hp_Xset (x := t * 7 + (2 * k + 1)) (by omega) (hp_at t (2 * k + 1)) ?_
  refine hp_Xset (x := t * 7 + (2 * k + 2)) (by omega) (hp_at t (2 * k + 2)) ?_
  exact ⟨c + 1, hp_Xspl6 hc H (c + 1) 0 (Nat.zero_le _) (by omega)⟩
theorem hp_X77 {L : Int32} {c t : Nat} {f1 f2 : Int32} {f3 f4 : Int64} {rf tg fe cb va sz re wh : Nat → Int32} {post : SX → Prop} {n s : Int32} {x : Nat} (hx : x < 28) (H : post (L, (nI c), (nI t), f1, f2, f3, f4, rf, tg, fe, cb, (upd va x (hp_dv n s)), sz, re, wh)) : wX_growNode_77 post (nI x) n s L (nI c) (nI t) f1 f2 f3 f4 rf tg fe cb va sz re wh := by
  have hcl : (nI x).toNatClampNeg = x := nI_clamp (by omega)
  have hin : vp_in (nI x) 28 := vp_in_nI hx (by omega)
  unfold wX_growNode_77
  rw [hcl]
  unfold hp_dv at H
  by_cases h : n = 0
  · rw [if_pos h] at H
    exact br_t h ⟨hin, nm_e H⟩
  · rw [if_neg h] at H
    exact br_f h ⟨h, hin, nm_e H⟩
theorem hp_Xgrow {L : Int32} {c t : Nat} {f1 f2 : Int32} {f3 f4 : Int64} {rf tg re : Nat → Int32} {S : hp_T} (hc : c ≤ 24) (ht : t < 4) {k : Nat} (hk : k < 7) {post : SX → Prop}
    (H : ∀ b1 b2 b3 b4, post (L, (nI c), (nI t), b1, b2, b3, b4, rf, tg, ((hp_xg L c rf re t k S).1), ((hp_xg L c rf re t k S).2.1), ((hp_xg L c rf re t k S).2.2.1), ((hp_xg L c rf re t k S).2.2.2.1), re, ((hp_xg L c rf re t k S).2.2.2.2))) : wpX_growNode post (L, (nI c), (nI t), f1, f2, f3, f4, rf, tg, S.1, S.2.1, S.2.2.1, S.2.2.2.1, re, S.2.2.2.2) (nI t) (nI k) := by
  have hcl : (nI (t * 7 + k)).toNatClampNeg = t * 7 + k := nI_clamp (by omega)
  have hin : vp_in (nI (t * 7 + k)) 28 := vp_in_nI (by omega) (by omega)
  unfold wpX_growNode
  refine nm_r (hp_at t k) ?_
  rw [hcl]
  refine ⟨hin, ?_⟩
  by_cases h : S.1 (t * 7 + k) = -7
  · have e : hp_xg L c rf re t k S = S := if_pos h
    rw [e] at H
    exact br_t h (H f1 f2 f3 f4)
  · have e : hp_xg L c rf re t k S = hp_x2 L c rf re t k (nI (hp_cnt (hp_g S.2.2.2.2 rf (nI k) 0 7) c)) (hp_sm (hp_g S.2.2.2.2 rf (nI k) 0 7) re c) S := if_neg h
    rw [e] at H
    refine br_f h (hp_Xcnt hc (hp_Xsum hc ⟨hin, nm_e ?_⟩))
    generalize nI (hp_cnt (hp_g S.2.2.2.2 rf (nI k) 0 7) c) = n at H ⊢
    generalize hp_sm (hp_g S.2.2.2.2 rf (nI k) 0 7) re c = s at H ⊢
    by_cases h3 : 3 ≤ k
    · have e2 : hp_x2 L c rf re t k n s S = hp_xl (t * 7 + k) n s S := if_pos h3
      rw [e2] at H
      exact br_t (nI_le (a := 3) h3 (by omega)) (hp_X77 (by omega) (H f1 f2 f3 f4))
    · have e2 : hp_x2 L c rf re t k n s S = hp_x3 c rf t k n s (hp_xb L n s c S.2.2.2.2 rf re (nI k) 3) S := if_neg h3
      rw [e2] at H
      refine br_f (nI_ge (b := 3) (by omega) (by decide)) (hp_Xbest hc ?_)
      generalize hp_xb L n s c S.2.2.2.2 rf re (nI k) 3 = B at H ⊢
      by_cases hB : B.1 = -6
      · have e3 : hp_x3 c rf t k n s B S = hp_xl (t * 7 + k) n s S := if_pos hB
        rw [e3] at H
        exact br_t hB (hp_X77 (by omega) (H B.1 B.2.1 B.2.2.1 B.2.2.2))
      · have e3 : hp_x3 c rf t k n s B S = hp_xs c rf t k n B S := if_neg hB
        rw [e3] at H
        exact br_f hB (hp_Xspl hc ht (by omega) (H B.1 B.2.1 B.2.2.1 B.2.2.2))
theorem hp_X19 {L : Int32} {c t : Nat} {f1 f2 : Int32} {f3 f4 : Int64} {rf tg fe cb va sz re wh : Nat → Int32} {post : SX → Prop} {J : Int32 → Int32 → Int32 → Int32 → Int32 → Int32 → Int64 → Int64 → hp_A → hp_A → hp_A → hp_A → hp_A → hp_A → hp_A → hp_A → Prop} {z : Int32} {k : Nat} (ht : t < 4) (hk : k < 7)
    (H : J (nI (k + 1)) L (nI c) (nI t) f1 f2 f3 f4 rf tg (upd fe (t * 7 + k) z) (upd cb (t * 7 + k) z) (upd va (t * 7 + k) 0) (upd sz (t * 7 + k) 0) re wh) : wX_plantTree_19 post J (nI t) (nI k) z L (nI c) (nI t) f1 f2 f3 f4 rf tg fe cb va sz re wh := by
  have hcl : (nI (t * 7 + k)).toNatClampNeg = t * 7 + k := nI_clamp (by omega)
  have hin : vp_in (nI (t * 7 + k)) 28 := vp_in_nI (by omega) (by omega)
  unfold wX_plantTree_19
  rw [hp_at, hcl]
  exact hp_Xset (x := t * 7 + k) (by omega) rfl ⟨hin, nm_e ⟨hin, nm_e (nm_r (nI_1 k) H)⟩⟩
theorem hp_Xpl6 {L : Int32} {c t : Nat} {f1 f2 : Int32} {f3 f4 : Int64} {rf tg fe cb va sz re wh : Nat → Int32} (hc : c ≤ 24) {post : SX → Prop} (H : post (L, (nI c), (nI t), f1, f2, f3, f4, rf, tg, fe, cb, va, sz, re, (hp_pl wh 0 0 0 c))) : ∀ n i, i ≤ c → c - i < n → wX_plantTree_64 post L (nI c) (nI t) f1 f2 f3 f4 n (nI i) rf tg fe cb va sz re (hp_pl wh 0 0 0 i) := by
  intro n
  induction n with
  | zero => intro i _ h; omega
  | succ n ih =>
    intro i hi hn
    refine pk_le c i (fun h => ?_) (fun h => ?_)
    · have e : i = c := by omega
      rw [e]; exact H
    · have hcl : (nI i).toNatClampNeg = i := nI_clamp (by omega)
      have J := ih (i + 1) (by omega) (by omega)
      rw [← hp_plS, Nat.zero_add] at J
      rw [hcl]
      exact ⟨vp_in_nI (by omega) (by omega), nm_e (nm_r (nI_1 i) J)⟩
theorem hp_Xpl2 {L : Int32} {c t : Nat} {f1 f2 : Int32} {f3 f4 : Int64} {rf tg fe cb va sz re wh : Nat → Int32} (hc : c ≤ 24) (ht : t < 4) {post : SX → Prop}
    (H : post (L, (nI c), (nI t), f1, f2, f3, f4, rf, tg, (hp_pl fe (t * 7) (-6) (-7) 7), (hp_pl cb (t * 7) (-6) (-7) 7), (hp_pl va (t * 7) 0 0 7), (hp_pl sz (t * 7) 0 0 7), re, (hp_pl wh 0 0 0 c))) :
    ∀ n k, k ≤ 7 → 7 - k < n → wX_plantTree_2 post (nI t) n (nI k) L (nI c) (nI t) f1 f2 f3 f4 rf tg (hp_pl fe (t * 7) (-6) (-7) k) (hp_pl cb (t * 7) (-6) (-7) k) (hp_pl va (t * 7) 0 0 k) (hp_pl sz (t * 7) 0 0 k) re wh := by
  intro n
  induction n with
  | zero => intro i _ h; omega
  | succ n ih =>
    intro k hk hn
    refine pk_le 7 k (fun h => ?_) (fun h => ?_)
    · have e : k = 7 := by omega
      rw [e]
      have J := hp_Xpl6 hc H (c + 1) 0 (by omega) (by omega)
      rw [hp_pl0] at J
      exact ⟨c + 1, J⟩
    · have J := ih (k + 1) (by omega) (by omega)
      rw [← hp_pls fe, ← hp_pls cb, ← hp_plS va, ← hp_plS sz] at J
      refine pk_eq k 0 (fun h => ?_) (fun h => ?_)
      · rw [if_pos h] at J
        exact hp_X19 ht (by omega) J
      · rw [if_neg h] at J
        exact hp_X19 ht (by omega) J
theorem hp_Xplant {L : Int32} {c t : Nat} {f1 f2 : Int32} {f3 f4 : Int64} {rf tg fe cb va sz re wh : Nat → Int32} (hc : c ≤ 24) (ht : t < 4) {post : SX → Prop}
    (H : post (L, (nI c), (nI t), f1, f2, f3, f4, rf, tg, (hp_pl fe (t * 7) (-6) (-7) 7), (hp_pl cb (t * 7) (-6) (-7) 7), (hp_pl va (t * 7) 0 0 7), (hp_pl sz (t * 7) 0 0 7), re, (hp_pl wh 0 0 0 c))) :
    wpX_plantTree post (L, (nI c), (nI t), f1, f2, f3, f4, rf, tg, fe, cb, va, sz, re, wh) (nI t) := by
  have J := hp_Xpl2 hc ht H 8 0 (by omega) (by omega)
  rw [hp_pl0, hp_pl0, hp_pl0, hp_pl0] at J
  exact ⟨8, J⟩
theorem hp_Xlv4 {L : Int32} {c t : Nat} {f1 f2 : Int32} {f3 f4 : Int64} {rf tg fe cb va sz re wh : Nat → Int32} {T1 : Int32} (ht : t < 4) {post : Int32 → Prop} (H : post (nI (hp_cnt (fun j => decide (fe (t * 7 + j) = -6)) 7))) :
    ∀ n k, k ≤ 7 → 7 - k < n → wX_countLeaves_4 post (nI t) L (nI c) T1 f1 f2 f3 f4 rf tg fe cb va sz re wh n (nI (hp_cnt (fun j => decide (fe (t * 7 + j) = -6)) k)) (nI k) := by
  intro n
  induction n with
  | zero => intro i _ h; omega
  | succ n ih =>
    intro k hk hn
    refine pk_le 7 k (fun h => ?_) (fun h => ?_)
    · have e : k = 7 := by omega
      rw [e]; exact H
    · have hcl : (nI (t * 7 + k)).toNatClampNeg = t * 7 + k := nI_clamp (by omega)
      have J := ih (k + 1) (by omega) (by omega)
      rw [hp_at, hcl]
      refine ⟨vp_in_nI (by omega) (by omega), ?_⟩
      by_cases h6 : fe (t * 7 + k) = -6
      · have e : decide (fe (t * 7 + k) = -6) = true := decide_eq_true h6
        rw [hp_cnt_1 (g := fun j => decide (fe (t * 7 + j) = -6)) e] at J
        exact br_t h6 (nm_r (nI_1 _) (nm_r (nI_1 k) J))
      · have e : ¬ decide (fe (t * 7 + k) = -6) = true := by rw [decide_eq_true_eq]; exact h6
        rw [hp_cnt_0 (g := fun j => decide (fe (t * 7 + j) = -6)) e] at J
        exact br_f h6 (nm_r (nI_1 k) J)
theorem hp_Xlv {L : Int32} {c t : Nat} {f1 f2 : Int32} {f3 f4 : Int64} {rf tg fe cb va sz re wh : Nat → Int32} {T1 : Int32} (ht : t < 4) {post : Int32 → Prop} (H : post (nI (hp_cnt (fun j => decide (fe (t * 7 + j) = -6)) 7))) : wpX_countLeaves post (L, (nI c), T1, f1, f2, f3, f4, rf, tg, fe, cb, va, sz, re, wh) (nI t) :=
  ⟨8, hp_Xlv4 ht H 8 0 (by omega) (by omega)⟩
end
section
/-! X: predicting, rests, training -/
theorem hp_Xpt_s {L : Int32} {c t : Nat} {f1 f2 : Int32} {f3 f4 : Int64} {rf tg fe cb va sz re wh : Nat → Int32} {u m lv n : Nat} (hu : u < 4) (hm : m ≤ 2) (hl : lv < 2) {post : Int32 → Prop} {x : Int32}
    (K : wX_predictByTree_5 post (nI u) x L (nI c) (nI t) f1 f2 f3 f4 rf tg fe cb va sz re wh n (nI (hp_w fe cb x (u * 7) m)) (nI (lv + 1))) : wX_predictByTree_5 post (nI u) x L (nI c) (nI t) f1 f2 f3 f4 rf tg fe cb va sz re wh (n + 1) (nI m) (nI lv) := by
  have hcl : (nI (u * 7 + m)).toNatClampNeg = u * 7 + m := nI_clamp (by omega)
  have hin : vp_in (nI (u * 7 + m)) 28 := vp_in_nI (by omega) (by omega)
  refine br_f (nI_ge (b := 2) hl (by decide)) (nm_r (hp_at u m) ?_)
  rw [hcl]
  refine ⟨hin, nm_e ?_⟩
  unfold hp_w at K
  by_cases h : fe (u * 7 + m) < 0
  · rw [if_pos h] at K
    exact br_t h (nm_r (nI_1 lv) K)
  · rw [if_neg h] at K
    refine br_f h ⟨hin, ?_⟩
    by_cases h2 : cb (u * 7 + m) < hp_fld x (fe (u * 7 + m))
    · rw [if_pos h2] at K
      exact br_t h2 (nm_r (hp_c2 m) (nm_r (nI_1 lv) K))
    · rw [if_neg h2] at K
      exact br_f h2 (nm_r (hp_c1 m) (nm_r (nI_1 lv) K))
theorem hp_Xpt {L : Int32} {c t : Nat} {f1 f2 : Int32} {f3 f4 : Int64} {rf tg fe cb va sz re wh : Nat → Int32} {u : Nat} (hu : u < 4) {post : Int32 → Prop} {x : Int32} (H : post (hp_lf fe cb va x (u * 7))) : wpX_predictByTree post (L, (nI c), (nI t), f1, f2, f3, f4, rf, tg, fe, cb, va, sz, re, wh) (nI u) x := by
  have h1 := hp_w_le fe cb x (u * 7) 0
  have h2 := hp_w_le fe cb x (u * 7) (hp_w fe cb x (u * 7) 0)
  refine ⟨3, hp_Xpt_s (m := 0) (lv := 0) hu (by omega) (by omega) (hp_Xpt_s (lv := 1) hu (by omega) (by omega) ?_)⟩
  unfold hp_lf at H
  generalize hp_w fe cb x (u * 7) (hp_w fe cb x (u * 7) 0) = m at H h2 ⊢
  have hcl : (nI (u * 7 + m)).toNatClampNeg = u * 7 + m := nI_clamp (by omega)
  refine br_t (nI_le (a := 2) (b := 2) (by omega) (by decide)) ?_
  rw [hp_at, hcl]
  exact ⟨vp_in_nI (by omega) (by omega), H⟩
theorem hp_Xpr4 {L : Int32} {c t : Nat} {f1 f2 : Int32} {f3 f4 : Int64} {rf tg fe cb va sz re wh : Nat → Int32} (ht : t ≤ 4) {post : Int32 → Prop} {x : Int32} (H : post (hp_pr fe cb va x t)) : ∀ n i, i ≤ t → t - i < n → wX_predict_4 post x L (nI c) (nI t) f1 f2 f3 f4 rf tg fe cb va sz re wh n (hp_pr fe cb va x i) (nI i) := by
  intro n
  induction n with
  | zero => intro i _ h; omega
  | succ n ih =>
    intro i hi hn
    refine pk_le t i (fun h => ?_) (fun h => ?_)
    · have e : i = t := by omega
      rw [e]; exact H
    · have J := ih (i + 1) (by omega) (by omega)
      exact hp_Xpt (by omega) (nm_e (nm_r (nI_1 i) J))
theorem hp_Xpr {L : Int32} {c t : Nat} {f1 f2 : Int32} {f3 f4 : Int64} {rf tg fe cb va sz re wh : Nat → Int32} (ht : t ≤ 4) {post : Int32 → Prop} {x : Int32} (H : post (hp_pr fe cb va x t)) : wpX_predict post (L, (nI c), (nI t), f1, f2, f3, f4, rf, tg, fe, cb, va, sz, re, wh) x :=
  ⟨t + 1, hp_Xpr4 ht H (t + 1) 0 (by omega) (by omega)⟩
theorem hp_Xrest {L : Int32} {c t : Nat} {f1 f2 : Int32} {f3 f4 : Int64} {rf tg fe cb va sz re wh : Nat → Int32} (hc : c ≤ 24) (ht : t ≤ 4) {post : Int32 → Prop} {i : Nat} (hi : i < c) (H : post (tg i - hp_pr fe cb va (rf i) t)) : wpX_rest post (L, (nI c), (nI t), f1, f2, f3, f4, rf, tg, fe, cb, va, sz, re, wh) (nI i) := by
  have hcl : (nI i).toNatClampNeg = i := nI_clamp (by omega)
  have hin : vp_in (nI i) 24 := vp_in_nI (by omega) (by omega)
  unfold wpX_rest
  refine br_f (nI_pos (by omega)) (br_f (nI_ge hi (by omega)) (br_f (by decide) ⟨hin, hin, ?_⟩))
  rw [hcl]
  exact hp_Xpr ht H
theorem hp_Xrest0 {L : Int32} {c t : Nat} {f1 f2 : Int32} {f3 f4 : Int64} {rf tg fe cb va sz re wh : Nat → Int32} (ht : t ≤ 4) {post : Int32 → Prop} {p : Int32} (hp : p < 0 ∨ nI c ≤ p) (H : post 0) : wpX_rest post (L, (nI c), (nI t), f1, f2, f3, f4, rf, tg, fe, cb, va, sz, re, wh) p := by
  unfold wpX_rest
  by_cases h : p < 0
  · exact br_t h (br_t rfl H)
  · have h2 : nI c ≤ p := hp.resolve_left h
    exact br_f h (br_t h2 (br_t rfl H))
theorem hp_Xls4 {L : Int32} {c t : Nat} {f1 f2 : Int32} {f3 f4 : Int64} {rf tg fe cb va sz re wh : Nat → Int32} (hc : c ≤ 24) (ht : t ≤ 4) {post : Int32 → Prop} (H : post (hp_ls fe cb va rf tg t c)) : ∀ n i, i ≤ c → c - i < n → wX_loss_4 post L (nI c) (nI t) f1 f2 f3 f4 rf tg fe cb va sz re wh n (hp_ls fe cb va rf tg t i) (nI i) := by
  intro n
  induction n with
  | zero => intro i _ h; omega
  | succ n ih =>
    intro i hi hn
    refine pk_le c i (fun h => ?_) (fun h => ?_)
    · have e : i = c := by omega
      rw [e]; exact H
    · have J := ih (i + 1) (by omega) (by omega)
      exact hp_Xrest hc ht (by omega) (nm_e (nm_r (nI_1 i) J))
theorem hp_Xls {L : Int32} {c t : Nat} {f1 f2 : Int32} {f3 f4 : Int64} {rf tg fe cb va sz re wh : Nat → Int32} (hc : c ≤ 24) (ht : t ≤ 4) {post : Int32 → Prop} (H : post (hp_ls fe cb va rf tg t c)) : wpX_loss post (L, (nI c), (nI t), f1, f2, f3, f4, rf, tg, fe, cb, va, sz, re, wh) :=
  ⟨c + 1, hp_Xls4 hc ht H (c + 1) 0 (by omega) (by omega)⟩
theorem hp_Xtr50 {L : Int32} {c t : Nat} {rf tg re : hp_A} {S : hp_T} (hc : c ≤ 24) (ht : t < 4) {post : Int32 → SX → Prop}
    (H : ∀ b1 b2 b3 b4, post (nI (hp_cnt (fun j => decide ((hp_xP L c rf re t S 7).1 (t * 7 + j) = -6)) 7)) (L, (nI c), (nI (t + 1)), b1, b2, b3, b4, rf, tg, ((hp_xP L c rf re t S 7).1), ((hp_xP L c rf re t S 7).2.1), ((hp_xP L c rf re t S 7).2.2.1), ((hp_xP L c rf re t S 7).2.2.2.1), re, ((hp_xP L c rf re t S 7).2.2.2.2))) :
    ∀ n k, k ≤ 7 → 7 - k < n → ∀ b1 b2 b3 b4, wX_train_50 post (nI t) n (nI k) L (nI c) (nI t) b1 b2 b3 b4 rf tg ((hp_xP L c rf re t S k).1) ((hp_xP L c rf re t S k).2.1) ((hp_xP L c rf re t S k).2.2.1) ((hp_xP L c rf re t S k).2.2.2.1) re ((hp_xP L c rf re t S k).2.2.2.2) := by
  intro n
  induction n with
  | zero => intro i _ h; omega
  | succ n ih =>
    intro k hk hn b1 b2 b3 b4
    refine pk_le 7 k (fun h => ?_) (fun h => ?_)
    · have e : k = 7 := by omega
      rw [e]
      exact nm_r (nI_1 t) (hp_Xlv ht (H b1 b2 b3 b4))
    · have J := ih (k + 1) (by omega) (by omega)
      simp only [hp_xP] at J
      exact hp_Xgrow hc ht (by omega) (fun b1 b2 b3 b4 => nm_r (nI_1 k) (J b1 b2 b3 b4))
/-- the state in which the growing begins -/
def hp_st (fe bo va sz wh : hp_A) (c t : Nat) (z : Bool) : hp_T :=
  (hp_pl fe (t * 7) (-6) (-7) 7, (if z = true then hp_pl bo (t * 7) (-6) (-7) 7 else bo), hp_pl va (t * 7) 0 0 7, hp_pl sz (t * 7) 0 0 7, hp_pl wh 0 0 0 c)
theorem hp_Xtr18 {L : Int32} {c t : Nat} {f1 f2 : Int32} {f3 f4 : Int64} {rf tg fe cb va sz re wh : Nat → Int32} (hc : c ≤ 24) (ht : t < 4) {post : Int32 → SX → Prop}
    (H : ∀ b1 b2 b3 b4, post (nI (hp_cnt (fun j => decide ((hp_xP L c rf (hp_rs fe cb va rf tg t re c) t (hp_st fe cb va sz wh c t true) 7).1 (t * 7 + j) = -6)) 7)) (L, (nI c), (nI (t + 1)), b1, b2, b3, b4, rf, tg, ((hp_xP L c rf (hp_rs fe cb va rf tg t re c) t (hp_st fe cb va sz wh c t true) 7).1), ((hp_xP L c rf (hp_rs fe cb va rf tg t re c) t (hp_st fe cb va sz wh c t true) 7).2.1), ((hp_xP L c rf (hp_rs fe cb va rf tg t re c) t (hp_st fe cb va sz wh c t true) 7).2.2.1), ((hp_xP L c rf (hp_rs fe cb va rf tg t re c) t (hp_st fe cb va sz wh c t true) 7).2.2.2.1), (hp_rs fe cb va rf tg t re c), ((hp_xP L c rf (hp_rs fe cb va rf tg t re c) t (hp_st fe cb va sz wh c t true) 7).2.2.2.2))) :
    ∀ n i, i ≤ c → c - i < n → wX_train_18 post (nI t) L (nI c) (nI t) f1 f2 f3 f4 n (nI i) rf tg fe cb va sz (hp_rs fe cb va rf tg t re i) wh := by
  intro n
  induction n with
  | zero => intro i _ h; omega
  | succ n ih =>
    intro i hi hn
    refine pk_le c i (fun h => ?_) (fun h => ?_)
    · have e : i = c := by omega
      rw [e]
      refine hp_Xplant hc ht ?_
      exact ⟨8, hp_Xtr50 hc ht H 8 0 (by omega) (by omega) f1 f2 f3 f4⟩
    · have hcl : (nI i).toNatClampNeg = i := nI_clamp (by omega)
      have J := ih (i + 1) (by omega) (by omega)
      simp only [hp_rs] at J
      refine hp_Xrest hc (by omega) h ⟨vp_in_nI (by omega) (by omega), ?_⟩
      rw [hcl]
      exact nm_e (nm_r (nI_1 i) J)
theorem hp_Xtr {L : Int32} {c t : Nat} {f1 f2 : Int32} {f3 f4 : Int64} {rf tg fe cb va sz re wh : Nat → Int32} (hc : c ≤ 24) (ht : t < 4) {post : Int32 → SX → Prop}
    (H : ∀ b1 b2 b3 b4, post (nI (hp_cnt (fun j => decide ((hp_xP L c rf (hp_rs fe cb va rf tg t re c) t (hp_st fe cb va sz wh c t true) 7).1 (t * 7 + j) = -6)) 7)) (L, (nI c), (nI (t + 1)), b1, b2, b3, b4, rf, tg, ((hp_xP L c rf (hp_rs fe cb va rf tg t re c) t (hp_st fe cb va sz wh c t true) 7).1), ((hp_xP L c rf (hp_rs fe cb va rf tg t re c) t (hp_st fe cb va sz wh c t true) 7).2.1), ((hp_xP L c rf (hp_rs fe cb va rf tg t re c) t (hp_st fe cb va sz wh c t true) 7).2.2.1), ((hp_xP L c rf (hp_rs fe cb va rf tg t re c) t (hp_st fe cb va sz wh c t true) 7).2.2.2.1), (hp_rs fe cb va rf tg t re c), ((hp_xP L c rf (hp_rs fe cb va rf tg t re c) t (hp_st fe cb va sz wh c t true) 7).2.2.2.2))) :
    wpX_train post (L, (nI c), (nI t), f1, f2, f3, f4, rf, tg, fe, cb, va, sz, re, wh) := by
  unfold wpX_train
  exact br_t (nI_lt (b := 4) ht (by decide)) ⟨c + 1, hp_Xtr18 hc ht H (c + 1) 0 (by omega) (by omega)⟩
end
section
/-! Y: counting, summing, the best split, sending -/
theorem hp_Ycnt6 {L : Int32} {c : Nat} {T : Int32} {ap tg fe bo va sz re wh : Nat → Int32} (hc : c ≤ 24) {post : Int32 → Prop} {nd fx b : Int32} (H : post (nI (hp_cnt (hp_g wh ap nd fx b) c))) : ∀ n i, i ≤ c → c - i < n → wY_rowsOf_6 post nd fx b L (nI c) T ap tg fe bo va sz re wh n (nI (hp_cnt (hp_g wh ap nd fx b) i)) (nI i) := by
  intro n
  induction n with
  | zero => intro i _ h; omega
  | succ n ih =>
    intro i hi hn
    refine pk_le c i (fun h => ?_) (fun h => ?_)
    · have e : i = c := by omega
      rw [e]; exact H
    · have hcl : (nI i).toNatClampNeg = i := nI_clamp (by omega)
      have hin : vp_in (nI i) 24 := vp_in_nI (by omega) (by omega)
      have J := ih (i + 1) (by omega) (by omega)
      rw [hcl]
      refine ⟨hin, ?_⟩
      by_cases hw : wh i = nd
      · refine br_t hw ⟨hin, ?_⟩
        by_cases hb : b < hp_fld (ap i) fx
        · refine br_t hb (nm_r (nI_1 i) ?_)
          rw [hp_cnt_0 (hp_g_f hb)] at J
          exact J
        · exact br_f hb (nm_r (hp_n1 (hp_g_t hw hb)) (nm_r (nI_1 i) J))
      · refine br_f hw (nm_r (nI_1 i) ?_)
        rw [hp_cnt_0 (hp_g_n hw)] at J
        exact J
theorem hp_Ycnt {L : Int32} {c : Nat} {T : Int32} {ap tg fe bo va sz re wh : Nat → Int32} (hc : c ≤ 24) {post : Int32 → Prop} {nd fx b : Int32} (H : post (nI (hp_cnt (hp_g wh ap nd fx b) c))) : wpY_rowsOf post (L, (nI c), T, ap, tg, fe, bo, va, sz, re, wh) nd fx b :=
  ⟨c + 1, hp_Ycnt6 hc H (c + 1) 0 (Nat.zero_le _) (by omega)⟩
theorem hp_Ysum6 {L : Int32} {c : Nat} {T : Int32} {ap tg fe bo va sz re wh : Nat → Int32} (hc : c ≤ 24) {post : Int64 → Prop} {nd fx b : Int32} (H : post (hp_sL (hp_g wh ap nd fx b) re c)) : ∀ n i, i ≤ c → c - i < n → wY_sumOf_6 post nd fx b L (nI c) T ap tg fe bo va sz re wh n (hp_sL (hp_g wh ap nd fx b) re i) (nI i) := by
  intro n
  induction n with
  | zero => intro i _ h; omega
  | succ n ih =>
    intro i hi hn
    refine pk_le c i (fun h => ?_) (fun h => ?_)
    · have e : i = c := by omega
      rw [e]; exact H
    · have hcl : (nI i).toNatClampNeg = i := nI_clamp (by omega)
      have hin : vp_in (nI i) 24 := vp_in_nI (by omega) (by omega)
      have J := ih (i + 1) (by omega) (by omega)
      rw [hcl]
      refine ⟨hin, ?_⟩
      by_cases hw : wh i = nd
      · refine br_t hw ⟨hin, ?_⟩
        by_cases hb : b < hp_fld (ap i) fx
        · refine br_t hb (nm_r (nI_1 i) ?_)
          rw [hp_sL_0 (hp_g_f hb)] at J
          exact J
        · exact br_f hb ⟨hin, nm_r (hp_sL_1 (hp_g_t hw hb)).symm (nm_r (nI_1 i) J)⟩
      · refine br_f hw (nm_r (nI_1 i) ?_)
        rw [hp_sL_0 (hp_g_n hw)] at J
        exact J
theorem hp_Ysum {L : Int32} {c : Nat} {T : Int32} {ap tg fe bo va sz re wh : Nat → Int32} (hc : c ≤ 24) {post : Int64 → Prop} {nd fx b : Int32} (H : post (hp_sL (hp_g wh ap nd fx b) re c)) : wpY_sumOf post (L, (nI c), T, ap, tg, fe, bo, va, sz, re, wh) nd fx b :=
  ⟨c + 1, hp_Ysum6 hc H (c + 1) 0 (Nat.zero_le _) (by omega)⟩
theorem hp_Yin {L : Int32} {c : Nat} {T x1 nd fx : Int32} {ap tg va sz re wh : hp_A} (hc : c ≤ 24) {post : SY → Prop} {J : Int64 → Int64 → Int32 → hp_A → hp_A → hp_A → hp_A → hp_A → hp_A → hp_A → hp_A → Prop} {n s : Int64} {x : Nat} (hx : x < 28) {C : hp_C}
    (H : J (hp_yi L n s c wh ap re x nd fx C 7).1 (hp_yi L n s c wh ap re x nd fx C 7).2.1 (fx + 1) ap tg ((hp_yi L n s c wh ap re x nd fx C 7).2.2.1) ((hp_yi L n s c wh ap re x nd fx C 7).2.2.2) va sz re wh) :
    ∀ m j, j ≤ 7 → 7 - j < m → wY_split_50 post J x1 nd n s (nI x) fx L (nI c) T m (hp_yi L n s c wh ap re x nd fx C j).1 (hp_yi L n s c wh ap re x nd fx C j).2.1 (nI j) ap tg ((hp_yi L n s c wh ap re x nd fx C j).2.2.1) ((hp_yi L n s c wh ap re x nd fx C j).2.2.2) va sz re wh := by
  have hcl : (nI x).toNatClampNeg = x := nI_clamp (by omega)
  have hin : vp_in (nI x) 28 := vp_in_nI hx (by omega)
  intro m
  induction m with
  | zero => intro j _ h; omega
  | succ m ih =>
    intro j hj hm
    refine pk_le 7 j (fun h => ?_) (fun h => ?_)
    · have e : j = 7 := by omega
      rw [e]; exact nm_e H
    · have K := ih (j + 1) (by omega) (by omega)
      simp only [hp_yi] at K
      refine hp_Ycnt hc (hp_Ysum hc ?_)
      generalize nI (hp_cnt (hp_g wh ap nd fx (nI j)) c) = nl at K ⊢
      generalize hp_sL (hp_g wh ap nd fx (nI j)) re c = sl at K ⊢
      generalize hp_yi L n s c wh ap re x nd fx C j = S at K ⊢
      refine nm_e (nm_e (nm_e ?_))
      unfold hp_yo at K
      by_cases h1 : nl.toInt64 < L.toInt64
      · rw [if_pos h1] at K
        exact br_t h1 (nm_r (nI_1 j) K)
      · rw [if_neg h1] at K
        refine br_f h1 ?_
        by_cases h2 : n - nl.toInt64 < L.toInt64
        · rw [if_pos h2] at K
          exact br_t h2 (nm_r (nI_1 j) K)
        · rw [if_neg h2] at K
          refine br_f h2 ?_
          by_cases h3 : hp_t nl.toInt64 sl (n - nl.toInt64) (s - sl) * S.2.1 ≤ (S.1 * nl.toInt64) * (n - nl.toInt64)
          · rw [if_pos h3] at K
            exact br_t h3 (nm_r (nI_1 j) K)
          · rw [if_neg h3] at K
            refine br_f h3 (nm_e ?_)
            rw [hcl]
            exact ⟨hin, nm_e ⟨hin, nm_e (nm_r (nI_1 j) K)⟩⟩
theorem hp_Ysnd {L : Int32} {c t : Nat} {ap tg fe bo va sz re wh : Nat → Int32} (hc : c ≤ 24) {post : SY → Prop} {x k : Nat} (ex : x = t * 7 + k) (hx : t * 7 + (2 * k + 2) < 28)
    (H : post (L, (nI c), (nI t), ap, tg, (upd (upd fe (t * 7 + (2 * k + 1)) (-6)) (t * 7 + (2 * k + 2)) (-6)), bo, va, sz, re, (hp_snd ap (nI k) (fe x) (bo x) (nI (2 * k + 1)) (nI (2 * k + 2)) wh c))) :
    ∀ n i, i ≤ c → c - i < n → wY_send_10 post (nI k) (nI x) L (nI c) (nI t) n (nI i) ap tg fe bo va sz re (hp_snd ap (nI k) (fe x) (bo x) (nI (2 * k + 1)) (nI (2 * k + 2)) wh i) := by
  have hcx : (nI x).toNatClampNeg = x := nI_clamp (by omega)
  have hix : vp_in (nI x) 28 := vp_in_nI (by omega) (by omega)
  intro n
  induction n with
  | zero => intro i _ h; omega
  | succ n ih =>
    intro i hi hn
    refine pk_le c i (fun h => ?_) (fun h => ?_)
    · have e : i = c := by omega
      rw [e]
      have e1 : nI x + nI k + 1 = nI (t * 7 + (2 * k + 1)) := by
        rw [nI_add, nI_1]; exact congrArg nI (by omega)
      have e2 : nI x + nI k + 2 = nI (t * 7 + (2 * k + 2)) := by
        have e3 : nI (x + k) + 2 = nI (x + k + 2) := nI_add (x + k) 2
        rw [nI_add, e3]; exact congrArg nI (by omega)
      have c1 : (nI (t * 7 + (2 * k + 1))).toNatClampNeg = t * 7 + (2 * k + 1) := nI_clamp (by omega)
      have c2 : (nI (t * 7 + (2 * k + 2))).toNatClampNeg = t * 7 + (2 * k + 2) := nI_clamp (by omega)
      rw [e1, e2, c1, c2]
      exact ⟨vp_in_nI (by omega) (by omega), nm_e ⟨vp_in_nI hx (by omega), nm_e H⟩⟩
    · have hcl : (nI i).toNatClampNeg = i := nI_clamp (by omega)
      have hin : vp_in (nI i) 24 := vp_in_nI (by omega) (by omega)
      have J := ih (i + 1) (by omega) (by omega)
      simp only [hp_snd] at J
      rw [hcl, hcx, hp_c1, hp_c2]
      refine ⟨hin, ?_⟩
      generalize hp_snd ap (nI k) (fe x) (bo x) (nI (2 * k + 1)) (nI (2 * k + 2)) wh i = w at J ⊢
      by_cases hw : w i = nI k
      · rw [if_pos hw] at J
        refine br_t hw ⟨hin, hix, hix, ?_⟩
        by_cases hb : bo x < hp_fld (ap i) (fe x)
        · rw [if_pos hb] at J
          exact br_t hb ⟨hin, nm_e (nm_r (nI_1 i) J)⟩
        · rw [if_neg hb] at J
          exact br_f hb ⟨hin, nm_e (nm_r (nI_1 i) J)⟩
      · rw [if_neg hw] at J
        exact br_f hw (nm_r (nI_1 i) J)
theorem hp_Yout {L : Int32} {c t k : Nat} {ap tg re : hp_A} {S : hp_T} (hc : c ≤ 24) (ht : t < 4) (hk : k < 3) {post : SY → Prop} {n s : Int64} {C : hp_C}
    (H : post (L, (nI c), (nI t), ap, tg, ((hp_ys c ap t k (hp_yb L n s c S.2.2.2.2 ap re (t * 7 + k) (nI k) C 3) S).1), ((hp_ys c ap t k (hp_yb L n s c S.2.2.2.2 ap re (t * 7 + k) (nI k) C 3) S).2.1), ((hp_ys c ap t k (hp_yb L n s c S.2.2.2.2 ap re (t * 7 + k) (nI k) C 3) S).2.2.1), ((hp_ys c ap t k (hp_yb L n s c S.2.2.2.2 ap re (t * 7 + k) (nI k) C 3) S).2.2.2.1), re, ((hp_ys c ap t k (hp_yb L n s c S.2.2.2.2 ap re (t * 7 + k) (nI k) C 3) S).2.2.2.2))) :
    ∀ m j, j ≤ 3 → 3 - j < m → wY_split_41 post (nI t) (nI k) n s (nI (t * 7 + k)) L (nI c) (nI t) m (hp_yb L n s c S.2.2.2.2 ap re (t * 7 + k) (nI k) C j).1 (hp_yb L n s c S.2.2.2.2 ap re (t * 7 + k) (nI k) C j).2.1 (nI j)
      ap tg ((hp_yb L n s c S.2.2.2.2 ap re (t * 7 + k) (nI k) C j).2.2.1) ((hp_yb L n s c S.2.2.2.2 ap re (t * 7 + k) (nI k) C j).2.2.2) S.2.2.1 S.2.2.2.1 re S.2.2.2.2 := by
  have hcx : (nI (t * 7 + k)).toNatClampNeg = t * 7 + k := nI_clamp (by omega)
  have hix : vp_in (nI (t * 7 + k)) 28 := vp_in_nI (by omega) (by omega)
  intro m
  induction m with
  | zero => intro j _ h; omega
  | succ m ih =>
    intro j hj hm
    refine pk_le 3 j (fun h => ?_) (fun h => ?_)
    · have e : j = 3 := by omega
      rw [e]
      generalize hp_yb L n s c S.2.2.2.2 ap re (t * 7 + k) (nI k) C 3 = D at H ⊢
      rw [hcx]
      refine ⟨hix, ?_⟩
      unfold hp_ys at H
      by_cases h0 : D.2.2.1 (t * 7 + k) < 0
      · rw [if_pos h0] at H
        exact br_t h0 H
      · rw [if_neg h0] at H
        refine br_f h0 ?_
        unfold wpY_send
        exact nm_r (hp_at t k) ⟨c + 1, hp_Ysnd hc rfl (by omega) H (c + 1) 0 (by omega) (by omega)⟩
    · have K := ih (j + 1) (by omega) (by omega)
      simp only [hp_yb] at K
      rw [← nI_1 j] at K
      exact ⟨8, hp_Yin (C := hp_yb L n s c S.2.2.2.2 ap re (t * 7 + k) (nI k) C j) hc (by omega) K 8 0 (by omega) (by omega)⟩
end
section
/-! Y: settling, predicting, rests, training -/
theorem hp_Yspl {L : Int32} {c t : Nat} {ap tg re : Nat → Int32} {S : hp_T} (hc : c ≤ 24) (ht : t < 4) {k : Nat} (hk : k < 3) {post : SY → Prop}
    (H : post (L, (nI c), (nI t), ap, tg, ((hp_yp L c ap re t k (nI (hp_cnt (hp_g S.2.2.2.2 ap (nI k) 0 7) c)) (hp_sL (hp_g S.2.2.2.2 ap (nI k) 0 7) re c) S).1), ((hp_yp L c ap re t k (nI (hp_cnt (hp_g S.2.2.2.2 ap (nI k) 0 7) c)) (hp_sL (hp_g S.2.2.2.2 ap (nI k) 0 7) re c) S).2.1), ((hp_yp L c ap re t k (nI (hp_cnt (hp_g S.2.2.2.2 ap (nI k) 0 7) c)) (hp_sL (hp_g S.2.2.2.2 ap (nI k) 0 7) re c) S).2.2.1), ((hp_yp L c ap re t k (nI (hp_cnt (hp_g S.2.2.2.2 ap (nI k) 0 7) c)) (hp_sL (hp_g S.2.2.2.2 ap (nI k) 0 7) re c) S).2.2.2.1), re, ((hp_yp L c ap re t k (nI (hp_cnt (hp_g S.2.2.2.2 ap (nI k) 0 7) c)) (hp_sL (hp_g S.2.2.2.2 ap (nI k) 0 7) re c) S).2.2.2.2))) : wpY_split post (L, (nI c), (nI t), ap, tg, S.1, S.2.1, S.2.2.1, S.2.2.2.1, re, S.2.2.2.2) (nI t) (nI k) := by
  unfold wpY_split
  refine hp_Ycnt hc (hp_Ysum hc (nm_e (nm_r (hp_at t k) ?_)))
  unfold hp_yp at H
  exact ⟨4, hp_Yout (S := S) (C := (_, _, S.1, S.2.1)) hc ht hk H 4 0 (by omega) (by omega)⟩
theorem hp_Y52 {L : Int32} {c t : Nat} {ap tg re : Nat → Int32} {S : hp_T} {post : SY → Prop} {n s : Int32} {x : Nat} (hx : x < 28) (H : post (L, (nI c), (nI t), ap, tg, ((hp_yv x n s S).1), ((hp_yv x n s S).2.1), ((hp_yv x n s S).2.2.1), ((hp_yv x n s S).2.2.2.1), re, ((hp_yv x n s S).2.2.2.2))) : wY_settle_52 post (nI x) n s L (nI c) (nI t) ap tg S.1 S.2.1 S.2.2.1 S.2.2.2.1 re S.2.2.2.2 := by
  have hcl : (nI x).toNatClampNeg = x := nI_clamp (by omega)
  have hin : vp_in (nI x) 28 := vp_in_nI hx (by omega)
  unfold wY_settle_52
  rw [hcl]
  refine ⟨hin, ?_⟩
  unfold hp_yv at H
  by_cases h : S.1 x = -6
  · rw [if_pos h] at H
    refine br_t h ?_
    by_cases h2 : n ≤ 0
    · rw [if_pos h2] at H
      exact br_t h2 H
    · rw [if_neg h2] at H
      refine br_f h2 ⟨fun e => h2 (by rw [e]; decide), hin, nm_e H⟩
  · rw [if_neg h] at H
    exact br_f h H
theorem hp_Yset {L : Int32} {c t : Nat} {ap tg re : Nat → Int32} {S : hp_T} (hc : c ≤ 24) (ht : t < 4) {k : Nat} (hk : k < 7) {post : SY → Prop}
    (H : post (L, (nI c), (nI t), ap, tg, ((hp_yst L c ap re t k S).1), ((hp_yst L c ap re t k S).2.1), ((hp_yst L c ap re t k S).2.2.1), ((hp_yst L c ap re t k S).2.2.2.1), re, ((hp_yst L c ap re t k S).2.2.2.2))) : wpY_settle post (L, (nI c), (nI t), ap, tg, S.1, S.2.1, S.2.2.1, S.2.2.2.1, re, S.2.2.2.2) (nI t) (nI k) := by
  have hcl : (nI (t * 7 + k)).toNatClampNeg = t * 7 + k := nI_clamp (by omega)
  have hin : vp_in (nI (t * 7 + k)) 28 := vp_in_nI (by omega) (by omega)
  unfold wpY_settle
  refine nm_r (hp_at t k) (hp_Ycnt hc (hp_Ysum hc ⟨hin, ?_⟩))
  rw [hcl]
  refine nm_e ?_
  unfold hp_yst hp_y2 at H
  by_cases h3 : 3 ≤ k
  · rw [if_pos h3] at H
    exact br_t (nI_le (a := 3) h3 (by omega)) (hp_Y52 (S := hp_sz (t * 7 + k) _ S) (by omega) H)
  · rw [if_neg h3] at H
    refine br_f (nI_ge (b := 3) (by omega) (by decide)) ?_
    by_cases h0 : nI (hp_cnt (hp_g S.2.2.2.2 ap (nI k) 0 7) c) ≤ 0
    · rw [if_pos h0] at H
      exact br_t h0 (hp_Y52 (S := hp_sz (t * 7 + k) _ S) (by omega) H)
    · rw [if_neg h0] at H
      exact br_f h0 (hp_Yspl (S := hp_sz (t * 7 + k) _ S) hc ht (by omega) (hp_Y52 (S := hp_yp L c ap re t k _ _ (hp_sz (t * 7 + k) _ S)) (by omega) H))
theorem hp_Ypt_s {L : Int32} {c t : Nat} {ap tg fe bo va sz re wh : Nat → Int32} {u m lv n : Nat} (hu : u < 4) (hm : m ≤ 2) (hl : lv < 2) {post : Int32 → Prop} {x : Int32}
    (K : wY_leafValue_5 post (nI u) x L (nI c) (nI t) ap tg fe bo va sz re wh n (nI (hp_w fe bo x (u * 7) m)) (nI (lv + 1))) : wY_leafValue_5 post (nI u) x L (nI c) (nI t) ap tg fe bo va sz re wh (n + 1) (nI m) (nI lv) := by
  have hcl : (nI (u * 7 + m)).toNatClampNeg = u * 7 + m := nI_clamp (by omega)
  have hin : vp_in (nI (u * 7 + m)) 28 := vp_in_nI (by omega) (by omega)
  refine br_f (nI_ge (b := 2) hl (by decide)) (nm_r (hp_at u m) (br_f (nI_ge (b := 3) (by omega) (by decide)) ?_))
  rw [hcl]
  refine ⟨hin, ?_⟩
  unfold hp_w at K
  by_cases h : fe (u * 7 + m) < 0
  · rw [if_pos h] at K
    exact br_t h (nm_r (nI_1 lv) K)
  · rw [if_neg h] at K
    refine br_f h ⟨hin, hin, ?_⟩
    by_cases h2 : bo (u * 7 + m) < hp_fld x (fe (u * 7 + m))
    · rw [if_pos h2] at K
      exact br_t h2 (nm_r (hp_c2 m) (nm_r (nI_1 lv) K))
    · rw [if_neg h2] at K
      exact br_f h2 (nm_r (hp_c1 m) (nm_r (nI_1 lv) K))
theorem hp_Ypt {L : Int32} {c t : Nat} {ap tg fe bo va sz re wh : Nat → Int32} {u : Nat} (hu : u < 4) {post : Int32 → Prop} {x : Int32} (H : post (hp_lf fe bo va x (u * 7))) : wpY_leafValue post (L, (nI c), (nI t), ap, tg, fe, bo, va, sz, re, wh) (nI u) x := by
  have h1 := hp_w_le fe bo x (u * 7) 0
  have h2 := hp_w_le fe bo x (u * 7) (hp_w fe bo x (u * 7) 0)
  refine ⟨3, hp_Ypt_s (m := 0) (lv := 0) hu (by omega) (by omega) (hp_Ypt_s (lv := 1) hu (by omega) (by omega) ?_)⟩
  unfold hp_lf at H
  generalize hp_w fe bo x (u * 7) (hp_w fe bo x (u * 7) 0) = m at H h2 ⊢
  have hcl : (nI (u * 7 + m)).toNatClampNeg = u * 7 + m := nI_clamp (by omega)
  refine br_t (nI_le (a := 2) (b := 2) (by omega) (by decide)) ?_
  rw [hp_at, hcl]
  exact ⟨vp_in_nI (by omega) (by omega), H⟩
theorem hp_Ypr4 {L : Int32} {c t : Nat} {ap tg fe bo va sz re wh : Nat → Int32} (ht : t ≤ 4) {post : Int32 → Prop} {x : Int32} (H : post (hp_pr fe bo va x t)) : ∀ n i, i ≤ t → t - i < n → wY_predict_4 post x L (nI c) (nI t) ap tg fe bo va sz re wh n (hp_pr fe bo va x i) (nI i) := by
  intro n
  induction n with
  | zero => intro i _ h; omega
  | succ n ih =>
    intro i hi hn
    refine pk_le t i (fun h => ?_) (fun h => ?_)
    · have e : i = t := by omega
      rw [e]; exact H
    · have J := ih (i + 1) (by omega) (by omega)
      exact hp_Ypt (by omega) (nm_e (nm_r (nI_1 i) J))
theorem hp_Ypr {L : Int32} {c t : Nat} {ap tg fe bo va sz re wh : Nat → Int32} (ht : t ≤ 4) {post : Int32 → Prop} {x : Int32} (H : post (hp_pr fe bo va x t)) : wpY_predict post (L, (nI c), (nI t), ap, tg, fe, bo, va, sz, re, wh) x :=
  ⟨t + 1, hp_Ypr4 ht H (t + 1) 0 (by omega) (by omega)⟩
theorem hp_Yrest {L : Int32} {c t : Nat} {ap tg fe bo va sz re wh : Nat → Int32} (hc : c ≤ 24) (ht : t ≤ 4) {post : Int32 → Prop} {i : Nat} (hi : i < c) (H : post (tg i - hp_pr fe bo va (ap i) t)) : wpY_rest post (L, (nI c), (nI t), ap, tg, fe, bo, va, sz, re, wh) (nI i) := by
  have hcl : (nI i).toNatClampNeg = i := nI_clamp (by omega)
  have hin : vp_in (nI i) 24 := vp_in_nI (by omega) (by omega)
  unfold wpY_rest
  refine br_f (nI_pos (by omega)) (br_t (nI_lt hi (by omega)) ⟨hin, hin, ?_⟩)
  rw [hcl]
  exact hp_Ypr ht H
theorem hp_Yrest0 {L : Int32} {c t : Nat} {ap tg fe bo va sz re wh : Nat → Int32} (ht : t ≤ 4) {post : Int32 → Prop} {p : Int32} (hp : p < 0 ∨ nI c ≤ p) (H : post 0) : wpY_rest post (L, (nI c), (nI t), ap, tg, fe, bo, va, sz, re, wh) p := by
  unfold wpY_rest
  by_cases h : p < 0
  · exact br_t h H
  · have h2 : nI c ≤ p := hp.resolve_left h
    exact br_f h (br_f (Int32.not_lt.mpr h2) H)
theorem hp_Yls4 {L : Int32} {c t : Nat} {ap tg fe bo va sz re wh : Nat → Int32} (hc : c ≤ 24) (ht : t ≤ 4) {post : Int32 → Prop} (H : post (hp_ls fe bo va ap tg t c)) : ∀ n i, i ≤ c → c - i < n → wY_loss_4 post L (nI c) (nI t) ap tg fe bo va sz re wh n (hp_ls fe bo va ap tg t i) (nI i) := by
  intro n
  induction n with
  | zero => intro i _ h; omega
  | succ n ih =>
    intro i hi hn
    refine pk_le c i (fun h => ?_) (fun h => ?_)
    · have e : i = c := by omega
      rw [e]; exact H
    · have J := ih (i + 1) (by omega) (by omega)
      exact hp_Yrest hc ht (by omega) (nm_e (nm_r (nI_1 i) J))
theorem hp_Yls {L : Int32} {c t : Nat} {ap tg fe bo va sz re wh : Nat → Int32} (hc : c ≤ 24) (ht : t ≤ 4) {post : Int32 → Prop} (H : post (hp_ls fe bo va ap tg t c)) : wpY_loss post (L, (nI c), (nI t), ap, tg, fe, bo, va, sz, re, wh) :=
  ⟨c + 1, hp_Yls4 hc ht H (c + 1) 0 (by omega) (by omega)⟩
theorem hp_Ytr107 {L : Int32} {c t : Nat} {ap tg re : Nat → Int32} {S : hp_T} (hc : c ≤ 24) (ht : t < 4) {post : Int32 → SY → Prop}
    (H : post (nI (hp_cnt (hp_yl L c ap re t S) 7)) (L, (nI c), (nI (t + 1)), ap, tg, ((hp_yP L c ap re t S 7).1), ((hp_yP L c ap re t S 7).2.1), ((hp_yP L c ap re t S 7).2.2.1), ((hp_yP L c ap re t S 7).2.2.2.1), re, ((hp_yP L c ap re t S 7).2.2.2.2))) :
    ∀ n k, k ≤ 7 → 7 - k < n → wY_train_107 post (nI (t * 7)) n (nI (hp_cnt (hp_yl L c ap re t S) k)) (nI k) L (nI c) (nI t) ap tg ((hp_yP L c ap re t S k).1) ((hp_yP L c ap re t S k).2.1) ((hp_yP L c ap re t S k).2.2.1) ((hp_yP L c ap re t S k).2.2.2.1) re ((hp_yP L c ap re t S k).2.2.2.2) := by
  intro n
  induction n with
  | zero => intro i _ h; omega
  | succ n ih =>
    intro k hk hn
    refine pk_le 7 k (fun h => ?_) (fun h => ?_)
    · have e : k = 7 := by omega
      rw [e]
      exact nm_r (nI_1 t) H
    · have hcl : (nI (t * 7 + k)).toNatClampNeg = t * 7 + k := nI_clamp (by omega)
      have hin : vp_in (nI (t * 7 + k)) 28 := vp_in_nI (by omega) (by omega)
      have J := ih (k + 1) (by omega) (by omega)
      rw [nI_add, hcl]
      refine ⟨hin, ?_⟩
      by_cases h6 : (hp_yP L c ap re t S k).1 (t * 7 + k) = -6
      · have e : hp_yP L c ap re t S (k + 1) = hp_yst L c ap re t k (hp_yP L c ap re t S k) := if_pos h6
        have e2 : hp_yl L c ap re t S k = decide ((hp_yst L c ap re t k (hp_yP L c ap re t S k)).1 (t * 7 + k) = -6) := by unfold hp_yl; rw [e]
        rw [e] at J
        refine br_t h6 (hp_Yset hc ht h ⟨hin, ?_⟩)
        by_cases h7 : (hp_yst L c ap re t k (hp_yP L c ap re t S k)).1 (t * 7 + k) = -6
        · rw [hp_cnt_1 (e2.trans (decide_eq_true h7))] at J
          exact br_t h7 (nm_r (nI_1 _) (nm_r (nI_1 k) J))
        · rw [hp_cnt_0 (fun z => h7 (of_decide_eq_true (e2.symm.trans z)))] at J
          exact br_f h7 (nm_r (nI_1 k) J)
      · have e : hp_yP L c ap re t S (k + 1) = hp_yP L c ap re t S k := if_neg h6
        have e2 : hp_yl L c ap re t S k = decide ((hp_yP L c ap re t S k).1 (t * 7 + k) = -6) := by unfold hp_yl; rw [e]
        rw [e, hp_cnt_0 (fun z => h6 (of_decide_eq_true (e2.symm.trans z)))] at J
        exact br_f h6 (nm_r (nI_1 k) J)
theorem hp_Ytr55 {L : Int32} {c t : Nat} {ap tg fe bo va sz re wh : Nat → Int32} {ww : hp_A} (hc : c ≤ 24) (ht : t < 4) {post : Int32 → SY → Prop} (hw : hp_pl wh 0 0 0 c = ww)
    (H : post (nI (hp_cnt (hp_yl L c ap re t (hp_st fe bo va sz wh c t false)) 7)) (L, (nI c), (nI (t + 1)), ap, tg, ((hp_yP L c ap re t (hp_st fe bo va sz wh c t false) 7).1), ((hp_yP L c ap re t (hp_st fe bo va sz wh c t false) 7).2.1), ((hp_yP L c ap re t (hp_st fe bo va sz wh c t false) 7).2.2.1), ((hp_yP L c ap re t (hp_st fe bo va sz wh c t false) 7).2.2.2.1), re, ((hp_yP L c ap re t (hp_st fe bo va sz wh c t false) 7).2.2.2.2))) :
    ∀ n k, k ≤ 7 → 7 - k < n → wY_train_55 post (nI (t * 7)) L (nI c) (nI t) n (nI k) ap tg (hp_pl fe (t * 7) (-7) (-7) k) bo (hp_pl va (t * 7) 0 0 k) (hp_pl sz (t * 7) 0 0 k) re ww := by
  intro n
  induction n with
  | zero => intro i _ h; omega
  | succ n ih =>
    intro k hk hn
    refine pk_le 7 k (fun h => ?_) (fun h => ?_)
    · have e : k = 7 := by omega
      rw [e]
      have hcl : (nI (t * 7)).toNatClampNeg = t * 7 := nI_clamp (by omega)
      rw [hcl]
      refine ⟨vp_in_nI (by omega) (by omega), nm_r (hp_plu fe (t * 7) (-6) (-7) 7 (by omega)) ?_⟩
      subst hw
      exact ⟨8, hp_Ytr107 (S := hp_st fe bo va sz wh c t false) hc ht H 8 0 (by omega) (by omega)⟩
    · have hcl : (nI (t * 7 + k)).toNatClampNeg = t * 7 + k := nI_clamp (by omega)
      have hin : vp_in (nI (t * 7 + k)) 28 := vp_in_nI (by omega) (by omega)
      have J := ih (k + 1) (by omega) (by omega)
      rw [← hp_plS fe, ← hp_plS va, ← hp_plS sz] at J
      rw [nI_add, hcl]
      exact ⟨hin, nm_e ⟨hin, nm_e ⟨hin, nm_e (nm_r (nI_1 k) J)⟩⟩⟩
theorem hp_Ytr13 {L : Int32} {c t : Nat} {ap tg fe bo va sz re wh : Nat → Int32} (hc : c ≤ 24) (ht : t < 4) {post : Int32 → SY → Prop}
    (H : post (nI (hp_cnt (hp_yl L c ap (hp_rs fe bo va ap tg t re c) t (hp_st fe bo va sz wh c t false)) 7)) (L, (nI c), (nI (t + 1)), ap, tg, ((hp_yP L c ap (hp_rs fe bo va ap tg t re c) t (hp_st fe bo va sz wh c t false) 7).1), ((hp_yP L c ap (hp_rs fe bo va ap tg t re c) t (hp_st fe bo va sz wh c t false) 7).2.1), ((hp_yP L c ap (hp_rs fe bo va ap tg t re c) t (hp_st fe bo va sz wh c t false) 7).2.2.1), ((hp_yP L c ap (hp_rs fe bo va ap tg t re c) t (hp_st fe bo va sz wh c t false) 7).2.2.2.1), (hp_rs fe bo va ap tg t re c), ((hp_yP L c ap (hp_rs fe bo va ap tg t re c) t (hp_st fe bo va sz wh c t false) 7).2.2.2.2))) :
    ∀ n i, i ≤ c → c - i < n → wY_train_13 post L (nI c) (nI t) n (nI i) ap tg fe bo va sz (hp_rs fe bo va ap tg t re i) (hp_pl wh 0 0 0 i) := by
  intro n
  induction n with
  | zero => intro i _ h; omega
  | succ n ih =>
    intro i hi hn
    refine pk_le c i (fun h => ?_) (fun h => ?_)
    · have e : i = c := by omega
      rw [e]
      have e7 : nI t * 7 = nI (t * 7) := pk_mul t 7
      refine nm_r e7 ?_
      have J := hp_Ytr55 (wh := wh) hc ht rfl H 8 0 (by omega) (by omega)
      rw [hp_pl0 fe, hp_pl0 va, hp_pl0 sz] at J
      exact ⟨8, J⟩
    · have hcl : (nI i).toNatClampNeg = i := nI_clamp (by omega)
      have hin : vp_in (nI i) 24 := vp_in_nI (by omega) (by omega)
      have J := ih (i + 1) (by omega) (by omega)
      simp only [hp_rs] at J
      rw [← hp_plS wh, Nat.zero_add] at J
      refine hp_Yrest hc (by omega) h ⟨hin, ?_⟩
      rw [hcl]
      exact nm_e ⟨hin, nm_e (nm_r (nI_1 i) J)⟩
theorem hp_Ytr {L : Int32} {c t : Nat} {ap tg fe bo va sz re wh : Nat → Int32} (hc : c ≤ 24) (ht : t < 4) {post : Int32 → SY → Prop}
    (H : post (nI (hp_cnt (hp_yl L c ap (hp_rs fe bo va ap tg t re c) t (hp_st fe bo va sz wh c t false)) 7)) (L, (nI c), (nI (t + 1)), ap, tg, ((hp_yP L c ap (hp_rs fe bo va ap tg t re c) t (hp_st fe bo va sz wh c t false) 7).1), ((hp_yP L c ap (hp_rs fe bo va ap tg t re c) t (hp_st fe bo va sz wh c t false) 7).2.1), ((hp_yP L c ap (hp_rs fe bo va ap tg t re c) t (hp_st fe bo va sz wh c t false) 7).2.2.1), ((hp_yP L c ap (hp_rs fe bo va ap tg t re c) t (hp_st fe bo va sz wh c t false) 7).2.2.2.1), (hp_rs fe bo va ap tg t re c), ((hp_yP L c ap (hp_rs fe bo va ap tg t re c) t (hp_st fe bo va sz wh c t false) 7).2.2.2.2))) :
    wpY_train post (L, (nI c), (nI t), ap, tg, fe, bo, va, sz, re, wh) := by
  unfold wpY_train
  have J := hp_Ytr13 hc ht H (c + 1) 0 (by omega) (by omega)
  rw [hp_pl0] at J
  have h4 : ¬ nI t = 4 := fun z => by
    have h := (nI_eq (a := t) (b := 4) (by omega) (by decide)).mp z
    omega
  exact br_f h4 ⟨c + 1, J⟩
end
section
/-! the gains: X's and Y's comparison decide alike -/
theorem hp_b64 {z : Int} (h : z.natAbs < 9223372036854775808) : z.bmod (2 ^ 64) = z := Int.bmod_eq_of_le (by omega) (by omega)
theorem hp_b32 {z : Int} (h : z.natAbs < 2147483648) : z.bmod (2 ^ 32) = z := Int.bmod_eq_of_le (by omega) (by omega)
theorem hp_mulB {a b : Int64} {x y : Int} {A B : Nat} (ha : a.toInt = x) (hb : b.toInt = y) (hx : x.natAbs ≤ A) (hy : y.natAbs ≤ B) (h : A * B < 9223372036854775808) : (a * b).toInt = x * y ∧ (x * y).natAbs ≤ A * B := by
  have k : (x * y).natAbs ≤ A * B := by rw [Int.natAbs_mul]; exact Nat.mul_le_mul hx hy
  exact ⟨by rw [Int64.toInt_mul, ha, hb, hp_b64 (Nat.lt_of_le_of_lt k h)], k⟩
theorem hp_addB {a b : Int64} {x y : Int} {A B : Nat} (ha : a.toInt = x) (hb : b.toInt = y) (hx : x.natAbs ≤ A) (hy : y.natAbs ≤ B) (h : A + B < 9223372036854775808) : (a + b).toInt = x + y ∧ (x + y).natAbs ≤ A + B := by
  have k : (x + y).natAbs ≤ A + B := by omega
  exact ⟨by rw [Int64.toInt_add, ha, hb, hp_b64 (Nat.lt_of_le_of_lt k h)], k⟩
theorem hp_subB {a b : Int64} {x y : Int} {A B : Nat} (ha : a.toInt = x) (hb : b.toInt = y) (hx : x.natAbs ≤ A) (hy : y.natAbs ≤ B) (h : A + B < 9223372036854775808) : (a - b).toInt = x - y ∧ (x - y).natAbs ≤ A + B := by
  have k : (x - y).natAbs ≤ A + B := by omega
  exact ⟨by rw [Int64.toInt_sub, ha, hb, hp_b64 (Nat.lt_of_le_of_lt k h)], k⟩
theorem hp_sgn {a b x y : Int} (ha : 0 < a) (hb : 0 < b) (e : a * x = b * y) : 0 < x ↔ 0 < y :=
  ⟨fun h => Int.pos_of_mul_pos_right (e ▸ Int.mul_pos ha h) hb, fun h => Int.pos_of_mul_pos_right (e.symm ▸ Int.mul_pos hb h) ha⟩
theorem hp_gid (sl sr nl nr : Int) : (nl + nr) * (sl * sl * nr + sr * sr * nl) = (sl * nr - sr * nl) * (sl * nr - sr * nl) + (sl + sr) * (sl + sr) * (nl * nr) := by grind
theorem hp_gain {n s sl sr nl nr G Bc T Br : Int} (hn : nl + nr = n) (hs : sl + sr = s) (h0 : 0 < n) (hBc : 0 < Bc) (hBr : 0 < Br) (hI : n * T * Bc = Br * (G + s * s * Bc)) :
    T * (nl * nr) < (sl * sl * nr + sr * sr * nl) * Br ↔ G * (nl * nr) < (sl * nr - sr * nl) * (sl * nr - sr * nl) * Bc := by
  have e := hp_gid sl sr nl nr
  rw [hn, hs] at e
  have k : (n * Bc) * ((sl * sl * nr + sr * sr * nl) * Br - T * (nl * nr)) = Br * ((sl * nr - sr * nl) * (sl * nr - sr * nl) * Bc - G * (nl * nr)) := by grind
  have j := hp_sgn (Int.mul_pos h0 hBc) hBr k
  omega
theorem hp_nT {n : Nat} (h : n ≤ 24) : (nI n).toInt64.toInt = (n : Int) ∧ ((n : Int)).natAbs ≤ 24 :=
  ⟨by rw [Int32.toInt_toInt64, nI_toInt (by omega)], by omega⟩
theorem hp_cmp {nl nr : Nat} {s sl : Int32} {B3 B4 C1 C2 : Int64} {G Bc T Br : Int} (hn : nl + nr ≤ 24) (h1 : 0 < nl) (h2 : 0 < nr) (hs : s.toInt.natAbs ≤ 9600) (hsl : sl.toInt.natAbs ≤ 9600)
    (eG : B3.toInt = G) (eB : B4.toInt = Bc) (eT : C1.toInt = T) (eR : C2.toInt = Br) (bG : G.natAbs ≤ 1000000000000) (bB : Bc.natAbs ≤ 576) (bT : T.natAbs ≤ 100000000000) (bR : Br.natAbs ≤ 576) (pB : 0 < Bc) (pR : 0 < Br)
    (hI : ((nl : Int) + nr) * T * Bc = Br * (G + s.toInt * s.toInt * Bc)) :
    (((hp_d (nI nl) sl (nI nr) (s - sl) * hp_d (nI nl) sl (nI nr) (s - sl)) * B4 ≤ B3 * ((nI nl).toInt64 * (nI nr).toInt64)) ↔ (hp_t (nI nl).toInt64 sl.toInt64 (nI nr).toInt64 (s.toInt64 - sl.toInt64) * C2 ≤ (C1 * (nI nl).toInt64) * (nI nr).toInt64)) ∧
    ∃ sr : Int, s.toInt = sl.toInt + sr ∧ (hp_d (nI nl) sl (nI nr) (s - sl) * hp_d (nI nl) sl (nI nr) (s - sl)).toInt = (sl.toInt * nr - sr * nl) * (sl.toInt * nr - sr * nl) ∧ ((sl.toInt * nr - sr * nl) * (sl.toInt * nr - sr * nl)).natAbs ≤ 1000000000000 ∧
    ((nI nl).toInt64 * (nI nr).toInt64).toInt = (nl : Int) * nr ∧ ((nl : Int) * nr).natAbs ≤ 576 ∧
    (hp_t (nI nl).toInt64 sl.toInt64 (nI nr).toInt64 (s.toInt64 - sl.toInt64)).toInt = sl.toInt * sl.toInt * nr + sr * sr * nl ∧ (sl.toInt * sl.toInt * nr + sr * sr * nl).natAbs ≤ 100000000000 := by
  obtain ⟨eL, bL⟩ := hp_nT (n := nl) (by omega)
  obtain ⟨eN, bN⟩ := hp_nT (n := nr) (by omega)
  have e1 : sl.toInt64.toInt = sl.toInt := Int32.toInt_toInt64 _
  have e2 : s.toInt64.toInt = s.toInt := Int32.toInt_toInt64 _
  obtain ⟨e3, b3⟩ := hp_subB e2 e1 hs hsl (by decide)
  have e4 : (s - sl).toInt64.toInt = s.toInt - sl.toInt := by
    rw [Int32.toInt_toInt64, Int32.toInt_sub, hp_b32 (by omega)]
  have ex : s.toInt = sl.toInt + (s.toInt - sl.toInt) := by omega
  generalize s.toInt - sl.toInt = sr at e3 b3 e4 ex
  generalize hS : s.toInt = S at hI hs e2 ex
  generalize hSl : sl.toInt = Sl at hsl e1 ex
  generalize hL : (nl : Int) = NL at eL bL hI
  generalize hN : (nr : Int) = NR at eN bN hI
  obtain ⟨m1, c1⟩ := hp_mulB e1 eN hsl bN (by decide)
  obtain ⟨m2, c2⟩ := hp_mulB e4 eL b3 bL (by decide)
  obtain ⟨m3, c3⟩ := hp_subB m1 m2 c1 c2 (by decide)
  obtain ⟨m4, c4⟩ := hp_mulB m3 m3 c3 c3 (by decide)
  obtain ⟨m5, c5⟩ := hp_mulB eL eN bL bN (by decide)
  obtain ⟨m6, c6⟩ := hp_mulB m4 eB c4 bB (by decide)
  obtain ⟨m7, c7⟩ := hp_mulB eG m5 bG c5 (by decide)
  obtain ⟨t1, d1⟩ := hp_mulB e1 e1 hsl hsl (by decide)
  obtain ⟨t2, d2⟩ := hp_mulB t1 eN d1 bN (by decide)
  obtain ⟨t3, d3⟩ := hp_mulB e3 e3 b3 b3 (by decide)
  obtain ⟨t4, d4⟩ := hp_mulB t3 eL d3 bL (by decide)
  obtain ⟨t5, d5⟩ := hp_addB t2 t4 d2 d4 (by decide)
  obtain ⟨t6, d6⟩ := hp_mulB t5 eR d5 bR (by decide)
  obtain ⟨t7, d7⟩ := hp_mulB eT eL bT bL (by decide)
  obtain ⟨t8, d8⟩ := hp_mulB t7 eN d7 bN (by decide)
  have pN : 0 < NL + NR := by omega
  have K := hp_gain (sl := Sl) (sr := sr) (n := NL + NR) rfl ex.symm pN pB pR hI
  unfold hp_d hp_t
  refine ⟨?_, sr, ex, m4, Nat.le_trans c4 (by decide), m5, c5, t5, Nat.le_trans d5 (by decide)⟩
  rw [Int64.le_iff_toInt_le, Int64.le_iff_toInt_le, m6, m7, t6, t8]
  rw [Int.mul_assoc T NL NR]
  omega
end
section
/-! the offers: X's best and Y's arrays go together -/
theorem hp_cnt_le (g : Nat → Bool) : ∀ c, hp_cnt g c ≤ c
  | 0 => Nat.le_refl 0
  | c + 1 => by
    have h := hp_cnt_le g c
    simp only [hp_cnt]; split <;> omega
theorem hp_cnt_mono {g h : Nat → Bool} (H : ∀ i, g i = true → h i = true) : ∀ c, hp_cnt g c ≤ hp_cnt h c
  | 0 => Nat.le_refl 0
  | c + 1 => by
    have e := hp_cnt_mono H c
    simp only [hp_cnt]
    by_cases a : g c = true
    · rw [if_pos a, if_pos (H c a)]; omega
    · rw [if_neg a]; split <;> omega
theorem hp_cnt_cg {g h : Nat → Bool} : ∀ c, (∀ i, i < c → g i = h i) → hp_cnt g c = hp_cnt h c
  | 0, _ => rfl
  | c + 1, H => by
    simp only [hp_cnt]
    rw [H c (Nat.lt_succ_self c), hp_cnt_cg c (fun i hi => H i (Nat.lt_succ_of_lt hi))]
theorem hp_sm_b {g : Nat → Bool} {r : hp_A} {M : Nat} (hM : M ≤ 400) : ∀ c, c ≤ 24 → (∀ i, i < c → (r i).toInt.natAbs ≤ M) → (hp_sm g r c).toInt.natAbs ≤ M * hp_cnt g c
  | 0, _, _ => by simp only [hp_sm, hp_cnt]; exact Nat.zero_le _
  | c + 1, h, H => by
    have ih := hp_sm_b (g := g) hM c (by omega) (fun i hi => H i (by omega))
    have hc := hp_cnt_le g c
    have hr := H c (by omega)
    have hk : M * hp_cnt g c ≤ 400 * 24 := Nat.mul_le_mul hM (by omega)
    simp only [hp_sm, hp_cnt]
    by_cases a : g c = true
    · rw [if_pos a, if_pos a, Int32.toInt_add, hp_b32 (by omega), Nat.mul_add]; omega
    · rw [if_neg a, if_neg a]; exact ih
theorem hp_sm_9 {g : Nat → Bool} {r : hp_A} {c : Nat} (hc : c ≤ 24) (H : ∀ i, i < c → (r i).toInt.natAbs ≤ 400) : (hp_sm g r c).toInt.natAbs ≤ 9600 := by
  have h := hp_sm_b (g := g) (Nat.le_refl 400) c hc H
  have h2 := hp_cnt_le g c
  omega
theorem hp_sL_e {g : Nat → Bool} {r : hp_A} : ∀ c, c ≤ 24 → (∀ i, i < c → (r i).toInt.natAbs ≤ 400) → hp_sL g r c = (hp_sm g r c).toInt64
  | 0, _, _ => rfl
  | c + 1, h, H => by
    have ih := hp_sL_e (g := g) c (by omega) (fun i hi => H i (by omega))
    have hb := hp_sm_9 (g := g) (c := c) (by omega) (fun i hi => H i (by omega))
    have hr := H c (by omega)
    simp only [hp_sL, hp_sm]
    by_cases a : g c = true
    · rw [if_pos a, if_pos a, ih]
      apply Int64.toInt_inj.mp
      rw [Int64.toInt_add, Int32.toInt_toInt64, Int32.toInt_toInt64, Int32.toInt_toInt64, Int32.toInt_add, hp_b32 (by omega), hp_b64 (by omega)]
    · rw [if_neg a, if_neg a]; exact ih
theorem hp_uid {f : hp_A} {k : Nat} {x : Int32} (h : f k = x) : upd f k x = f := by
  funext j; unfold upd; split
  · next e => rw [e, h]
  · rfl
theorem hp_uu {f : hp_A} {k : Nat} {x y : Int32} : upd (upd f k x) k y = upd f k y := by
  funext j; unfold upd; split <;> rfl
def hp_R (n : Nat) (s : Int32) (x : Nat) (fe bo : hp_A) (B : hp_B) (C : hp_C) : Prop :=
  (n : Int) * C.1.toInt * B.2.2.2.toInt = C.2.1.toInt * (B.2.2.1.toInt + s.toInt * s.toInt * B.2.2.2.toInt) ∧
  (0 < B.2.2.2.toInt ∧ B.2.2.2.toInt.natAbs ≤ 576) ∧ (0 < C.2.1.toInt ∧ C.2.1.toInt.natAbs ≤ 576) ∧ B.2.2.1.toInt.natAbs ≤ 1000000000000 ∧ C.1.toInt.natAbs ≤ 100000000000 ∧
  C.2.2.1 = upd fe x B.1 ∧ ((B.1 = -6 ∧ C.2.2.2 = bo) ∨ (∃ j, j < 3 ∧ B.1 = nI j ∧ C.2.2.2 = upd bo x B.2.1))
theorem hp_tl {a b : Nat} (ha : a ≤ 24) (hb : b ≤ 24) : (nI a).toInt64 < (nI b).toInt64 ↔ a < b := by
  rw [nI_l (by omega), nI_l (by omega), lN_lt (by omega) (by omega)]
theorem hp_step {l n nl : Nat} {s sl : Int32} (hl : 1 ≤ l) (hl2 : l ≤ 12) (hn : n ≤ 24) (hnl : nl ≤ n) (hs : s.toInt.natAbs ≤ 9600) (hsl : sl.toInt.natAbs ≤ 9600) {x : Nat} {fe bo : hp_A} {B : hp_B} {C : hp_C} {j : Nat} (hj : j < 3) {b : Int32}
    (R : hp_R n s x fe bo B C) : hp_R n s x fe bo (hp_xo (nI l) (nI n) s (nI nl) sl (nI j) b B) (hp_yo (nI l) (nI n).toInt64 s.toInt64 (nI nl) sl.toInt64 x (nI j) b C) := by
  unfold hp_xo hp_yo
  have eX : nI n - nI nl = nI (n - nl) := pk_sub hnl
  have eY : (nI n).toInt64 - (nI nl).toInt64 = (nI (n - nl)).toInt64 := by
    rw [nI_l (by omega), nI_l (by omega), nI_l (by omega), lN_sub hnl]
  rw [eX, eY]
  by_cases h1 : nl < l
  · rw [if_pos (nI_lt h1 (by omega)), if_pos ((hp_tl (by omega) (by omega)).mpr h1)]
    exact R
  · rw [if_neg (nI_nlt (by omega) (by omega)), if_neg (fun z => h1 ((hp_tl (by omega) (by omega)).mp z))]
    by_cases h2 : n - nl < l
    · rw [if_pos (nI_lt h2 (by omega)), if_pos ((hp_tl (by omega) (by omega)).mpr h2)]
      exact R
    · rw [if_neg (nI_nlt (by omega) (by omega)), if_neg (fun z => h2 ((hp_tl (by omega) (by omega)).mp z))]
      obtain ⟨nr, rfl⟩ : ∃ nr, n = nl + nr := ⟨n - nl, by omega⟩
      rw [Nat.add_sub_cancel_left] at h2 ⊢
      obtain ⟨hI, ⟨pB, bB⟩, ⟨pR, bR⟩, bG, bT, rest⟩ := R
      rw [Int.natCast_add] at hI
      obtain ⟨hif, sr, es, e1, b1, e2, b2, e3, b3⟩ := hp_cmp (nl := nl) (nr := nr) hn (by omega) (by omega) hs hsl rfl rfl rfl rfl bG bB bT bR pB pR hI
      unfold hp_of
      by_cases h3 : (hp_d (nI nl) sl (nI nr) (s - sl) * hp_d (nI nl) sl (nI nr) (s - sl)) * B.2.2.2 ≤ B.2.2.1 * ((nI nl).toInt64 * (nI nr).toInt64)
      · rw [if_pos h3, if_pos (hif.mp h3)]
        refine ⟨?_, ⟨pB, bB⟩, ⟨pR, bR⟩, bG, bT, rest⟩
        rw [Int.natCast_add]; exact hI
      · rw [if_neg h3, if_neg (fun z => h3 (hif.mpr z))]
        have pP : 0 < (nl : Int) * nr := Int.mul_pos (by omega) (by omega)
        refine ⟨?_, ⟨?_, ?_⟩, ⟨?_, ?_⟩, ?_, ?_, ?_, ?_⟩
        · show ((nl + nr : Nat) : Int) * (hp_t (nI nl).toInt64 sl.toInt64 (nI nr).toInt64 (s.toInt64 - sl.toInt64)).toInt * ((nI nl).toInt64 * (nI nr).toInt64).toInt = ((nI nl).toInt64 * (nI nr).toInt64).toInt * ((hp_d (nI nl) sl (nI nr) (s - sl) * hp_d (nI nl) sl (nI nr) (s - sl)).toInt + s.toInt * s.toInt * ((nI nl).toInt64 * (nI nr).toInt64).toInt)
          rw [e1, e2, e3, es, Int.natCast_add, hp_gid, Int.mul_comm]
        · show 0 < ((nI nl).toInt64 * (nI nr).toInt64).toInt
          rw [e2]; exact pP
        · show ((nI nl).toInt64 * (nI nr).toInt64).toInt.natAbs ≤ 576
          rw [e2]; exact b2
        · show 0 < ((nI nl).toInt64 * (nI nr).toInt64).toInt
          rw [e2]; exact pP
        · show ((nI nl).toInt64 * (nI nr).toInt64).toInt.natAbs ≤ 576
          rw [e2]; exact b2
        · show (hp_d (nI nl) sl (nI nr) (s - sl) * hp_d (nI nl) sl (nI nr) (s - sl)).toInt.natAbs ≤ _
          rw [e1]; exact b1
        · show (hp_t (nI nl).toInt64 sl.toInt64 (nI nr).toInt64 (s.toInt64 - sl.toInt64)).toInt.natAbs ≤ _
          rw [e3]; exact b3
        · show upd C.2.2.1 x (nI j) = upd fe x (nI j)
          rw [rest.1, hp_uu]
        · refine Or.inr ⟨j, hj, rfl, ?_⟩
          show upd C.2.2.2 x b = upd bo x b
          rcases rest.2 with ⟨_, h⟩ | ⟨_, _, _, h⟩
          · rw [h]
          · rw [h, hp_uu]
theorem hp_Rin {l c x : Nat} {wh rf re fe bo : hp_A} {nd : Int32} (hl : 1 ≤ l) (hl2 : l ≤ 12) (hc : c ≤ 24) (hre : ∀ i, i < c → (re i).toInt.natAbs ≤ 400) {f : Nat} (hf : f < 3) {B : hp_B} {C : hp_C}
    (R : hp_R (hp_cnt (hp_g wh rf nd 0 7) c) (hp_sm (hp_g wh rf nd 0 7) re c) x fe bo B C) :
    ∀ j, hp_R (hp_cnt (hp_g wh rf nd 0 7) c) (hp_sm (hp_g wh rf nd 0 7) re c) x fe bo (hp_xi (nI l) (nI (hp_cnt (hp_g wh rf nd 0 7) c)) (hp_sm (hp_g wh rf nd 0 7) re c) c wh rf re nd (nI f) B j)
      (hp_yi (nI l) (nI (hp_cnt (hp_g wh rf nd 0 7) c)).toInt64 (hp_sm (hp_g wh rf nd 0 7) re c).toInt64 c wh (fun i => rf i &&& 511) re x nd (nI f) C j)
  | 0 => R
  | j + 1 => by
    have ih := hp_Rin hl hl2 hc hre hf R j
    simp only [hp_xi, hp_yi]
    rw [hp_g_k wh rf nd f hf, hp_sL_e c hc hre]
    exact hp_step hl hl2 (Nat.le_trans (hp_cnt_le _ _) hc) (hp_cnt_mono (fun i h => hp_g_m h) c) (hp_sm_9 hc hre) (hp_sm_9 hc hre) hf ih
theorem hp_Rb {l c x : Nat} {wh rf re fe bo : hp_A} {nd : Int32} (hl : 1 ≤ l) (hl2 : l ≤ 12) (hc : c ≤ 24) (hre : ∀ i, i < c → (re i).toInt.natAbs ≤ 400) (hx : fe x = -6) (h0 : 0 < hp_cnt (hp_g wh rf nd 0 7) c) :
    ∀ k, k ≤ 3 → hp_R (hp_cnt (hp_g wh rf nd 0 7) c) (hp_sm (hp_g wh rf nd 0 7) re c) x fe bo (hp_xb (nI l) (nI (hp_cnt (hp_g wh rf nd 0 7) c)) (hp_sm (hp_g wh rf nd 0 7) re c) c wh rf re nd k)
      (hp_yb (nI l) (nI (hp_cnt (hp_g wh rf nd 0 7) c)).toInt64 (hp_sm (hp_g wh rf nd 0 7) re c).toInt64 c wh (fun i => rf i &&& 511) re x nd
        ((hp_sm (hp_g wh rf nd 0 7) re c).toInt64 * (hp_sm (hp_g wh rf nd 0 7) re c).toInt64, (nI (hp_cnt (hp_g wh rf nd 0 7) c)).toInt64, fe, bo) k)
  | 0, _ => by
    have hb := hp_sm_9 (g := hp_g wh rf nd 0 7) hc hre
    have hn := hp_cnt_le (hp_g wh rf nd 0 7) c
    simp only [hp_xb, hp_yb]
    generalize hp_sm (hp_g wh rf nd 0 7) re c = s at hb ⊢
    generalize hp_cnt (hp_g wh rf nd 0 7) c = n at h0 hn ⊢
    obtain ⟨eN, bN⟩ := hp_nT (n := n) (by omega)
    obtain ⟨eS, bS⟩ := hp_mulB (Int32.toInt_toInt64 s) (Int32.toInt_toInt64 s) hb hb (by decide)
    have e1 : (1 : Int64).toInt = 1 := by decide
    have e0 : (0 : Int64).toInt = 0 := by decide
    unfold hp_R
    dsimp only
    rw [eS, eN, e1, e0]
    refine ⟨?_, ⟨by omega, by omega⟩, ⟨by omega, by omega⟩, by omega, Nat.le_trans bS (by decide), (hp_uid hx).symm, Or.inl ⟨rfl, rfl⟩⟩
    rw [Int.mul_one, Int.mul_one, Int.zero_add]
  | k + 1, hk => by
    have ih := hp_Rb (bo := bo) hl hl2 hc hre hx h0 k (by omega)
    simp only [hp_xb, hp_yb]
    exact hp_Rin hl hl2 hc hre (by omega) ih 7
/-- no rows in the node: no split is allowed -/
theorem hp_xb0 {l c : Nat} {wh rf re : hp_A} {nd s : Int32} (hl : 1 ≤ l) (hl2 : l ≤ 12) (hc : c ≤ 24) (h0 : hp_cnt (hp_g wh rf nd 0 7) c = 0) : ∀ k, hp_xb (nI l) (nI 0) s c wh rf re nd k = (-6, -6, 0, 1)
  | 0 => rfl
  | k + 1 => by
    have ih := hp_xb0 (re := re) (s := s) hl hl2 hc h0 k
    have hi : ∀ j, hp_xi (nI l) (nI 0) s c wh rf re nd (nI k) (-6, -6, 0, 1) j = (-6, -6, 0, 1) := by
      intro j
      induction j with
      | zero => rfl
      | succ j ihj =>
        have hm := hp_cnt_mono (g := hp_g wh rf nd (nI k) (nI j)) (h := hp_g wh rf nd 0 7) (fun i h => hp_g_m h) c
        have hz : hp_cnt (hp_g wh rf nd (nI k) (nI j)) c = 0 := by omega
        simp only [hp_xi]
        unfold hp_xo
        rw [hz, if_pos (nI_lt (by omega) (by omega))]
        exact ihj
    simp only [hp_xb]
    rw [ih, hi]
end
section
/-! the growing: X's tree and Y's tree -/
/-- a cell of the trees: X's feature and bound, Y's bound, the value -/
def hp_ok (f c b v : Int32) : Prop := (f = -7 ∧ c = -7 ∧ v = 0) ∨ (f = -6 ∧ c = -6) ∨ (∃ m, m < 3 ∧ f = nI m ∧ b = c ∧ v = 0)
def hp_J (fe cb bo va : hp_A) : Prop := (∀ j, hp_ok (fe j) (cb j) (bo j) (va j)) ∧ (∀ u m, u < 4 → m < 7 → (va (u * 7 + m)).toInt.natAbs ≤ 50 * 2 ^ u)
def hp_W (t k : Nat) (fe va : hp_A) : Prop := ∀ j, k ≤ j → j < 7 → (fe (t * 7 + j) = -6 ∨ fe (t * 7 + j) = -7) ∧ va (t * 7 + j) = 0
theorem hp_nn {m : Nat} (h : m < 3) : ¬ nI m < 0 ∧ nI m ≠ -6 ∧ nI m ≠ -7 := by
  have e : (nI m).toInt = m := nI_toInt (by omega)
  refine ⟨nI_pos (by omega), fun z => ?_, fun z => ?_⟩
  · rw [z] at e; have e6 : (-6 : Int32).toInt = -6 := by decide
    omega
  · rw [z] at e; have e6 : (-7 : Int32).toInt = -7 := by decide
    omega
theorem hp_ok6 {f c b v : Int32} (h : hp_ok f c b v) (e : f = -6) : c = -6 := by
  rcases h with ⟨h, _⟩ | ⟨_, h⟩ | ⟨m, hm, h, _⟩
  · rw [e] at h; exact absurd h (by decide)
  · exact h
  · rw [e] at h; exact absurd h.symm (hp_nn hm).2.1
theorem hp_pw {t : Nat} (h : t < 4) : 50 * 2 ^ t ≤ 400 := by
  have h4 : t = 0 ∨ t = 1 ∨ t = 2 ∨ t = 3 := by omega
  rcases h4 with rfl | rfl | rfl | rfl <;> decide
theorem hp_dvb {n M : Nat} {s : Int32} (hn : n ≤ 24) (h : s.toInt.natAbs ≤ M * n) : (hp_dv (nI n) s).toInt.natAbs ≤ M := by
  unfold hp_dv
  by_cases h0 : nI n = 0
  · rw [if_pos h0]; exact Nat.zero_le _
  · rw [if_neg h0]
    have e : (nI n).toInt = n := nI_toInt (by omega)
    have e1 : (-1 : Int32).toInt = -1 := by decide
    have h1 : nI n ≠ -1 := fun z => by rw [z] at e; omega
    rw [Int32.toInt_div_of_ne_right _ _ h1, e, Int.natAbs_tdiv]
    refine Nat.div_le_of_le_mul ?_
    rw [Nat.mul_comm]; exact h
theorem hp_leafY {x n : Nat} {s : Int32} {fe bo va sz wh : hp_A} (hn : n ≤ 24) (h6 : fe x = -6) (h0 : va x = 0) :
    hp_yv x (nI n) s (fe, bo, va, sz, wh) = (fe, bo, upd va x (hp_dv (nI n) s), sz, wh) := by
  unfold hp_yv hp_dv
  dsimp only
  rw [if_pos h6]
  by_cases hz : n = 0
  · subst hz
    rw [if_pos (show nI 0 ≤ 0 by decide), if_pos (show nI 0 = 0 by decide), hp_uid h0]
  · rw [if_neg (nI_nle (by omega) (by omega)), if_neg (nI_ne0 (by omega) (by omega))]
theorem hp_Jleaf {t k : Nat} (ht : t < 4) (hk : k < 7) {fe cb bo va : hp_A} {v : Int32} (hJ : hp_J fe cb bo va) (hW : hp_W t k fe va) (h6 : fe (t * 7 + k) = -6) (hv : v.toInt.natAbs ≤ 50 * 2 ^ t) :
    hp_J fe cb bo (upd va (t * 7 + k) v) ∧ hp_W t (k + 1) fe (upd va (t * 7 + k) v) := by
  refine ⟨⟨fun j => ?_, fun u m hu hm => ?_⟩, fun j hj hj7 => ?_⟩
  · by_cases e : j = t * 7 + k
    · rw [e]
      exact Or.inr (Or.inl ⟨h6, hp_ok6 (hJ.1 _) h6⟩)
    · rw [pk_un e]; exact hJ.1 j
  · by_cases e : u * 7 + m = t * 7 + k
    · have eu : u = t := by omega
      rw [e, pk_us, eu]; exact hv
    · rw [pk_un e]; exact hJ.2 u m hu hm
  · have e : t * 7 + j ≠ t * 7 + k := by omega
    rw [pk_un e]; exact hW j (by omega) hj7
theorem hp_Jsplit {t k q : Nat} (ht : t < 4) (hk : k < 3) (hq : q < 3) {fe cb bo va : hp_A} {b : Int32} (hJ : hp_J fe cb bo va) (hW : hp_W t k fe va) :
    hp_J (upd (upd (upd fe (t * 7 + k) (nI q)) (t * 7 + (2 * k + 1)) (-6)) (t * 7 + (2 * k + 2)) (-6)) (upd (upd (upd cb (t * 7 + k) b) (t * 7 + (2 * k + 1)) (-6)) (t * 7 + (2 * k + 2)) (-6)) (upd bo (t * 7 + k) b) va ∧
    hp_W t (k + 1) (upd (upd (upd fe (t * 7 + k) (nI q)) (t * 7 + (2 * k + 1)) (-6)) (t * 7 + (2 * k + 2)) (-6)) va := by
  refine ⟨⟨fun j => ?_, hJ.2⟩, fun j hj hj7 => ⟨?_, (hW j (by omega) hj7).2⟩⟩
  · by_cases e2 : j = t * 7 + (2 * k + 2)
    · rw [e2, pk_us, pk_us]; exact Or.inr (Or.inl ⟨rfl, rfl⟩)
    · rw [pk_un e2, pk_un e2]
      by_cases e1 : j = t * 7 + (2 * k + 1)
      · rw [e1, pk_us, pk_us]; exact Or.inr (Or.inl ⟨rfl, rfl⟩)
      · rw [pk_un e1, pk_un e1]
        by_cases e0 : j = t * 7 + k
        · rw [e0, pk_us, pk_us, pk_us]
          exact Or.inr (Or.inr ⟨q, hq, rfl, rfl, (hW k (Nat.le_refl k) (by omega)).2⟩)
        · rw [pk_un e0, pk_un e0, pk_un e0]; exact hJ.1 j
  · by_cases e2 : t * 7 + j = t * 7 + (2 * k + 2)
    · rw [e2, pk_us]; exact Or.inl rfl
    · rw [pk_un e2]
      by_cases e1 : t * 7 + j = t * 7 + (2 * k + 1)
      · rw [e1, pk_us]; exact Or.inl rfl
      · have e0 : t * 7 + j ≠ t * 7 + k := by omega
        rw [pk_un e1, pk_un e0]; exact (hW j (by omega) hj7).1
/-- what both sides have after a node -/
def hp_Q (t k : Nat) (fe0 : hp_A) (X Y : hp_T) : Prop :=
  ∃ fe cb bo va sz wh : hp_A, X = (fe, cb, va, sz, wh) ∧ Y = (fe, bo, va, sz, wh) ∧ hp_J fe cb bo va ∧ hp_W t (k + 1) fe va ∧ ∀ j, j < k → fe (t * 7 + j) = fe0 (t * 7 + j)
theorem hp_gr {l c t k : Nat} {rf re fe cb bo va sz wh : hp_A} (hl : 1 ≤ l) (hl2 : l ≤ 12) (hc : c ≤ 24) (ht : t < 4) (hk : k < 7) (hre : ∀ i, i < c → (re i).toInt.natAbs ≤ 50 * 2 ^ t)
    (hJ : hp_J fe cb bo va) (hW : hp_W t k fe va) : hp_Q t k fe (hp_xg (nI l) c rf re t k (fe, cb, va, sz, wh)) (hp_yg (nI l) c (fun i => rf i &&& 511) re t k (fe, bo, va, sz, wh)) := by
  have hpw := hp_pw ht
  have hre4 : ∀ i, i < c → (re i).toInt.natAbs ≤ 400 := fun i hi => Nat.le_trans (hre i hi) hpw
  have hWk := hW k (Nat.le_refl k) hk
  by_cases h7 : fe (t * 7 + k) = -7
  · have eX : hp_xg (nI l) c rf re t k (fe, cb, va, sz, wh) = (fe, cb, va, sz, wh) := if_pos h7
    have h6 : ¬ fe (t * 7 + k) = -6 := by rw [h7]; decide
    have eY : hp_yg (nI l) c (fun i => rf i &&& 511) re t k (fe, bo, va, sz, wh) = (fe, bo, va, sz, wh) := if_neg h6
    rw [eX, eY]
    exact ⟨fe, cb, bo, va, sz, wh, rfl, rfl, hJ, fun j hj => hW j (by omega), fun _ _ => rfl⟩
  · have h6 : fe (t * 7 + k) = -6 := hWk.1.resolve_right h7
    have h0 := hWk.2
    have eg : hp_g wh (fun i => rf i &&& 511) (nI k) 0 7 = hp_g wh rf (nI k) 0 7 := hp_g_k wh rf (nI k) 0 (by omega) 7
    have hn : hp_cnt (hp_g wh rf (nI k) 0 7) c ≤ 24 := Nat.le_trans (hp_cnt_le _ _) hc
    have hv : (hp_dv (nI (hp_cnt (hp_g wh rf (nI k) 0 7) c)) (hp_sm (hp_g wh rf (nI k) 0 7) re c)).toInt.natAbs ≤ 50 * 2 ^ t := hp_dvb hn (hp_sm_b hpw c hc hre)
    have eX : hp_xg (nI l) c rf re t k (fe, cb, va, sz, wh) = hp_x2 (nI l) c rf re t k (nI (hp_cnt (hp_g wh rf (nI k) 0 7) c)) (hp_sm (hp_g wh rf (nI k) 0 7) re c) (fe, cb, va, sz, wh) := if_neg h7
    have eY : hp_yg (nI l) c (fun i => rf i &&& 511) re t k (fe, bo, va, sz, wh) = hp_y2 (nI l) c (fun i => rf i &&& 511) re t k (nI (hp_cnt (hp_g wh rf (nI k) 0 7) c)) (hp_sm (hp_g wh rf (nI k) 0 7) re c).toInt64 (fe, bo, va, upd sz (t * 7 + k) (nI (hp_cnt (hp_g wh rf (nI k) 0 7) c)), wh) := by
      have e1 : hp_yg (nI l) c (fun i => rf i &&& 511) re t k (fe, bo, va, sz, wh) = hp_yst (nI l) c (fun i => rf i &&& 511) re t k (fe, bo, va, sz, wh) := if_pos h6
      rw [e1]
      unfold hp_yst hp_sz
      dsimp only
      rw [eg, hp_sL_e c hc hre4]
    have hleaf : hp_Q t k fe (hp_xl (t * 7 + k) (nI (hp_cnt (hp_g wh rf (nI k) 0 7) c)) (hp_sm (hp_g wh rf (nI k) 0 7) re c) (fe, cb, va, sz, wh))
        (hp_yv (t * 7 + k) (nI (hp_cnt (hp_g wh rf (nI k) 0 7) c)) (hp_sm (hp_g wh rf (nI k) 0 7) re c) (fe, bo, va, upd sz (t * 7 + k) (nI (hp_cnt (hp_g wh rf (nI k) 0 7) c)), wh)) := by
      rw [hp_leafY hn h6 h0]
      obtain ⟨a, b⟩ := hp_Jleaf ht hk hJ hW h6 hv
      exact ⟨fe, cb, bo, _, _, wh, rfl, rfl, a, b, fun _ _ => rfl⟩
    rw [eX, eY]
    unfold hp_x2 hp_y2
    rw [Int32.toInt32_toInt64]
    by_cases h3 : 3 ≤ k
    · rw [if_pos h3, if_pos h3]; exact hleaf
    · rw [if_neg h3, if_neg h3]
      by_cases hz : hp_cnt (hp_g wh rf (nI k) 0 7) c = 0
      · have hB : hp_xb (nI l) (nI (hp_cnt (hp_g wh rf (nI k) 0 7) c)) (hp_sm (hp_g wh rf (nI k) 0 7) re c) c wh rf re (nI k) 3 = (-6, -6, 0, 1) := by
          rw [show nI (hp_cnt (hp_g wh rf (nI k) 0 7) c) = nI 0 by rw [hz]]
          exact hp_xb0 hl hl2 hc hz 3
        dsimp only
        rw [hB]
        have hle : nI (hp_cnt (hp_g wh rf (nI k) 0 7) c) ≤ 0 := by rw [hz]; decide
        rw [if_pos hle]
        exact hleaf
      · have hle : ¬ nI (hp_cnt (hp_g wh rf (nI k) 0 7) c) ≤ 0 := nI_nle (by omega) (by omega)
        rw [if_neg hle]
        have R := hp_Rb (bo := bo) (x := t * 7 + k) (fe := fe) (wh := wh) (rf := rf) (re := re) (nd := nI k) hl hl2 hc hre4 h6 (by omega) 3 (by omega)
        unfold hp_yp
        dsimp only
        generalize hp_xb (nI l) (nI (hp_cnt (hp_g wh rf (nI k) 0 7) c)) (hp_sm (hp_g wh rf (nI k) 0 7) re c) c wh rf re (nI k) 3 = B at R ⊢
        generalize hp_yb (nI l) (nI (hp_cnt (hp_g wh rf (nI k) 0 7) c)).toInt64 (hp_sm (hp_g wh rf (nI k) 0 7) re c).toInt64 c wh (fun i => rf i &&& 511) re (t * 7 + k) (nI k) _ 3 = C at R ⊢
        obtain ⟨_, _, _, _, _, eF, hb⟩ := R
        unfold hp_x3 hp_ys
        rcases hb with ⟨hB, hC⟩ | ⟨q, hq, hB, hC⟩
        · rw [if_pos hB]
          have eF2 : C.2.2.1 = fe := by rw [eF, hB, hp_uid h6]
          have hlt : fe (t * 7 + k) < 0 := by rw [h6]; decide
          rw [eF2, if_pos hlt, hC]
          exact hleaf
        · have hnq := hp_nn hq
          have hne : ¬ B.1 = -6 := by rw [hB]; exact hnq.2.1
          rw [if_neg hne]
          have eFx : C.2.2.1 (t * 7 + k) = nI q := by rw [eF, pk_us, hB]
          have eBx : C.2.2.2 (t * 7 + k) = B.2.1 := by rw [hC, pk_us]
          have hlt : ¬ C.2.2.1 (t * 7 + k) < 0 := by rw [eFx]; exact hnq.1
          rw [if_neg hlt, eFx, eBx, hp_snd_k rf (nI k) q hq, eF, hC]
          unfold hp_yv hp_xs
          dsimp only
          rw [hB]
          have e2 : t * 7 + k ≠ t * 7 + (2 * k + 2) := by omega
          have e1 : t * 7 + k ≠ t * 7 + (2 * k + 1) := by omega
          have hF : ¬ (upd (upd (upd fe (t * 7 + k) (nI q)) (t * 7 + (2 * k + 1)) (-6)) (t * 7 + (2 * k + 2)) (-6)) (t * 7 + k) = -6 := by
            rw [pk_un e2, pk_un e1, pk_us]; exact hnq.2.1
          rw [if_neg hF]
          obtain ⟨a, b⟩ := hp_Jsplit (b := B.2.1) ht (by omega) hq hJ hW
          refine ⟨_, _, _, va, _, _, rfl, rfl, a, b, fun j hj => ?_⟩
          have f2 : t * 7 + j ≠ t * 7 + (2 * k + 2) := by omega
          have f1 : t * 7 + j ≠ t * 7 + (2 * k + 1) := by omega
          have f0 : t * 7 + j ≠ t * 7 + k := by omega
          rw [pk_un f2, pk_un f1, pk_un f0]
end
section
/-! whole trees: the seven nodes, predictions, rests -/
theorem hp_iter {l c t : Nat} {rf re fe cb bo va sz wh : hp_A} (hl : 1 ≤ l) (hl2 : l ≤ 12) (hc : c ≤ 24) (ht : t < 4) (hre : ∀ i, i < c → (re i).toInt.natAbs ≤ 50 * 2 ^ t)
    (hJ : hp_J fe cb bo va) (hW : hp_W t 0 fe va) : ∀ k, k ≤ 7 → ∃ fe' cb' bo' va' sz' wh' : hp_A,
      hp_xP (nI l) c rf re t (fe, cb, va, sz, wh) k = (fe', cb', va', sz', wh') ∧ hp_yP (nI l) c (fun i => rf i &&& 511) re t (fe, bo, va, sz, wh) k = (fe', bo', va', sz', wh') ∧ hp_J fe' cb' bo' va' ∧ hp_W t k fe' va' ∧
      ∀ j, j < k → (hp_yP (nI l) c (fun i => rf i &&& 511) re t (fe, bo, va, sz, wh) (j + 1)).1 (t * 7 + j) = fe' (t * 7 + j)
  | 0, _ => ⟨fe, cb, bo, va, sz, wh, rfl, rfl, hJ, hW, fun j hj => absurd hj (Nat.not_lt_zero j)⟩
  | k + 1, hk => by
    obtain ⟨fe1, cb1, bo1, va1, sz1, wh1, eX, eY, J1, W1, Z⟩ := hp_iter (rf := rf) (sz := sz) (wh := wh) hl hl2 hc ht hre hJ hW k (by omega)
    obtain ⟨fe2, cb2, bo2, va2, sz2, wh2, eX2, eY2, J2, W2, Z2⟩ := hp_gr (rf := rf) (sz := sz1) (wh := wh1) hl hl2 hc ht (by omega) hre J1 W1
    have fX : hp_xP (nI l) c rf re t (fe, cb, va, sz, wh) (k + 1) = (fe2, cb2, va2, sz2, wh2) := by
      simp only [hp_xP]; rw [eX, eX2]
    have fY : hp_yP (nI l) c (fun i => rf i &&& 511) re t (fe, bo, va, sz, wh) (k + 1) = (fe2, bo2, va2, sz2, wh2) := by
      simp only [hp_yP]; rw [eY, eY2]
    refine ⟨fe2, cb2, bo2, va2, sz2, wh2, fX, fY, J2, W2, fun j hj => ?_⟩
    by_cases e : j = k
    · rw [e, fY]
    · rw [Z j (by omega), Z2 j (by omega)]
theorem hp_wq {fe cb bo va : hp_A} (hJ : hp_J fe cb bo va) {x y : Int32} (hxy : ∀ m, m < 3 → hp_fld y (nI m) = hp_fld x (nI m)) (a m : Nat) : hp_w fe bo y a m = hp_w fe cb x a m := by
  unfold hp_w
  by_cases h : fe (a + m) < 0
  · rw [if_pos h, if_pos h]
  · rw [if_neg h, if_neg h]
    rcases hJ.1 (a + m) with ⟨e, _⟩ | ⟨e, _⟩ | ⟨q, hq, e, eb, _⟩
    · rw [e] at h; exact absurd (by decide) h
    · rw [e] at h; exact absurd (by decide) h
    · rw [e, eb, hxy q hq]
theorem hp_prq {fe cb bo va : hp_A} (hJ : hp_J fe cb bo va) {x y : Int32} (hxy : ∀ m, m < 3 → hp_fld y (nI m) = hp_fld x (nI m)) : ∀ t, hp_pr fe bo va y t = hp_pr fe cb va x t
  | 0 => rfl
  | t + 1 => by
    simp only [hp_pr, hp_lf]
    rw [hp_prq hJ hxy t, hp_wq hJ hxy, hp_wq hJ hxy]
theorem hp_rsq {fe cb bo va rf tg re : hp_A} (hJ : hp_J fe cb bo va) (t : Nat) : ∀ i, hp_rs fe bo va (fun i => rf i &&& 511) tg t re i = hp_rs fe cb va rf tg t re i
  | 0 => rfl
  | i + 1 => by
    simp only [hp_rs]
    rw [hp_rsq hJ t i, hp_prq hJ (fun m hm => hp_fm (rf i) m hm)]
theorem hp_lsq {fe cb bo va rf tg : hp_A} (hJ : hp_J fe cb bo va) (t : Nat) : ∀ i, hp_ls fe bo va (fun i => rf i &&& 511) tg t i = hp_ls fe cb va rf tg t i
  | 0 => rfl
  | i + 1 => by
    simp only [hp_ls]
    rw [hp_lsq hJ t i, hp_prq hJ (fun m hm => hp_fm (rf i) m hm)]
theorem hp_prb {fe cb bo va : hp_A} (hJ : hp_J fe cb bo va) (x : Int32) : ∀ t, t ≤ 4 → (hp_pr fe cb va x t).toInt.natAbs + 50 ≤ 50 * 2 ^ t
  | 0, _ => by
    simp only [hp_pr]; decide
  | t + 1, h => by
    have ih := hp_prb hJ x t (by omega)
    have h1 := hp_w_le fe cb x (t * 7) 0
    have h2 := hp_w_le fe cb x (t * 7) (hp_w fe cb x (t * 7) 0)
    have hv := hJ.2 t (hp_w fe cb x (t * 7) (hp_w fe cb x (t * 7) 0)) (by omega) (by omega)
    have hp := hp_pw (t := t) (by omega)
    simp only [hp_pr, hp_lf]
    rw [Int32.toInt_add, hp_b32 (by omega), Nat.pow_succ]
    omega
theorem hp_rsv {fe cb va rf tg re : hp_A} {t : Nat} : ∀ c i, i < c → hp_rs fe cb va rf tg t re c i = tg i - hp_pr fe cb va (rf i) t
  | 0, i, h => absurd h (Nat.not_lt_zero i)
  | c + 1, i, h => by
    simp only [hp_rs]
    by_cases e : i = c
    · rw [e, pk_us]
    · rw [pk_un e]; exact hp_rsv c i (by omega)
theorem hp_rsb {fe cb bo va rf tg re : hp_A} {t c : Nat} (hJ : hp_J fe cb bo va) (ht : t < 4) (htg : ∀ i, (tg i).toInt.natAbs ≤ 50) (i : Nat) (hi : i < c) : (hp_rs fe cb va rf tg t re c i).toInt.natAbs ≤ 50 * 2 ^ t := by
  rw [hp_rsv c i hi]
  have h1 := htg i
  have h2 := hp_prb hJ (rf i) t (by omega)
  have hp := hp_pw (t := t) (by omega)
  rw [Int32.toInt_sub, hp_b32 (by omega)]
  omega
theorem hp_plin {f : hp_A} {a k j : Nat} {v0 v : Int32} (h : a ≤ j ∧ j < a + k) : hp_pl f a v0 v k j = if j = a then v0 else v := if_pos h
theorem hp_plout {f : hp_A} {a k j : Nat} {v0 v : Int32} (h : ¬ (a ≤ j ∧ j < a + k)) : hp_pl f a v0 v k j = f j := if_neg h
theorem hp_Jpl {fe cb bo va : hp_A} {t : Nat} (hJ : hp_J fe cb bo va) :
    hp_J (hp_pl fe (t * 7) (-6) (-7) 7) (hp_pl cb (t * 7) (-6) (-7) 7) bo (hp_pl va (t * 7) 0 0 7) ∧ hp_W t 0 (hp_pl fe (t * 7) (-6) (-7) 7) (hp_pl va (t * 7) 0 0 7) := by
  refine ⟨⟨fun j => ?_, fun u m hu hm => ?_⟩, fun j _ hj => ?_⟩
  · by_cases h : t * 7 ≤ j ∧ j < t * 7 + 7
    · rw [hp_plin h, hp_plin h, hp_plin h, ite_self]
      by_cases e : j = t * 7
      · rw [if_pos e]; exact Or.inr (Or.inl ⟨rfl, rfl⟩)
      · rw [if_neg e]; exact Or.inl ⟨rfl, rfl, rfl⟩
    · rw [hp_plout h, hp_plout h, hp_plout h]; exact hJ.1 j
  · by_cases h : t * 7 ≤ u * 7 + m ∧ u * 7 + m < t * 7 + 7
    · rw [hp_plin h, ite_self]; exact Nat.zero_le _
    · rw [hp_plout h]; exact hJ.2 u m hu hm
  · have h : t * 7 ≤ t * 7 + j ∧ t * 7 + j < t * 7 + 7 := by omega
    rw [hp_plin h, hp_plin h, ite_self]
    refine ⟨?_, rfl⟩
    by_cases e : t * 7 + j = t * 7
    · rw [if_pos e]; exact Or.inl rfl
    · rw [if_neg e]; exact Or.inr rfl
theorem hp_main {l c t : Nat} {rf tg re fe cb bo va sz wh : hp_A} (hl : 1 ≤ l) (hl2 : l ≤ 12) (hc : c ≤ 24) (ht : t < 4) (htg : ∀ i, (tg i).toInt.natAbs ≤ 50) (hJ : hp_J fe cb bo va) :
    ∃ fe' cb' bo' va' sz' wh' : hp_A,
      hp_xP (nI l) c rf (hp_rs fe cb va rf tg t re c) t (hp_st fe cb va sz wh c t true) 7 = (fe', cb', va', sz', wh') ∧ hp_yP (nI l) c (fun i => rf i &&& 511) (hp_rs fe cb va rf tg t re c) t (hp_st fe bo va sz wh c t false) 7 = (fe', bo', va', sz', wh') ∧ hp_J fe' cb' bo' va' ∧
      hp_cnt (hp_yl (nI l) c (fun i => rf i &&& 511) (hp_rs fe cb va rf tg t re c) t (hp_st fe bo va sz wh c t false)) 7 = hp_cnt (fun j => decide (fe' (t * 7 + j) = -6)) 7 := by
  obtain ⟨J0, W0⟩ := hp_Jpl (t := t) hJ
  obtain ⟨fe', cb', bo', va', sz', wh', eX, eY, J1, _, Z⟩ := hp_iter (rf := rf) (sz := hp_pl sz (t * 7) 0 0 7) (wh := hp_pl wh 0 0 0 c) (re := hp_rs fe cb va rf tg t re c) hl hl2 hc ht (hp_rsb hJ ht htg) J0 W0 7 (by omega)
  refine ⟨fe', cb', bo', va', sz', wh', eX, eY, J1, hp_cnt_cg 7 (fun j hj => ?_)⟩
  have h := Z j hj
  show decide (_ = _) = decide (_ = _)
  exact congrArg (fun q => decide (q = (-6 : Int32))) h
end
section
/-! the relation, and what is owed -/
def i_Rel (_ : Nat) (u : SX) (v : SY) : Prop :=
  ∃ (l c t : Nat) (f1 f2 : Int32) (f3 f4 : Int64) (rf tg fe cb bo va sz re wh : hp_A), u = ((nI l), (nI c), (nI t), f1, f2, f3, f4, rf, tg, fe, cb, va, sz, re, wh) ∧ v = ((nI l), (nI c), (nI t), (fun i => rf i &&& 511), tg, fe, bo, va, sz, re, wh) ∧
    1 ≤ l ∧ l ≤ 12 ∧ c ≤ 24 ∧ t ≤ 4 ∧ (∀ i, (tg i).toInt.natAbs ≤ 50) ∧ hp_J fe cb bo va
theorem hp_mk {k l c t : Nat} {f1 f2 : Int32} {f3 f4 : Int64} {rf tg fe cb bo va sz re wh ap : hp_A} (hl : 1 ≤ l) (hl2 : l ≤ 12) (hc : c ≤ 24) (ht : t ≤ 4) (htg : ∀ i, (tg i).toInt.natAbs ≤ 50) (hJ : hp_J fe cb bo va) (ha : ap = fun i => rf i &&& 511) :
    i_Rel k ((nI l), (nI c), (nI t), f1, f2, f3, f4, rf, tg, fe, cb, va, sz, re, wh) ((nI l), (nI c), (nI t), ap, tg, fe, bo, va, sz, re, wh) := by
  subst ha
  exact ⟨l, c, t, f1, f2, f3, f4, rf, tg, fe, cb, bo, va, sz, re, wh, rfl, rfl, hl, hl2, hc, ht, htg, hJ⟩
theorem i_up {k : Nat} {u : SX} {v : SY} (h : i_Rel k u v) : i_Rel (k + 3) u v := h
theorem hp_R0 {l : Nat} (hl : 1 ≤ l) (hl2 : l ≤ 12) : i_Rel 1 (nI l, 0, 0, (-6), (-6), 0, 1, (fun _ => 0), (fun _ => 0), (fun _ => 0), (fun _ => 0), (fun _ => 0), (fun _ => 0), (fun _ => 0), (fun _ => 0)) (nI l, 0, 0, (fun _ => 0), (fun _ => 0), (fun _ => 0), (fun _ => 0), (fun _ => 0), (fun _ => 0), (fun _ => 0), (fun _ => 0)) :=
  hp_mk (c := 0) (t := 0) hl hl2 (by omega) (by omega) (fun _ => Nat.zero_le _) ⟨fun _ => Or.inr (Or.inr ⟨0, by omega, rfl, rfl, rfl⟩), fun _ _ _ _ => Nat.zero_le _⟩ (funext fun _ => by decide)
theorem i_vc0 (k0 : Int32) : wpX_init (fun u => wpY_init (fun v => i_Rel 1 u v) k0) k0 := by
  by_cases h1 : 1 ≤ k0
  · by_cases h2 : k0 ≤ 12
    · have h0 : ¬ k0 < 0 := fun z => by
        rw [Int32.lt_iff_toInt_lt] at z
        rw [Int32.le_iff_toInt_le] at h1
        have e1 : (1 : Int32).toInt = 1 := by decide
        have e0 : (0 : Int32).toInt = 0 := by decide
        omega
      obtain ⟨j, hj, rfl⟩ := nI_of2 (M := 12) (n := 12) (by decide) h0 h2
      have hj1 : 1 ≤ j := (nI_leI (a := 1) (by decide) (by omega)).mp h1
      exact br_t h1 (br_t h2 (br_t h1 (br_t h2 (hp_R0 hj1 hj))))
    · exact br_t h1 (br_f h2 (br_t h1 (br_f h2 (hp_R0 (l := 12) (by omega) (by omega)))))
  · exact br_f h1 (br_f h1 (br_t (by decide) (hp_R0 (l := 1) (by omega) (by omega))))
theorem hp_tgt (x : Int32) : x < -50 ∨ (¬ x < -50 ∧ 50 < x ∧ ¬ x ≤ 50) ∨ (¬ x < -50 ∧ ¬ 50 < x ∧ x ≤ 50 ∧ x.toInt.natAbs ≤ 50) := by
  rw [Int32.lt_iff_toInt_lt, Int32.lt_iff_toInt_lt, Int32.le_iff_toInt_le]
  have e1 : (50 : Int32).toInt = 50 := by decide
  have e2 : (-50 : Int32).toInt = -50 := by decide
  omega
theorem hp_pku (rf : hp_A) (c : Nat) (x : Int32) : upd (fun i => rf i &&& 511) c (x &&& 511) = fun i => upd rf c x i &&& 511 := by
  funext i; unfold upd; split <;> rfl
theorem hp_tgu {tg : hp_A} (h : ∀ i, (tg i).toInt.natAbs ≤ 50) (c : Nat) {x : Int32} (hx : x.toInt.natAbs ≤ 50) (i : Nat) : (upd tg c x i).toInt.natAbs ≤ 50 := by
  unfold upd; split
  · exact hx
  · exact h i
theorem i_vc_row {k : Nat} {u : SX} {v : SY} (I : i_Rel k u v) (hk : k + 3 ≤ 1537) (v1 : Int32) (v2 : Int32) : wpX_row (fun r u' => wpY_row (fun r' v' => r' = r ∧ i_Rel (k + 3) u' v') v v1 v2) u v1 v2 := by
  obtain ⟨l, c, t, f1, f2, f3, f4, rf, tg, fe, cb, bo, va, sz, re, wh, rfl, rfl, hl, hl2, hc, ht, htg, hJ⟩ := I
  have hcl : (nI c).toNatClampNeg = c := nI_clamp (by omega)
  unfold wpX_row
  rcases hp_tgt v2 with h | ⟨h1, h2, h3⟩ | ⟨h1, h2, h3, h4⟩
  · refine br_t h (br_t rfl ?_)
    unfold wpY_row
    exact br_t h (br_f (by decide) ⟨rfl, hp_mk hl hl2 hc ht htg hJ rfl⟩)
  · refine br_f h1 (br_t h2 (br_t rfl ?_))
    unfold wpY_row
    exact br_f h1 (br_f h3 (br_f (by decide) ⟨rfl, hp_mk hl hl2 hc ht htg hJ rfl⟩))
  · refine br_f h1 (br_f h2 (br_f (by decide) ?_))
    refine pk_lt c 24 (fun h => ?_) (fun h => ?_)
    · have hin : vp_in (nI c) 24 := vp_in_nI h (by omega)
      rw [hcl]
      refine ⟨hin, nm_e ⟨hin, nm_e (nm_r (nI_1 c) ?_)⟩⟩
      unfold wpY_row
      refine br_f h1 (br_t h3 (br_t rfl (pk_eq c 24 (fun h => absurd h (by omega)) (fun _ => ?_))))
      rw [hcl]
      exact ⟨hin, nm_e ⟨hin, nm_e (nm_r (nI_1 c) ⟨rfl, hp_mk hl hl2 h ht (hp_tgu htg c h4) hJ (hp_pku rf c v1)⟩)⟩⟩
    · unfold wpY_row
      exact br_f h1 (br_t h3 (br_t rfl (pk_eq c 24 (fun _ => ⟨rfl, hp_mk hl hl2 hc ht htg hJ rfl⟩) (fun h => absurd (show c = 24 by omega) h))))
theorem i_vc_retarget {k : Nat} {u : SX} {v : SY} (I : i_Rel k u v) (hk : k + 3 ≤ 1537) (v1 : Int32) (v2 : Int32) : wpX_retarget (fun r u' => wpY_retarget (fun r' v' => r' = r ∧ i_Rel (k + 3) u' v') v v1 v2) u v1 v2 := by
  obtain ⟨l, c, t, f1, f2, f3, f4, rf, tg, fe, cb, bo, va, sz, re, wh, rfl, rfl, hl, hl2, hc, ht, htg, hJ⟩ := I
  unfold wpX_retarget
  by_cases h0 : v1 < 0
  · refine br_t h0 (br_t rfl ?_)
    unfold wpY_retarget
    exact br_t h0 ⟨rfl, hp_mk hl hl2 hc ht htg hJ rfl⟩
  · rcases pk_ix v1 (n := c) (by omega) with h | h | ⟨j, hj, rfl⟩
    · exact absurd h h0
    · refine br_f h0 (br_t h (br_t rfl ?_))
      unfold wpY_retarget
      exact br_f h0 (br_f (Int32.not_lt.mpr h) ⟨rfl, hp_mk hl hl2 hc ht htg hJ rfl⟩)
    · have hcl : (nI j).toNatClampNeg = j := nI_clamp (by omega)
      have hin : vp_in (nI j) 24 := vp_in_nI (by omega) (by omega)
      refine br_f h0 (br_f (nI_ge hj (by omega)) (br_f (by decide) ?_))
      rcases hp_tgt v2 with h | ⟨h1, h2, h3⟩ | ⟨h1, h2, h3, h4⟩
      · refine br_t h (br_t rfl ?_)
        unfold wpY_retarget
        exact br_f h0 (br_t (nI_lt hj (by omega)) (br_t h (br_f (by decide) ⟨rfl, hp_mk hl hl2 hc ht htg hJ rfl⟩)))
      · refine br_f h1 (br_t h2 (br_t rfl ?_))
        unfold wpY_retarget
        exact br_f h0 (br_t (nI_lt hj (by omega)) (br_f h1 (br_f h3 (br_f (by decide) ⟨rfl, hp_mk hl hl2 hc ht htg hJ rfl⟩))))
      · refine br_f h1 (br_f h2 (br_f (by decide) ?_))
        rw [hcl]
        refine ⟨hin, nm_e ⟨hin, nm_e ?_⟩⟩
        unfold wpY_retarget
        refine br_f h0 (br_t (nI_lt hj (by omega)) (br_f h1 (br_t h3 (br_t rfl ?_))))
        rw [hcl]
        exact ⟨hin, nm_e ⟨hin, nm_e ⟨rfl, hp_mk hl hl2 hc ht (hp_tgu htg j h4) hJ rfl⟩⟩⟩
theorem i_vc_train {k : Nat} {u : SX} {v : SY} (I : i_Rel k u v) (hk : k + 3 ≤ 1537) : wpX_train (fun r u' => wpY_train (fun r' v' => r' = r ∧ i_Rel (k + 3) u' v') v) u := by
  obtain ⟨l, c, t, f1, f2, f3, f4, rf, tg, fe, cb, bo, va, sz, re, wh, rfl, rfl, hl, hl2, hc, ht, htg, hJ⟩ := I
  by_cases h4 : t < 4
  · obtain ⟨fe', cb', bo', va', sz', wh', eX, eY, J1, eC⟩ := hp_main (rf := rf) (re := re) (sz := sz) (wh := wh) hl hl2 hc h4 htg hJ
    refine hp_Xtr hc h4 (fun b1 b2 b3 b4 => hp_Ytr hc h4 ?_)
    rw [hp_rsq hJ, eX, eY, eC]
    exact ⟨rfl, hp_mk hl hl2 hc (by omega) htg J1 rfl⟩
  · have e : t = 4 := by omega
    subst e
    unfold wpX_train
    refine br_f (nI_nlt (a := 4) (b := 4) (by omega) (by decide)) ?_
    unfold wpY_train
    exact br_t rfl ⟨rfl, hp_mk hl hl2 hc ht htg hJ rfl⟩
theorem i_vc_dropTree {k : Nat} {u : SX} {v : SY} (I : i_Rel k u v) (hk : k + 3 ≤ 1537) : wpX_dropTree (fun r u' => wpY_dropTree (fun r' v' => r' = r ∧ i_Rel (k + 3) u' v') v) u := by
  obtain ⟨l, c, t, f1, f2, f3, f4, rf, tg, fe, cb, bo, va, sz, re, wh, rfl, rfl, hl, hl2, hc, ht, htg, hJ⟩ := I
  unfold wpX_dropTree wpY_dropTree
  cases t with
  | zero => exact br_t rfl (br_t rfl ⟨rfl, hp_mk (t := 0) hl hl2 hc ht htg hJ rfl⟩)
  | succ t =>
    have h : ¬ nI (t + 1) = 0 := nI_ne0 (by omega) (by omega)
    exact br_f h (nm_r (nI_pred t) (br_f h (nm_r (nI_pred t) ⟨rfl, hp_mk hl hl2 hc (by omega) htg hJ rfl⟩)))
theorem i_vc_clear {k : Nat} {u : SX} {v : SY} (I : i_Rel k u v) (hk : k + 3 ≤ 1537) : wpX_clear (fun u' => wpY_clear (fun v' => i_Rel (k + 3) u' v') v) u := by
  obtain ⟨l, c, t, f1, f2, f3, f4, rf, tg, fe, cb, bo, va, sz, re, wh, rfl, rfl, hl, hl2, hc, ht, htg, hJ⟩ := I
  unfold wpX_clear wpY_clear
  exact hp_mk (c := 0) (t := 0) hl hl2 (by omega) (by omega) htg hJ rfl
theorem i_vc_predict {k : Nat} {u : SX} {v : SY} (I : i_Rel k u v) (hk : k + 3 ≤ 1537) (v1 : Int32) : wpX_predict (fun r => wpY_predict (fun r' => r' = r ∧ i_Rel (k + 3) u v) v v1) u v1 := by
  have I2 : i_Rel (k + 3) u v := I
  obtain ⟨l, c, t, f1, f2, f3, f4, rf, tg, fe, cb, bo, va, sz, re, wh, rfl, rfl, hl, hl2, hc, ht, htg, hJ⟩ := I
  exact hp_Xpr ht (hp_Ypr ht ⟨hp_prq hJ (fun _ _ => rfl) t, I2⟩)
theorem i_vc_rest {k : Nat} {u : SX} {v : SY} (I : i_Rel k u v) (hk : k + 3 ≤ 1537) (v1 : Int32) : wpX_rest (fun r => wpY_rest (fun r' => r' = r ∧ i_Rel (k + 3) u v) v v1) u v1 := by
  have I2 : i_Rel (k + 3) u v := I
  obtain ⟨l, c, t, f1, f2, f3, f4, rf, tg, fe, cb, bo, va, sz, re, wh, rfl, rfl, hl, hl2, hc, ht, htg, hJ⟩ := I
  rcases pk_ix v1 (n := c) (by omega) with h | h | ⟨j, hj, rfl⟩
  · exact hp_Xrest0 ht (Or.inl h) (hp_Yrest0 ht (Or.inl h) ⟨rfl, I2⟩)
  · exact hp_Xrest0 ht (Or.inr h) (hp_Yrest0 ht (Or.inr h) ⟨rfl, I2⟩)
  · exact hp_Xrest hc ht hj (hp_Yrest hc ht hj ⟨by rw [hp_prq hJ (fun m hm => hp_fm (rf j) m hm)], I2⟩)
theorem i_vc_loss {k : Nat} {u : SX} {v : SY} (I : i_Rel k u v) (hk : k + 3 ≤ 1537) : wpX_loss (fun r => wpY_loss (fun r' => r' = r ∧ i_Rel (k + 3) u v) v) u := by
  have I2 : i_Rel (k + 3) u v := I
  obtain ⟨l, c, t, f1, f2, f3, f4, rf, tg, fe, cb, bo, va, sz, re, wh, rfl, rfl, hl, hl2, hc, ht, htg, hJ⟩ := I
  exact hp_Xls hc ht (hp_Yls hc ht ⟨hp_lsq hJ t c, I2⟩)
theorem hp_Xno {L : Int32} {c t : Nat} {f1 f2 : Int32} {f3 f4 : Int64} {rf tg fe cb va sz re wh : Nat → Int32} {post : Int32 → Prop} {p q : Int32} (h : p < 0 ∨ nI t ≤ p ∨ q < 0 ∨ 7 ≤ q) (H : post 0) : wpX_isNode post (L, (nI c), (nI t), f1, f2, f3, f4, rf, tg, fe, cb, va, sz, re, wh) p q := by
  unfold wpX_isNode
  exact br_c (fun _ => H) (fun h1 => br_c (fun _ => H) (fun h2 => br_c (fun _ => H) (fun h3 => br_c (fun _ => H) (fun h4 => absurd h (fun z => z.elim h1 (fun z => z.elim h2 (fun z => z.elim h3 h4)))))))
theorem hp_Xyes {L : Int32} {c t : Nat} {f1 f2 : Int32} {f3 f4 : Int64} {rf tg fe cb va sz re wh : Nat → Int32} {post : Int32 → Prop} {a m : Nat} (ht : t ≤ 4) (ha : a < t) (hm : m < 7) (H : post 1) : wpX_isNode post (L, (nI c), (nI t), f1, f2, f3, f4, rf, tg, fe, cb, va, sz, re, wh) (nI a) (nI m) := by
  unfold wpX_isNode
  exact br_f (nI_pos (by omega)) (br_f (nI_ge ha (by omega)) (br_f (nI_pos (by omega)) (br_f (nI_ge (b := 7) hm (by decide)) H)))
theorem hp_76 {q : Int32} (h : 7 ≤ q) : ¬ q ≤ 6 := fun z => by
  rw [Int32.le_iff_toInt_le] at h z
  have e7 : (7 : Int32).toInt = 7 := by decide
  have e6 : (6 : Int32).toInt = 6 := by decide
  omega
theorem hp_Yno {L : Int32} {c t : Nat} {ap tg fe bo va sz re wh : Nat → Int32} {post : Int32 → Prop} {p q : Int32} (h : p < 0 ∨ nI t ≤ p ∨ q < 0 ∨ 7 ≤ q) (H : post 1) : wpY_none post (L, (nI c), (nI t), ap, tg, fe, bo, va, sz, re, wh) p q := by
  unfold wpY_none
  exact br_c (fun _ => H) (fun h1 => br_c (fun _ => H) (fun h2 => br_c (fun _ => H) (fun h3 => br_c (fun h4 => absurd h (fun z => z.elim h1 (fun z => z.elim h2 (fun z => z.elim h3 (fun z => hp_76 z h4))))) (fun _ => H))))
theorem hp_Yyes {L : Int32} {c t : Nat} {ap tg fe bo va sz re wh : Nat → Int32} {post : Int32 → Prop} {a m : Nat} (ht : t ≤ 4) (ha : a < t) (hm : m < 7) (H : post 0) : wpY_none post (L, (nI c), (nI t), ap, tg, fe, bo, va, sz, re, wh) (nI a) (nI m) := by
  unfold wpY_none
  exact br_f (nI_pos (by omega)) (br_f (nI_ge ha (by omega)) (br_f (nI_pos (by omega)) (br_t (nI_le (b := 6) (by omega) (by decide)) H)))
theorem hp_nodes (t : Nat) (ht : t ≤ 4) (p q : Int32) : (p < 0 ∨ nI t ≤ p ∨ q < 0 ∨ 7 ≤ q) ∨ ∃ a m : Nat, a < t ∧ m < 7 ∧ p = nI a ∧ q = nI m := by
  rcases pk_ix p (n := t) (by omega) with h | h | ⟨a, ha, ea⟩
  · exact Or.inl (Or.inl h)
  · exact Or.inl (Or.inr (Or.inl h))
  · rcases pk_ix q (n := 7) (by omega) with h | h | ⟨m, hm, em⟩
    · exact Or.inl (Or.inr (Or.inr (Or.inl h)))
    · exact Or.inl (Or.inr (Or.inr (Or.inr h)))
    · exact Or.inr ⟨a, m, ha, hm, ea, em⟩
theorem i_vc_feature {k : Nat} {u : SX} {v : SY} (I : i_Rel k u v) (hk : k + 3 ≤ 1537) (v1 : Int32) (v2 : Int32) : wpX_feature (fun r => wpY_feature (fun r' => r' = r ∧ i_Rel (k + 3) u v) v v1 v2) u v1 v2 := by
  have I2 : i_Rel (k + 3) u v := I
  obtain ⟨l, c, t, f1, f2, f3, f4, rf, tg, fe, cb, bo, va, sz, re, wh, rfl, rfl, hl, hl2, hc, ht, htg, hJ⟩ := I
  unfold wpX_feature wpY_feature
  rcases hp_nodes t ht v1 v2 with h | ⟨a, m, ha, hm, rfl, rfl⟩
  · exact hp_Xno h (br_t rfl (hp_Yno h (br_f (by decide) ⟨rfl, I2⟩)))
  · have hin : vp_in (nI a * 7 + nI m) 28 := by rw [hp_at]; exact vp_in_nI (by omega) (by omega)
    exact hp_Xyes ht ha hm (br_f (by decide) ⟨hin, hp_Yyes ht ha hm (br_t rfl ⟨hin, rfl, I2⟩)⟩)
theorem i_vc_bound {k : Nat} {u : SX} {v : SY} (I : i_Rel k u v) (hk : k + 3 ≤ 1537) (v1 : Int32) (v2 : Int32) : wpX_bound (fun r => wpY_bound (fun r' => r' = r ∧ i_Rel (k + 3) u v) v v1 v2) u v1 v2 := by
  have I2 : i_Rel (k + 3) u v := I
  obtain ⟨l, c, t, f1, f2, f3, f4, rf, tg, fe, cb, bo, va, sz, re, wh, rfl, rfl, hl, hl2, hc, ht, htg, hJ⟩ := I
  unfold wpX_bound wpY_bound
  rcases hp_nodes t ht v1 v2 with h | ⟨a, m, ha, hm, rfl, rfl⟩
  · exact hp_Xno h (br_t rfl (hp_Yno h (br_f (by decide) ⟨rfl, I2⟩)))
  · have hin : vp_in (nI a * 7 + nI m) 28 := by rw [hp_at]; exact vp_in_nI (by omega) (by omega)
    refine hp_Xyes ht ha hm (br_f (by decide) ⟨hin, hp_Yyes ht ha hm (br_t rfl ⟨hin, nm_e ?_⟩)⟩)
    rcases hJ.1 (nI a * 7 + nI m).toNatClampNeg with ⟨e, e2, _⟩ | ⟨e, e2⟩ | ⟨q, hq, e, e2, _⟩
    · rw [e, e2]
      exact br_f (by decide) ⟨rfl, I2⟩
    · rw [e, e2]
      exact br_f (by decide) ⟨rfl, I2⟩
    · rw [e]
      exact br_t (nI_pos' (by omega)) ⟨hin, e2, I2⟩
theorem i_vc_value {k : Nat} {u : SX} {v : SY} (I : i_Rel k u v) (hk : k + 3 ≤ 1537) (v1 : Int32) (v2 : Int32) : wpX_value (fun r => wpY_value (fun r' => r' = r ∧ i_Rel (k + 3) u v) v v1 v2) u v1 v2 := by
  have I2 : i_Rel (k + 3) u v := I
  obtain ⟨l, c, t, f1, f2, f3, f4, rf, tg, fe, cb, bo, va, sz, re, wh, rfl, rfl, hl, hl2, hc, ht, htg, hJ⟩ := I
  unfold wpX_value wpY_value
  rcases hp_nodes t ht v1 v2 with h | ⟨a, m, ha, hm, rfl, rfl⟩
  · exact hp_Xno h (br_t rfl (hp_Yno h (br_f (by decide) ⟨rfl, I2⟩)))
  · have hin : vp_in (nI a * 7 + nI m) 28 := by rw [hp_at]; exact vp_in_nI (by omega) (by omega)
    refine hp_Xyes ht ha hm (br_f (by decide) ⟨hin, hp_Yyes ht ha hm (br_t rfl ⟨hin, ?_⟩)⟩)
    rcases hJ.1 (nI a * 7 + nI m).toNatClampNeg with ⟨e, _, e2⟩ | ⟨e, _⟩ | ⟨q, hq, e, _, e2⟩
    · rw [e, e2]
      exact br_f (by decide) ⟨rfl, I2⟩
    · exact br_t e ⟨hin, rfl, I2⟩
    · rw [e, e2]
      exact br_f (hp_nn hq).2.1 ⟨rfl, I2⟩
theorem i_vc_rows {k : Nat} {u : SX} {v : SY} (I : i_Rel k u v) (hk : k + 3 ≤ 1537) (v1 : Int32) (v2 : Int32) : wpX_rows (fun r => wpY_rows (fun r' => r' = r ∧ i_Rel (k + 3) u v) v v1 v2) u v1 v2 := by
  have I2 : i_Rel (k + 3) u v := I
  obtain ⟨l, c, t, f1, f2, f3, f4, rf, tg, fe, cb, bo, va, sz, re, wh, rfl, rfl, hl, hl2, hc, ht, htg, hJ⟩ := I
  unfold wpX_rows wpY_rows
  rcases hp_nodes t ht v1 v2 with h | ⟨a, m, ha, hm, rfl, rfl⟩
  · exact hp_Xno h (br_t rfl (hp_Yno h (br_f (by decide) ⟨rfl, I2⟩)))
  · have hin : vp_in (nI a * 7 + nI m) 28 := by rw [hp_at]; exact vp_in_nI (by omega) (by omega)
    exact hp_Xyes ht ha hm (br_f (by decide) ⟨hin, hp_Yyes ht ha hm (br_t rfl ⟨hin, rfl, I2⟩)⟩)
end
