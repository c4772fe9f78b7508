/-! the offers: X's best and Y's arrays go together -/
theorem hp_cnt_le (g : Nat → Bool) : ∀ c, hp_cnt g c ≤ c
  | 0 => Nat.le_refl 0
  | c + 1 => by
    have h := hp_cnt_le g c
    simp only [hp_cnt]; split <;> omega
theorem hp_cnt_mono {g h : Nat → Bool} (H : ∀ i, g i = true → h i = true) : ∀ c, hp_cnt g c ≤ hp_cnt h c
  | 0 => Nat.le_refl 0
  | c + 1 => by
    have e := hp_cnt_mono H c
    simp only [hp_cnt]
    by_cases a : g c = true
    · rw [if_pos a, if_pos (H c a)]; omega
    · rw [if_neg a]; split <;> omega
theorem hp_cnt_cg {g h : Nat → Bool} : ∀ c, (∀ i, i < c → g i = h i) → hp_cnt g c = hp_cnt h c
  | 0, _ => rfl
  | c + 1, H => by
    simp only [hp_cnt]
    rw [H c (Nat.lt_succ_self c), hp_cnt_cg c (fun i hi => H i (Nat.lt_succ_of_lt hi))]
theorem hp_sm_b {g : Nat → Bool} {r : hp_A} {M : Nat} (hM : M ≤ 400) : ∀ c, c ≤ 24 → (∀ i, i < c → (r i).toInt.natAbs ≤ M) → (hp_sm g r c).toInt.natAbs ≤ M * hp_cnt g c
  | 0, _, _ => by simp only [hp_sm, hp_cnt]; exact Nat.zero_le _
  | c + 1, h, H => by
    have ih := hp_sm_b (g := g) hM c (by omega) (fun i hi => H i (by omega))
    have hc := hp_cnt_le g c
    have hr := H c (by omega)
    have hk : M * hp_cnt g c ≤ 400 * 24 := Nat.mul_le_mul hM (by omega)
    simp only [hp_sm, hp_cnt]
    by_cases a : g c = true
    · rw [if_pos a, if_pos a, Int32.toInt_add, hp_b32 (by omega), Nat.mul_add]; omega
    · rw [if_neg a, if_neg a]; exact ih
theorem hp_sm_9 {g : Nat → Bool} {r : hp_A} {c : Nat} (hc : c ≤ 24) (H : ∀ i, i < c → (r i).toInt.natAbs ≤ 400) : (hp_sm g r c).toInt.natAbs ≤ 9600 := by
  have h := hp_sm_b (g := g) (Nat.le_refl 400) c hc H
  have h2 := hp_cnt_le g c
  omega
theorem hp_sL_e {g : Nat → Bool} {r : hp_A} : ∀ c, c ≤ 24 → (∀ i, i < c → (r i).toInt.natAbs ≤ 400) → hp_sL g r c = (hp_sm g r c).toInt64
  | 0, _, _ => rfl
  | c + 1, h, H => by
    have ih := hp_sL_e (g := g) c (by omega) (fun i hi => H i (by omega))
    have hb := hp_sm_9 (g := g) (c := c) (by omega) (fun i hi => H i (by omega))
    have hr := H c (by omega)
    simp only [hp_sL, hp_sm]
    by_cases a : g c = true
    · rw [if_pos a, if_pos a, ih]
      apply Int64.toInt_inj.mp
      rw [Int64.toInt_add, Int32.toInt_toInt64, Int32.toInt_toInt64, Int32.toInt_toInt64, Int32.toInt_add, hp_b32 (by omega), hp_b64 (by omega)]
    · rw [if_neg a, if_neg a]; exact ih
theorem hp_uid {f : hp_A} {k : Nat} {x : Int32} (h : f k = x) : upd f k x = f := by
  funext j; unfold upd; split
  · next e => rw [e, h]
  · rfl
theorem hp_uu {f : hp_A} {k : Nat} {x y : Int32} : upd (upd f k x) k y = upd f k y := by
  funext j; unfold upd; split <;> rfl
def hp_R (n : Nat) (s : Int32) (x : Nat) (fe bo : hp_A) (B : hp_B) (C : hp_C) : Prop :=
  (n : Int) * C.1.toInt * B.2.2.2.toInt = C.2.1.toInt * (B.2.2.1.toInt + s.toInt * s.toInt * B.2.2.2.toInt) ∧
  (0 < B.2.2.2.toInt ∧ B.2.2.2.toInt.natAbs ≤ 576) ∧ (0 < C.2.1.toInt ∧ C.2.1.toInt.natAbs ≤ 576) ∧ B.2.2.1.toInt.natAbs ≤ 1000000000000 ∧ C.1.toInt.natAbs ≤ 100000000000 ∧
  C.2.2.1 = upd fe x B.1 ∧ ((B.1 = -6 ∧ C.2.2.2 = bo) ∨ (∃ j, j < 3 ∧ B.1 = nI j ∧ C.2.2.2 = upd bo x B.2.1))
theorem hp_tl {a b : Nat} (ha : a ≤ 24) (hb : b ≤ 24) : (nI a).toInt64 < (nI b).toInt64 ↔ a < b := by
  rw [nI_l (by omega), nI_l (by omega), lN_lt (by omega) (by omega)]
theorem hp_step {l n nl : Nat} {s sl : Int32} (hl : 1 ≤ l) (hl2 : l ≤ 12) (hn : n ≤ 24) (hnl : nl ≤ n) (hs : s.toInt.natAbs ≤ 9600) (hsl : sl.toInt.natAbs ≤ 9600) {x : Nat} {fe bo : hp_A} {B : hp_B} {C : hp_C} {j : Nat} (hj : j < 3) {b : Int32}
    (R : hp_R n s x fe bo B C) : hp_R n s x fe bo (hp_xo (nI l) (nI n) s (nI nl) sl (nI j) b B) (hp_yo (nI l) (nI n).toInt64 s.toInt64 (nI nl) sl.toInt64 x (nI j) b C) := by
  unfold hp_xo hp_yo
  have eX : nI n - nI nl = nI (n - nl) := pk_sub hnl
  have eY : (nI n).toInt64 - (nI nl).toInt64 = (nI (n - nl)).toInt64 := by
    rw [nI_l (by omega), nI_l (by omega), nI_l (by omega), lN_sub hnl]
  rw [eX, eY]
  by_cases h1 : nl < l
  · rw [if_pos (nI_lt h1 (by omega)), if_pos ((hp_tl (by omega) (by omega)).mpr h1)]
    exact R
  · rw [if_neg (nI_nlt (by omega) (by omega)), if_neg (fun z => h1 ((hp_tl (by omega) (by omega)).mp z))]
    by_cases h2 : n - nl < l
    · rw [if_pos (nI_lt h2 (by omega)), if_pos ((hp_tl (by omega) (by omega)).mpr h2)]
      exact R
    · rw [if_neg (nI_nlt (by omega) (by omega)), if_neg (fun z => h2 ((hp_tl (by omega) (by omega)).mp z))]
      obtain ⟨nr, rfl⟩ : ∃ nr, n = nl + nr := ⟨n - nl, by omega⟩
      rw [Nat.add_sub_cancel_left] at h2 ⊢
      obtain ⟨hI, ⟨pB, bB⟩, ⟨pR, bR⟩, bG, bT, rest⟩ := R
      rw [Int.natCast_add] at hI
      obtain ⟨hif, sr, es, e1, b1, e2, b2, e3, b3⟩ := hp_cmp (nl := nl) (nr := nr) hn (by omega) (by omega) hs hsl rfl rfl rfl rfl bG bB bT bR pB pR hI
      unfold hp_of
      by_cases h3 : (hp_d (nI nl) sl (nI nr) (s - sl) * hp_d (nI nl) sl (nI nr) (s - sl)) * B.2.2.2 ≤ B.2.2.1 * ((nI nl).toInt64 * (nI nr).toInt64)
      · rw [if_pos h3, if_pos (hif.mp h3)]
        refine ⟨?_, ⟨pB, bB⟩, ⟨pR, bR⟩, bG, bT, rest⟩
        rw [Int.natCast_add]; exact hI
      · rw [if_neg h3, if_neg (fun z => h3 (hif.mpr z))]
        have pP : 0 < (nl : Int) * nr := Int.mul_pos (by omega) (by omega)
        refine ⟨?_, ⟨?_, ?_⟩, ⟨?_, ?_⟩, ?_, ?_, ?_, ?_⟩
        · show ((nl + nr : Nat) : Int) * (hp_t (nI nl).toInt64 sl.toInt64 (nI nr).toInt64 (s.toInt64 - sl.toInt64)).toInt * ((nI nl).toInt64 * (nI nr).toInt64).toInt = ((nI nl).toInt64 * (nI nr).toInt64).toInt * ((hp_d (nI nl) sl (nI nr) (s - sl) * hp_d (nI nl) sl (nI nr) (s - sl)).toInt + s.toInt * s.toInt * ((nI nl).toInt64 * (nI nr).toInt64).toInt)
          rw [e1, e2, e3, es, Int.natCast_add, hp_gid, Int.mul_comm]
        · show 0 < ((nI nl).toInt64 * (nI nr).toInt64).toInt
          rw [e2]; exact pP
        · show ((nI nl).toInt64 * (nI nr).toInt64).toInt.natAbs ≤ 576
          rw [e2]; exact b2
        · show 0 < ((nI nl).toInt64 * (nI nr).toInt64).toInt
          rw [e2]; exact pP
        · show ((nI nl).toInt64 * (nI nr).toInt64).toInt.natAbs ≤ 576
          rw [e2]; exact b2
        · show (hp_d (nI nl) sl (nI nr) (s - sl) * hp_d (nI nl) sl (nI nr) (s - sl)).toInt.natAbs ≤ _
          rw [e1]; exact b1
        · show (hp_t (nI nl).toInt64 sl.toInt64 (nI nr).toInt64 (s.toInt64 - sl.toInt64)).toInt.natAbs ≤ _
          rw [e3]; exact b3
        · show upd C.2.2.1 x (nI j) = upd fe x (nI j)
          rw [rest.1, hp_uu]
        · refine Or.inr ⟨j, hj, rfl, ?_⟩
          show upd C.2.2.2 x b = upd bo x b
          rcases rest.2 with ⟨_, h⟩ | ⟨_, _, _, h⟩
          · rw [h]
          · rw [h, hp_uu]
theorem hp_Rin {l c x : Nat} {wh rf re fe bo : hp_A} {nd : Int32} (hl : 1 ≤ l) (hl2 : l ≤ 12) (hc : c ≤ 24) (hre : ∀ i, i < c → (re i).toInt.natAbs ≤ 400) {f : Nat} (hf : f < 3) {B : hp_B} {C : hp_C}
    (R : hp_R (hp_cnt (hp_g wh rf nd 0 7) c) (hp_sm (hp_g wh rf nd 0 7) re c) x fe bo B C) :
    ∀ j, hp_R (hp_cnt (hp_g wh rf nd 0 7) c) (hp_sm (hp_g wh rf nd 0 7) re c) x fe bo (hp_xi (nI l) (nI (hp_cnt (hp_g wh rf nd 0 7) c)) (hp_sm (hp_g wh rf nd 0 7) re c) c wh rf re nd (nI f) B j)
      (hp_yi (nI l) (nI (hp_cnt (hp_g wh rf nd 0 7) c)).toInt64 (hp_sm (hp_g wh rf nd 0 7) re c).toInt64 c wh (fun i => rf i &&& 511) re x nd (nI f) C j)
  | 0 => R
  | j + 1 => by
    have ih := hp_Rin hl hl2 hc hre hf R j
    simp only [hp_xi, hp_yi]
    rw [hp_g_k wh rf nd f hf, hp_sL_e c hc hre]
    exact hp_step hl hl2 (Nat.le_trans (hp_cnt_le _ _) hc) (hp_cnt_mono (fun i h => hp_g_m h) c) (hp_sm_9 hc hre) (hp_sm_9 hc hre) hf ih
theorem hp_Rb {l c x : Nat} {wh rf re fe bo : hp_A} {nd : Int32} (hl : 1 ≤ l) (hl2 : l ≤ 12) (hc : c ≤ 24) (hre : ∀ i, i < c → (re i).toInt.natAbs ≤ 400) (hx : fe x = -6) (h0 : 0 < hp_cnt (hp_g wh rf nd 0 7) c) :
    ∀ k, k ≤ 3 → hp_R (hp_cnt (hp_g wh rf nd 0 7) c) (hp_sm (hp_g wh rf nd 0 7) re c) x fe bo (hp_xb (nI l) (nI (hp_cnt (hp_g wh rf nd 0 7) c)) (hp_sm (hp_g wh rf nd 0 7) re c) c wh rf re nd k)
      (hp_yb (nI l) (nI (hp_cnt (hp_g wh rf nd 0 7) c)).toInt64 (hp_sm (hp_g wh rf nd 0 7) re c).toInt64 c wh (fun i => rf i &&& 511) re x nd
        ((hp_sm (hp_g wh rf nd 0 7) re c).toInt64 * (hp_sm (hp_g wh rf nd 0 7) re c).toInt64, (nI (hp_cnt (hp_g wh rf nd 0 7) c)).toInt64, fe, bo) k)
  | 0, _ => by
    have hb := hp_sm_9 (g := hp_g wh rf nd 0 7) hc hre
    have hn := hp_cnt_le (hp_g wh rf nd 0 7) c
    simp only [hp_xb, hp_yb]
    generalize hp_sm (hp_g wh rf nd 0 7) re c = s at hb ⊢
    generalize hp_cnt (hp_g wh rf nd 0 7) c = n at h0 hn ⊢
    obtain ⟨eN, bN⟩ := hp_nT (n := n) (by omega)
    obtain ⟨eS, bS⟩ := hp_mulB (Int32.toInt_toInt64 s) (Int32.toInt_toInt64 s) hb hb (by decide)
    have e1 : (1 : Int64).toInt = 1 := by decide
    have e0 : (0 : Int64).toInt = 0 := by decide
    unfold hp_R
    dsimp only
    rw [eS, eN, e1, e0]
    refine ⟨?_, ⟨by omega, by omega⟩, ⟨by omega, by omega⟩, by omega, Nat.le_trans bS (by decide), (hp_uid hx).symm, Or.inl ⟨rfl, rfl⟩⟩
    rw [Int.mul_one, Int.mul_one, Int.zero_add]
  | k + 1, hk => by
    have ih := hp_Rb (bo := bo) hl hl2 hc hre hx h0 k (by omega)
    simp only [hp_xb, hp_yb]
    exact hp_Rin hl hl2 hc hre (by omega) ih 7
/-- no rows in the node: no split is allowed -/
theorem hp_xb0 {l c : Nat} {wh rf re : hp_A} {nd s : Int32} (hl : 1 ≤ l) (hl2 : l ≤ 12) (hc : c ≤ 24) (h0 : hp_cnt (hp_g wh rf nd 0 7) c = 0) : ∀ k, hp_xb (nI l) (nI 0) s c wh rf re nd k = (-6, -6, 0, 1)
  | 0 => rfl
  | k + 1 => by
    have ih := hp_xb0 (re := re) (s := s) hl hl2 hc h0 k
    have hi : ∀ j, hp_xi (nI l) (nI 0) s c wh rf re nd (nI k) (-6, -6, 0, 1) j = (-6, -6, 0, 1) := by
      intro j
      induction j with
      | zero => rfl
      | succ j ihj =>
        have hm := hp_cnt_mono (g := hp_g wh rf nd (nI k) (nI j)) (h := hp_g wh rf nd 0 7) (fun i h => hp_g_m h) c
        have hz : hp_cnt (hp_g wh rf nd (nI k) (nI j)) c = 0 := by omega
        simp only [hp_xi]
        unfold hp_xo
        rw [hz, if_pos (nI_lt (by omega) (by omega))]
        exact ihj
    simp only [hp_xb]
    rw [ih, hi]
