/-! the growing: X's tree and Y's tree -/
/-- a cell of the trees: X's feature and bound, Y's bound, the value -/
def hp_ok (f c b v : Int32) : Prop := (f = -7 ∧ c = -7 ∧ v = 0) ∨ (f = -6 ∧ c = -6) ∨ (∃ m, m < 3 ∧ f = nI m ∧ b = c ∧ v = 0)
def hp_J (fe cb bo va : hp_A) : Prop := (∀ j, hp_ok (fe j) (cb j) (bo j) (va j)) ∧ (∀ u m, u < 4 → m < 7 → (va (u * 7 + m)).toInt.natAbs ≤ 50 * 2 ^ u)
def hp_W (t k : Nat) (fe va : hp_A) : Prop := ∀ j, k ≤ j → j < 7 → (fe (t * 7 + j) = -6 ∨ fe (t * 7 + j) = -7) ∧ va (t * 7 + j) = 0
theorem hp_nn {m : Nat} (h : m < 3) : ¬ nI m < 0 ∧ nI m ≠ -6 ∧ nI m ≠ -7 := by
  have e : (nI m).toInt = m := nI_toInt (by omega)
  refine ⟨nI_pos (by omega), fun z => ?_, fun z => ?_⟩
  · rw [z] at e; have e6 : (-6 : Int32).toInt = -6 := by decide
    omega
  · rw [z] at e; have e6 : (-7 : Int32).toInt = -7 := by decide
    omega
theorem hp_ok6 {f c b v : Int32} (h : hp_ok f c b v) (e : f = -6) : c = -6 := by
  rcases h with ⟨h, _⟩ | ⟨_, h⟩ | ⟨m, hm, h, _⟩
  · rw [e] at h; exact absurd h (by decide)
  · exact h
  · rw [e] at h; exact absurd h.symm (hp_nn hm).2.1
theorem hp_pw {t : Nat} (h : t < 4) : 50 * 2 ^ t ≤ 400 := by
  have h4 : t = 0 ∨ t = 1 ∨ t = 2 ∨ t = 3 := by omega
  rcases h4 with rfl | rfl | rfl | rfl <;> decide
theorem hp_dvb {n M : Nat} {s : Int32} (hn : n ≤ 24) (h : s.toInt.natAbs ≤ M * n) : (hp_dv (nI n) s).toInt.natAbs ≤ M := by
  unfold hp_dv
  by_cases h0 : nI n = 0
  · rw [if_pos h0]; exact Nat.zero_le _
  · rw [if_neg h0]
    have e : (nI n).toInt = n := nI_toInt (by omega)
    have e1 : (-1 : Int32).toInt = -1 := by decide
    have h1 : nI n ≠ -1 := fun z => by rw [z] at e; omega
    rw [Int32.toInt_div_of_ne_right _ _ h1, e, Int.natAbs_tdiv]
    refine Nat.div_le_of_le_mul ?_
    rw [Nat.mul_comm]; exact h
theorem hp_leafY {x n : Nat} {s : Int32} {fe bo va sz wh : hp_A} (hn : n ≤ 24) (h6 : fe x = -6) (h0 : va x = 0) :
    hp_yv x (nI n) s (fe, bo, va, sz, wh) = (fe, bo, upd va x (hp_dv (nI n) s), sz, wh) := by
  unfold hp_yv hp_dv
  dsimp only
  rw [if_pos h6]
  by_cases hz : n = 0
  · subst hz
    rw [if_pos (show nI 0 ≤ 0 by decide), if_pos (show nI 0 = 0 by decide), hp_uid h0]
  · rw [if_neg (nI_nle (by omega) (by omega)), if_neg (nI_ne0 (by omega) (by omega))]
theorem hp_Jleaf {t k : Nat} (ht : t < 4) (hk : k < 7) {fe cb bo va : hp_A} {v : Int32} (hJ : hp_J fe cb bo va) (hW : hp_W t k fe va) (h6 : fe (t * 7 + k) = -6) (hv : v.toInt.natAbs ≤ 50 * 2 ^ t) :
    hp_J fe cb bo (upd va (t * 7 + k) v) ∧ hp_W t (k + 1) fe (upd va (t * 7 + k) v) := by
  refine ⟨⟨fun j => ?_, fun u m hu hm => ?_⟩, fun j hj hj7 => ?_⟩
  · by_cases e : j = t * 7 + k
    · rw [e]
      exact Or.inr (Or.inl ⟨h6, hp_ok6 (hJ.1 _) h6⟩)
    · rw [pk_un e]; exact hJ.1 j
  · by_cases e : u * 7 + m = t * 7 + k
    · have eu : u = t := by omega
      rw [e, pk_us, eu]; exact hv
    · rw [pk_un e]; exact hJ.2 u m hu hm
  · have e : t * 7 + j ≠ t * 7 + k := by omega
    rw [pk_un e]; exact hW j (by omega) hj7
theorem hp_Jsplit {t k q : Nat} (ht : t < 4) (hk : k < 3) (hq : q < 3) {fe cb bo va : hp_A} {b : Int32} (hJ : hp_J fe cb bo va) (hW : hp_W t k fe va) :
    hp_J (upd (upd (upd fe (t * 7 + k) (nI q)) (t * 7 + (2 * k + 1)) (-6)) (t * 7 + (2 * k + 2)) (-6)) (upd (upd (upd cb (t * 7 + k) b) (t * 7 + (2 * k + 1)) (-6)) (t * 7 + (2 * k + 2)) (-6)) (upd bo (t * 7 + k) b) va ∧
    hp_W t (k + 1) (upd (upd (upd fe (t * 7 + k) (nI q)) (t * 7 + (2 * k + 1)) (-6)) (t * 7 + (2 * k + 2)) (-6)) va := by
  refine ⟨⟨fun j => ?_, hJ.2⟩, fun j hj hj7 => ⟨?_, (hW j (by omega) hj7).2⟩⟩
  · by_cases e2 : j = t * 7 + (2 * k + 2)
    · rw [e2, pk_us, pk_us]; exact Or.inr (Or.inl ⟨rfl, rfl⟩)
    · rw [pk_un e2, pk_un e2]
      by_cases e1 : j = t * 7 + (2 * k + 1)
      · rw [e1, pk_us, pk_us]; exact Or.inr (Or.inl ⟨rfl, rfl⟩)
      · rw [pk_un e1, pk_un e1]
        by_cases e0 : j = t * 7 + k
        · rw [e0, pk_us, pk_us, pk_us]
          exact Or.inr (Or.inr ⟨q, hq, rfl, rfl, (hW k (Nat.le_refl k) (by omega)).2⟩)
        · rw [pk_un e0, pk_un e0, pk_un e0]; exact hJ.1 j
  · by_cases e2 : t * 7 + j = t * 7 + (2 * k + 2)
    · rw [e2, pk_us]; exact Or.inl rfl
    · rw [pk_un e2]
      by_cases e1 : t * 7 + j = t * 7 + (2 * k + 1)
      · rw [e1, pk_us]; exact Or.inl rfl
      · have e0 : t * 7 + j ≠ t * 7 + k := by omega
        rw [pk_un e1, pk_un e0]; exact (hW j (by omega) hj7).1
/-- what both sides have after a node -/
def hp_Q (t k : Nat) (fe0 : hp_A) (X Y : hp_T) : Prop :=
  ∃ fe cb bo va sz wh : hp_A, X = (fe, cb, va, sz, wh) ∧ Y = (fe, bo, va, sz, wh) ∧ hp_J fe cb bo va ∧ hp_W t (k + 1) fe va ∧ ∀ j, j < k → fe (t * 7 + j) = fe0 (t * 7 + j)
theorem hp_gr {l c t k : Nat} {rf re fe cb bo va sz wh : hp_A} (hl : 1 ≤ l) (hl2 : l ≤ 12) (hc : c ≤ 24) (ht : t < 4) (hk : k < 7) (hre : ∀ i, i < c → (re i).toInt.natAbs ≤ 50 * 2 ^ t)
    (hJ : hp_J fe cb bo va) (hW : hp_W t k fe va) : hp_Q t k fe (hp_xg (nI l) c rf re t k (fe, cb, va, sz, wh)) (hp_yg (nI l) c (fun i => rf i &&& 511) re t k (fe, bo, va, sz, wh)) := by
  have hpw := hp_pw ht
  have hre4 : ∀ i, i < c → (re i).toInt.natAbs ≤ 400 := fun i hi => Nat.le_trans (hre i hi) hpw
  have hWk := hW k (Nat.le_refl k) hk
  by_cases h7 : fe (t * 7 + k) = -7
  · have eX : hp_xg (nI l) c rf re t k (fe, cb, va, sz, wh) = (fe, cb, va, sz, wh) := if_pos h7
    have h6 : ¬ fe (t * 7 + k) = -6 := by rw [h7]; decide
    have eY : hp_yg (nI l) c (fun i => rf i &&& 511) re t k (fe, bo, va, sz, wh) = (fe, bo, va, sz, wh) := if_neg h6
    rw [eX, eY]
    exact ⟨fe, cb, bo, va, sz, wh, rfl, rfl, hJ, fun j hj => hW j (by omega), fun _ _ => rfl⟩
  · have h6 : fe (t * 7 + k) = -6 := hWk.1.resolve_right h7
    have h0 := hWk.2
    have eg : hp_g wh (fun i => rf i &&& 511) (nI k) 0 7 = hp_g wh rf (nI k) 0 7 := hp_g_k wh rf (nI k) 0 (by omega) 7
    have hn : hp_cnt (hp_g wh rf (nI k) 0 7) c ≤ 24 := Nat.le_trans (hp_cnt_le _ _) hc
    have hv : (hp_dv (nI (hp_cnt (hp_g wh rf (nI k) 0 7) c)) (hp_sm (hp_g wh rf (nI k) 0 7) re c)).toInt.natAbs ≤ 50 * 2 ^ t := hp_dvb hn (hp_sm_b hpw c hc hre)
    have eX : hp_xg (nI l) c rf re t k (fe, cb, va, sz, wh) = hp_x2 (nI l) c rf re t k (nI (hp_cnt (hp_g wh rf (nI k) 0 7) c)) (hp_sm (hp_g wh rf (nI k) 0 7) re c) (fe, cb, va, sz, wh) := if_neg h7
    have eY : hp_yg (nI l) c (fun i => rf i &&& 511) re t k (fe, bo, va, sz, wh) = hp_y2 (nI l) c (fun i => rf i &&& 511) re t k (nI (hp_cnt (hp_g wh rf (nI k) 0 7) c)) (hp_sm (hp_g wh rf (nI k) 0 7) re c).toInt64 (fe, bo, va, upd sz (t * 7 + k) (nI (hp_cnt (hp_g wh rf (nI k) 0 7) c)), wh) := by
      have e1 : hp_yg (nI l) c (fun i => rf i &&& 511) re t k (fe, bo, va, sz, wh) = hp_yst (nI l) c (fun i => rf i &&& 511) re t k (fe, bo, va, sz, wh) := if_pos h6
      rw [e1]
      unfold hp_yst hp_sz
      dsimp only
      rw [eg, hp_sL_e c hc hre4]
    have hleaf : hp_Q t k fe (hp_xl (t * 7 + k) (nI (hp_cnt (hp_g wh rf (nI k) 0 7) c)) (hp_sm (hp_g wh rf (nI k) 0 7) re c) (fe, cb, va, sz, wh))
        (hp_yv (t * 7 + k) (nI (hp_cnt (hp_g wh rf (nI k) 0 7) c)) (hp_sm (hp_g wh rf (nI k) 0 7) re c) (fe, bo, va, upd sz (t * 7 + k) (nI (hp_cnt (hp_g wh rf (nI k) 0 7) c)), wh)) := by
      rw [hp_leafY hn h6 h0]
      obtain ⟨a, b⟩ := hp_Jleaf ht hk hJ hW h6 hv
      exact ⟨fe, cb, bo, _, _, wh, rfl, rfl, a, b, fun _ _ => rfl⟩
    rw [eX, eY]
    unfold hp_x2 hp_y2
    rw [Int32.toInt32_toInt64]
    by_cases h3 : 3 ≤ k
    · rw [if_pos h3, if_pos h3]; exact hleaf
    · rw [if_neg h3, if_neg h3]
      by_cases hz : hp_cnt (hp_g wh rf (nI k) 0 7) c = 0
      · have hB : hp_xb (nI l) (nI (hp_cnt (hp_g wh rf (nI k) 0 7) c)) (hp_sm (hp_g wh rf (nI k) 0 7) re c) c wh rf re (nI k) 3 = (-6, -6, 0, 1) := by
          rw [show nI (hp_cnt (hp_g wh rf (nI k) 0 7) c) = nI 0 by rw [hz]]
          exact hp_xb0 hl hl2 hc hz 3
        dsimp only
        rw [hB]
        have hle : nI (hp_cnt (hp_g wh rf (nI k) 0 7) c) ≤ 0 := by rw [hz]; decide
        rw [if_pos hle]
        exact hleaf
      · have hle : ¬ nI (hp_cnt (hp_g wh rf (nI k) 0 7) c) ≤ 0 := nI_nle (by omega) (by omega)
        rw [if_neg hle]
        have R := hp_Rb (bo := bo) (x := t * 7 + k) (fe := fe) (wh := wh) (rf := rf) (re := re) (nd := nI k) hl hl2 hc hre4 h6 (by omega) 3 (by omega)
        unfold hp_yp
        dsimp only
        generalize hp_xb (nI l) (nI (hp_cnt (hp_g wh rf (nI k) 0 7) c)) (hp_sm (hp_g wh rf (nI k) 0 7) re c) c wh rf re (nI k) 3 = B at R ⊢
        generalize hp_yb (nI l) (nI (hp_cnt (hp_g wh rf (nI k) 0 7) c)).toInt64 (hp_sm (hp_g wh rf (nI k) 0 7) re c).toInt64 c wh (fun i => rf i &&& 511) re (t * 7 + k) (nI k) _ 3 = C at R ⊢
        obtain ⟨_, _, _, _, _, eF, hb⟩ := R
        unfold hp_x3 hp_ys
        rcases hb with ⟨hB, hC⟩ | ⟨q, hq, hB, hC⟩
        · rw [if_pos hB]
          have eF2 : C.2.2.1 = fe := by rw [eF, hB, hp_uid h6]
          have hlt : fe (t * 7 + k) < 0 := by rw [h6]; decide
          rw [eF2, if_pos hlt, hC]
          exact hleaf
        · have hnq := hp_nn hq
          have hne : ¬ B.1 = -6 := by rw [hB]; exact hnq.2.1
          rw [if_neg hne]
          have eFx : C.2.2.1 (t * 7 + k) = nI q := by rw [eF, pk_us, hB]
          have eBx : C.2.2.2 (t * 7 + k) = B.2.1 := by rw [hC, pk_us]
          have hlt : ¬ C.2.2.1 (t * 7 + k) < 0 := by rw [eFx]; exact hnq.1
          rw [if_neg hlt, eFx, eBx, hp_snd_k rf (nI k) q hq, eF, hC]
          unfold hp_yv hp_xs
          dsimp only
          rw [hB]
          have e2 : t * 7 + k ≠ t * 7 + (2 * k + 2) := by omega
          have e1 : t * 7 + k ≠ t * 7 + (2 * k + 1) := by omega
          have hF : ¬ (upd (upd (upd fe (t * 7 + k) (nI q)) (t * 7 + (2 * k + 1)) (-6)) (t * 7 + (2 * k + 2)) (-6)) (t * 7 + k) = -6 := by
            rw [pk_un e2, pk_un e1, pk_us]; exact hnq.2.1
          rw [if_neg hF]
          obtain ⟨a, b⟩ := hp_Jsplit (b := B.2.1) ht (by omega) hq hJ hW
          refine ⟨_, _, _, va, _, _, rfl, rfl, a, b, fun j hj => ?_⟩
          have f2 : t * 7 + j ≠ t * 7 + (2 * k + 2) := by omega
          have f1 : t * 7 + j ≠ t * 7 + (2 * k + 1) := by omega
          have f0 : t * 7 + j ≠ t * 7 + k := by omega
          rw [pk_un f2, pk_un f1, pk_un f0]
