/-! the relation, and what is owed -/
def i_Rel (_ : Nat) (u : SX) (v : SY) : Prop :=
  ∃ (l c t : Nat) (f1 f2 : Int32) (f3 f4 : Int64) (rf tg fe cb bo va sz re wh : hp_A), u = ((nI l), (nI c), (nI t), f1, f2, f3, f4, rf, tg, fe, cb, va, sz, re, wh) ∧ v = ((nI l), (nI c), (nI t), (fun i => rf i &&& 511), tg, fe, bo, va, sz, re, wh) ∧
    1 ≤ l ∧ l ≤ 12 ∧ c ≤ 24 ∧ t ≤ 4 ∧ (∀ i, (tg i).toInt.natAbs ≤ 50) ∧ hp_J fe cb bo va
theorem hp_mk {k l c t : Nat} {f1 f2 : Int32} {f3 f4 : Int64} {rf tg fe cb bo va sz re wh ap : hp_A} (hl : 1 ≤ l) (hl2 : l ≤ 12) (hc : c ≤ 24) (ht : t ≤ 4) (htg : ∀ i, (tg i).toInt.natAbs ≤ 50) (hJ : hp_J fe cb bo va) (ha : ap = fun i => rf i &&& 511) :
    i_Rel k ((nI l), (nI c), (nI t), f1, f2, f3, f4, rf, tg, fe, cb, va, sz, re, wh) ((nI l), (nI c), (nI t), ap, tg, fe, bo, va, sz, re, wh) := by
  subst ha
  exact ⟨l, c, t, f1, f2, f3, f4, rf, tg, fe, cb, bo, va, sz, re, wh, rfl, rfl, hl, hl2, hc, ht, htg, hJ⟩
theorem i_up {k : Nat} {u : SX} {v : SY} (h : i_Rel k u v) : i_Rel (k + 3) u v := h
theorem hp_R0 {l : Nat} (hl : 1 ≤ l) (hl2 : l ≤ 12) : i_Rel 1 (nI l, 0, 0, (-6), (-6), 0, 1, (fun _ => 0), (fun _ => 0), (fun _ => 0), (fun _ => 0), (fun _ => 0), (fun _ => 0), (fun _ => 0), (fun _ => 0)) (nI l, 0, 0, (fun _ => 0), (fun _ => 0), (fun _ => 0), (fun _ => 0), (fun _ => 0), (fun _ => 0), (fun _ => 0), (fun _ => 0)) :=
  hp_mk (c := 0) (t := 0) hl hl2 (by omega) (by omega) (fun _ => Nat.zero_le _) ⟨fun _ => Or.inr (Or.inr ⟨0, by omega, rfl, rfl, rfl⟩), fun _ _ _ _ => Nat.zero_le _⟩ (funext fun _ => by decide)
theorem i_vc0 (k0 : Int32) : wpX_init (fun u => wpY_init (fun v => i_Rel 1 u v) k0) k0 := by
  by_cases h1 : 1 ≤ k0
  · by_cases h2 : k0 ≤ 12
    · have h0 : ¬ k0 < 0 := fun z => by
        rw [Int32.lt_iff_toInt_lt] at z
        rw [Int32.le_iff_toInt_le] at h1
        have e1 : (1 : Int32).toInt = 1 := by decide
        have e0 : (0 : Int32).toInt = 0 := by decide
        omega
      obtain ⟨j, hj, rfl⟩ := nI_of2 (M := 12) (n := 12) (by decide) h0 h2
      have hj1 : 1 ≤ j := (nI_leI (a := 1) (by decide) (by omega)).mp h1
      exact br_t h1 (br_t h2 (br_t h1 (br_t h2 (hp_R0 hj1 hj))))
    · exact br_t h1 (br_f h2 (br_t h1 (br_f h2 (hp_R0 (l := 12) (by omega) (by omega)))))
  · exact br_f h1 (br_f h1 (br_t (by decide) (hp_R0 (l := 1) (by omega) (by omega))))
theorem hp_tgt (x : Int32) : x < -50 ∨ (¬ x < -50 ∧ 50 < x ∧ ¬ x ≤ 50) ∨ (¬ x < -50 ∧ ¬ 50 < x ∧ x ≤ 50 ∧ x.toInt.natAbs ≤ 50) := by
  rw [Int32.lt_iff_toInt_lt, Int32.lt_iff_toInt_lt, Int32.le_iff_toInt_le]
  have e1 : (50 : Int32).toInt = 50 := by decide
  have e2 : (-50 : Int32).toInt = -50 := by decide
  omega
theorem hp_pku (rf : hp_A) (c : Nat) (x : Int32) : upd (fun i => rf i &&& 511) c (x &&& 511) = fun i => upd rf c x i &&& 511 := by
  funext i; unfold upd; split <;> rfl
theorem hp_tgu {tg : hp_A} (h : ∀ i, (tg i).toInt.natAbs ≤ 50) (c : Nat) {x : Int32} (hx : x.toInt.natAbs ≤ 50) (i : Nat) : (upd tg c x i).toInt.natAbs ≤ 50 := by
  unfold upd; split
  · exact hx
  · exact h i
theorem i_vc_row {k : Nat} {u : SX} {v : SY} (I : i_Rel k u v) (hk : k + 3 ≤ 1537) (v1 : Int32) (v2 : Int32) : wpX_row (fun r u' => wpY_row (fun r' v' => r' = r ∧ i_Rel (k + 3) u' v') v v1 v2) u v1 v2 := by
  obtain ⟨l, c, t, f1, f2, f3, f4, rf, tg, fe, cb, bo, va, sz, re, wh, rfl, rfl, hl, hl2, hc, ht, htg, hJ⟩ := I
  have hcl : (nI c).toNatClampNeg = c := nI_clamp (by omega)
  unfold wpX_row
  rcases hp_tgt v2 with h | ⟨h1, h2, h3⟩ | ⟨h1, h2, h3, h4⟩
  · refine br_t h (br_t rfl ?_)
    unfold wpY_row
    exact br_t h (br_f (by decide) ⟨rfl, hp_mk hl hl2 hc ht htg hJ rfl⟩)
  · refine br_f h1 (br_t h2 (br_t rfl ?_))
    unfold wpY_row
    exact br_f h1 (br_f h3 (br_f (by decide) ⟨rfl, hp_mk hl hl2 hc ht htg hJ rfl⟩))
  · refine br_f h1 (br_f h2 (br_f (by decide) ?_))
    refine pk_lt c 24 (fun h => ?_) (fun h => ?_)
    · have hin : vp_in (nI c) 24 := vp_in_nI h (by omega)
      rw [hcl]
      refine ⟨hin, nm_e ⟨hin, nm_e (nm_r (nI_1 c) ?_)⟩⟩
      unfold wpY_row
      refine br_f h1 (br_t h3 (br_t rfl (pk_eq c 24 (fun h => absurd h (by omega)) (fun _ => ?_))))
      rw [hcl]
      exact ⟨hin, nm_e ⟨hin, nm_e (nm_r (nI_1 c) ⟨rfl, hp_mk hl hl2 h ht (hp_tgu htg c h4) hJ (hp_pku rf c v1)⟩)⟩⟩
    · unfold wpY_row
      exact br_f h1 (br_t h3 (br_t rfl (pk_eq c 24 (fun _ => ⟨rfl, hp_mk hl hl2 hc ht htg hJ rfl⟩) (fun h => absurd (show c = 24 by omega) h))))
theorem i_vc_retarget {k : Nat} {u : SX} {v : SY} (I : i_Rel k u v) (hk : k + 3 ≤ 1537) (v1 : Int32) (v2 : Int32) : wpX_retarget (fun r u' => wpY_retarget (fun r' v' => r' = r ∧ i_Rel (k + 3) u' v') v v1 v2) u v1 v2 := by
  obtain ⟨l, c, t, f1, f2, f3, f4, rf, tg, fe, cb, bo, va, sz, re, wh, rfl, rfl, hl, hl2, hc, ht, htg, hJ⟩ := I
  unfold wpX_retarget
  by_cases h0 : v1 < 0
  · refine br_t h0 (br_t rfl ?_)
    unfold wpY_retarget
    exact br_t h0 ⟨rfl, hp_mk hl hl2 hc ht htg hJ rfl⟩
  · rcases pk_ix v1 (n := c) (by omega) with h | h | ⟨j, hj, rfl⟩
    · exact absurd h h0
    · refine br_f h0 (br_t h (br_t rfl ?_))
      unfold wpY_retarget
      exact br_f h0 (br_f (Int32.not_lt.mpr h) ⟨rfl, hp_mk hl hl2 hc ht htg hJ rfl⟩)
    · have hcl : (nI j).toNatClampNeg = j := nI_clamp (by omega)
      have hin : vp_in (nI j) 24 := vp_in_nI (by omega) (by omega)
      refine br_f h0 (br_f (nI_ge hj (by omega)) (br_f (by decide) ?_))
      rcases hp_tgt v2 with h | ⟨h1, h2, h3⟩ | ⟨h1, h2, h3, h4⟩
      · refine br_t h (br_t rfl ?_)
        unfold wpY_retarget
        exact br_f h0 (br_t (nI_lt hj (by omega)) (br_t h (br_f (by decide) ⟨rfl, hp_mk hl hl2 hc ht htg hJ rfl⟩)))
      · refine br_f h1 (br_t h2 (br_t rfl ?_))
        unfold wpY_retarget
        exact br_f h0 (br_t (nI_lt hj (by omega)) (br_f h1 (br_f h3 (br_f (by decide) ⟨rfl, hp_mk hl hl2 hc ht htg hJ rfl⟩))))
      · refine br_f h1 (br_f h2 (br_f (by decide) ?_))
        rw [hcl]
        refine ⟨hin, nm_e ⟨hin, nm_e ?_⟩⟩
        unfold wpY_retarget
        refine br_f h0 (br_t (nI_lt hj (by omega)) (br_f h1 (br_t h3 (br_t rfl ?_))))
        rw [hcl]
        exact ⟨hin, nm_e ⟨hin, nm_e ⟨rfl, hp_mk hl hl2 hc ht (hp_tgu htg j h4) hJ rfl⟩⟩⟩
theorem i_vc_train {k : Nat} {u : SX} {v : SY} (I : i_Rel k u v) (hk : k + 3 ≤ 1537) : wpX_train (fun r u' => wpY_train (fun r' v' => r' = r ∧ i_Rel (k + 3) u' v') v) u := by
  obtain ⟨l, c, t, f1, f2, f3, f4, rf, tg, fe, cb, bo, va, sz, re, wh, rfl, rfl, hl, hl2, hc, ht, htg, hJ⟩ := I
  by_cases h4 : t < 4
  · obtain ⟨fe', cb', bo', va', sz', wh', eX, eY, J1, eC⟩ := hp_main (rf := rf) (re := re) (sz := sz) (wh := wh) hl hl2 hc h4 htg hJ
    refine hp_Xtr hc h4 (fun b1 b2 b3 b4 => hp_Ytr hc h4 ?_)
    rw [hp_rsq hJ, eX, eY, eC]
    exact ⟨rfl, hp_mk hl hl2 hc (by omega) htg J1 rfl⟩
  · have e : t = 4 := by omega
    subst e
    unfold wpX_train
    refine br_f (nI_nlt (a := 4) (b := 4) (by omega) (by decide)) ?_
    unfold wpY_train
    exact br_t rfl ⟨rfl, hp_mk hl hl2 hc ht htg hJ rfl⟩
theorem i_vc_dropTree {k : Nat} {u : SX} {v : SY} (I : i_Rel k u v) (hk : k + 3 ≤ 1537) : wpX_dropTree (fun r u' => wpY_dropTree (fun r' v' => r' = r ∧ i_Rel (k + 3) u' v') v) u := by
  obtain ⟨l, c, t, f1, f2, f3, f4, rf, tg, fe, cb, bo, va, sz, re, wh, rfl, rfl, hl, hl2, hc, ht, htg, hJ⟩ := I
  unfold wpX_dropTree wpY_dropTree
  cases t with
  | zero => exact br_t rfl (br_t rfl ⟨rfl, hp_mk (t := 0) hl hl2 hc ht htg hJ rfl⟩)
  | succ t =>
    have h : ¬ nI (t + 1) = 0 := nI_ne0 (by omega) (by omega)
    exact br_f h (nm_r (nI_pred t) (br_f h (nm_r (nI_pred t) ⟨rfl, hp_mk hl hl2 hc (by omega) htg hJ rfl⟩)))
theorem i_vc_clear {k : Nat} {u : SX} {v : SY} (I : i_Rel k u v) (hk : k + 3 ≤ 1537) : wpX_clear (fun u' => wpY_clear (fun v' => i_Rel (k + 3) u' v') v) u := by
  obtain ⟨l, c, t, f1, f2, f3, f4, rf, tg, fe, cb, bo, va, sz, re, wh, rfl, rfl, hl, hl2, hc, ht, htg, hJ⟩ := I
  unfold wpX_clear wpY_clear
  exact hp_mk (c := 0) (t := 0) hl hl2 (by omega) (by omega) htg hJ rfl
theorem i_vc_predict {k : Nat} {u : SX} {v : SY} (I : i_Rel k u v) (hk : k + 3 ≤ 1537) (v1 : Int32) : wpX_predict (fun r => wpY_predict (fun r' => r' = r ∧ i_Rel (k + 3) u v) v v1) u v1 := by
  have I2 : i_Rel (k + 3) u v := I
  obtain ⟨l, c, t, f1, f2, f3, f4, rf, tg, fe, cb, bo, va, sz, re, wh, rfl, rfl, hl, hl2, hc, ht, htg, hJ⟩ := I
  exact hp_Xpr ht (hp_Ypr ht ⟨hp_prq hJ (fun _ _ => rfl) t, I2⟩)
theorem i_vc_rest {k : Nat} {u : SX} {v : SY} (I : i_Rel k u v) (hk : k + 3 ≤ 1537) (v1 : Int32) : wpX_rest (fun r => wpY_rest (fun r' => r' = r ∧ i_Rel (k + 3) u v) v v1) u v1 := by
  have I2 : i_Rel (k + 3) u v := I
  obtain ⟨l, c, t, f1, f2, f3, f4, rf, tg, fe, cb, bo, va, sz, re, wh, rfl, rfl, hl, hl2, hc, ht, htg, hJ⟩ := I
  rcases pk_ix v1 (n := c) (by omega) with h | h | ⟨j, hj, rfl⟩
  · exact hp_Xrest0 ht (Or.inl h) (hp_Yrest0 ht (Or.inl h) ⟨rfl, I2⟩)
  · exact hp_Xrest0 ht (Or.inr h) (hp_Yrest0 ht (Or.inr h) ⟨rfl, I2⟩)
  · exact hp_Xrest hc ht hj (hp_Yrest hc ht hj ⟨by rw [hp_prq hJ (fun m hm => hp_fm (rf j) m hm)], I2⟩)
theorem i_vc_loss {k : Nat} {u : SX} {v : SY} (I : i_Rel k u v) (hk : k + 3 ≤ 1537) : wpX_loss (fun r => wpY_loss (fun r' => r' = r ∧ i_Rel (k + 3) u v) v) u := by
  have I2 : i_Rel (k + 3) u v := I
  obtain ⟨l, c, t, f1, f2, f3, f4, rf, tg, fe, cb, bo, va, sz, re, wh, rfl, rfl, hl, hl2, hc, ht, htg, hJ⟩ := I
  exact hp_Xls hc ht (hp_Yls hc ht ⟨hp_lsq hJ t c, I2⟩)
theorem hp_Xno {L : Int32} {c t : Nat} {f1 f2 : Int32} {f3 f4 : Int64} {rf tg fe cb va sz re wh : Nat → Int32} {post : Int32 → Prop} {p q : Int32} (h : p < 0 ∨ nI t ≤ p ∨ q < 0 ∨ 7 ≤ q) (H : post 0) : wpX_isNode post (L, (nI c), (nI t), f1, f2, f3, f4, rf, tg, fe, cb, va, sz, re, wh) p q := by
  unfold wpX_isNode
  exact br_c (fun _ => H) (fun h1 => br_c (fun _ => H) (fun h2 => br_c (fun _ => H) (fun h3 => br_c (fun _ => H) (fun h4 => absurd h (fun z => z.elim h1 (fun z => z.elim h2 (fun z => z.elim h3 h4)))))))
theorem hp_Xyes {L : Int32} {c t : Nat} {f1 f2 : Int32} {f3 f4 : Int64} {rf tg fe cb va sz re wh : Nat → Int32} {post : Int32 → Prop} {a m : Nat} (ht : t ≤ 4) (ha : a < t) (hm : m < 7) (H : post 1) : wpX_isNode post (L, (nI c), (nI t), f1, f2, f3, f4, rf, tg, fe, cb, va, sz, re, wh) (nI a) (nI m) := by
  unfold wpX_isNode
  exact br_f (nI_pos (by omega)) (br_f (nI_ge ha (by omega)) (br_f (nI_pos (by omega)) (br_f (nI_ge (b := 7) hm (by decide)) H)))
theorem hp_76 {q : Int32} (h : 7 ≤ q) : ¬ q ≤ 6 := fun z => by
  rw [Int32.le_iff_toInt_le] at h z
  have e7 : (7 : Int32).toInt = 7 := by decide
  have e6 : (6 : Int32).toInt = 6 := by decide
  omega
theorem hp_Yno {L : Int32} {c t : Nat} {ap tg fe bo va sz re wh : Nat → Int32} {post : Int32 → Prop} {p q : Int32} (h : p < 0 ∨ nI t ≤ p ∨ q < 0 ∨ 7 ≤ q) (H : post 1) : wpY_none post (L, (nI c), (nI t), ap, tg, fe, bo, va, sz, re, wh) p q := by
  unfold wpY_none
  exact br_c (fun _ => H) (fun h1 => br_c (fun _ => H) (fun h2 => br_c (fun _ => H) (fun h3 => br_c (fun h4 => absurd h (fun z => z.elim h1 (fun z => z.elim h2 (fun z => z.elim h3 (fun z => hp_76 z h4))))) (fun _ => H))))
theorem hp_Yyes {L : Int32} {c t : Nat} {ap tg fe bo va sz re wh : Nat → Int32} {post : Int32 → Prop} {a m : Nat} (ht : t ≤ 4) (ha : a < t) (hm : m < 7) (H : post 0) : wpY_none post (L, (nI c), (nI t), ap, tg, fe, bo, va, sz, re, wh) (nI a) (nI m) := by
  unfold wpY_none
  exact br_f (nI_pos (by omega)) (br_f (nI_ge ha (by omega)) (br_f (nI_pos (by omega)) (br_t (nI_le (b := 6) (by omega) (by decide)) H)))
theorem hp_nodes (t : Nat) (ht : t ≤ 4) (p q : Int32) : (p < 0 ∨ nI t ≤ p ∨ q < 0 ∨ 7 ≤ q) ∨ ∃ a m : Nat, a < t ∧ m < 7 ∧ p = nI a ∧ q = nI m := by
  rcases pk_ix p (n := t) (by omega) with h | h | ⟨a, ha, ea⟩
  · exact Or.inl (Or.inl h)
  · exact Or.inl (Or.inr (Or.inl h))
  · rcases pk_ix q (n := 7) (by omega) with h | h | ⟨m, hm, em⟩
    · exact Or.inl (Or.inr (Or.inr (Or.inl h)))
    · exact Or.inl (Or.inr (Or.inr (Or.inr h)))
    · exact Or.inr ⟨a, m, ha, hm, ea, em⟩
theorem i_vc_feature {k : Nat} {u : SX} {v : SY} (I : i_Rel k u v) (hk : k + 3 ≤ 1537) (v1 : Int32) (v2 : Int32) : wpX_feature (fun r => wpY_feature (fun r' => r' = r ∧ i_Rel (k + 3) u v) v v1 v2) u v1 v2 := by
  have I2 : i_Rel (k + 3) u v := I
  obtain ⟨l, c, t, f1, f2, f3, f4, rf, tg, fe, cb, bo, va, sz, re, wh, rfl, rfl, hl, hl2, hc, ht, htg, hJ⟩ := I
  unfold wpX_feature wpY_feature
  rcases hp_nodes t ht v1 v2 with h | ⟨a, m, ha, hm, rfl, rfl⟩
  · exact hp_Xno h (br_t rfl (hp_Yno h (br_f (by decide) ⟨rfl, I2⟩)))
  · have hin : vp_in (nI a * 7 + nI m) 28 := by rw [hp_at]; exact vp_in_nI (by omega) (by omega)
    exact hp_Xyes ht ha hm (br_f (by decide) ⟨hin, hp_Yyes ht ha hm (br_t rfl ⟨hin, rfl, I2⟩)⟩)
theorem i_vc_bound {k : Nat} {u : SX} {v : SY} (I : i_Rel k u v) (hk : k + 3 ≤ 1537) (v1 : Int32) (v2 : Int32) : wpX_bound (fun r => wpY_bound (fun r' => r' = r ∧ i_Rel (k + 3) u v) v v1 v2) u v1 v2 := by
  have I2 : i_Rel (k + 3) u v := I
  obtain ⟨l, c, t, f1, f2, f3, f4, rf, tg, fe, cb, bo, va, sz, re, wh, rfl, rfl, hl, hl2, hc, ht, htg, hJ⟩ := I
  unfold wpX_bound wpY_bound
  rcases hp_nodes t ht v1 v2 with h | ⟨a, m, ha, hm, rfl, rfl⟩
  · exact hp_Xno h (br_t rfl (hp_Yno h (br_f (by decide) ⟨rfl, I2⟩)))
  · have hin : vp_in (nI a * 7 + nI m) 28 := by rw [hp_at]; exact vp_in_nI (by omega) (by omega)
    refine hp_Xyes ht ha hm (br_f (by decide) ⟨hin, hp_Yyes ht ha hm (br_t rfl ⟨hin, nm_e ?_⟩)⟩)
    rcases hJ.1 (nI a * 7 + nI m).toNatClampNeg with ⟨e, e2, _⟩ | ⟨e, e2⟩ | ⟨q, hq, e, e2, _⟩
    · rw [e, e2]
      exact br_f (by decide) ⟨rfl, I2⟩
    · rw [e, e2]
      exact br_f (by decide) ⟨rfl, I2⟩
    · rw [e]
      exact br_t (nI_pos' (by omega)) ⟨hin, e2, I2⟩
theorem i_vc_value {k : Nat} {u : SX} {v : SY} (I : i_Rel k u v) (hk : k + 3 ≤ 1537) (v1 : Int32) (v2 : Int32) : wpX_value (fun r => wpY_value (fun r' => r' = r ∧ i_Rel (k + 3) u v) v v1 v2) u v1 v2 := by
  have I2 : i_Rel (k + 3) u v := I
  obtain ⟨l, c, t, f1, f2, f3, f4, rf, tg, fe, cb, bo, va, sz, re, wh, rfl, rfl, hl, hl2, hc, ht, htg, hJ⟩ := I
  unfold wpX_value wpY_value
  rcases hp_nodes t ht v1 v2 with h | ⟨a, m, ha, hm, rfl, rfl⟩
  · exact hp_Xno h (br_t rfl (hp_Yno h (br_f (by decide) ⟨rfl, I2⟩)))
  · have hin : vp_in (nI a * 7 + nI m) 28 := by rw [hp_at]; exact vp_in_nI (by omega) (by omega)
    refine hp_Xyes ht ha hm (br_f (by decide) ⟨hin, hp_Yyes ht ha hm (br_t rfl ⟨hin, ?_⟩)⟩)
    rcases hJ.1 (nI a * 7 + nI m).toNatClampNeg with ⟨e, _, e2⟩ | ⟨e, _⟩ | ⟨q, hq, e, _, e2⟩
    · rw [e, e2]
      exact br_f (by decide) ⟨rfl, I2⟩
    · exact br_t e ⟨hin, rfl, I2⟩
    · rw [e, e2]
      exact br_f (hp_nn hq).2.1 ⟨rfl, I2⟩
theorem i_vc_rows {k : Nat} {u : SX} {v : SY} (I : i_Rel k u v) (hk : k + 3 ≤ 1537) (v1 : Int32) (v2 : Int32) : wpX_rows (fun r => wpY_rows (fun r' => r' = r ∧ i_Rel (k + 3) u v) v v1 v2) u v1 v2 := by
  have I2 : i_Rel (k + 3) u v := I
  obtain ⟨l, c, t, f1, f2, f3, f4, rf, tg, fe, cb, bo, va, sz, re, wh, rfl, rfl, hl, hl2, hc, ht, htg, hJ⟩ := I
  unfold wpX_rows wpY_rows
  rcases hp_nodes t ht v1 v2 with h | ⟨a, m, ha, hm, rfl, rfl⟩
  · exact hp_Xno h (br_t rfl (hp_Yno h (br_f (by decide) ⟨rfl, I2⟩)))
  · have hin : vp_in (nI a * 7 + nI m) 28 := by rw [hp_at]; exact vp_in_nI (by omega) (by omega)
    exact hp_Xyes ht ha hm (br_f (by decide) ⟨hin, hp_Yyes ht ha hm (br_t rfl ⟨hin, rfl, I2⟩)⟩)
