/-! X: setting, splitting, growing, planting, counting leaves -/
theorem hp_Xset {L : Int32} {c t : Nat} {f1 f2 : Int32} {f3 f4 : Int64} {rf tg fe cb va sz re wh : Nat → Int32} {post : SX → Prop} {p v w : Int32} {x : Nat} (hx : x < 28) (e : p = nI x) (H : post (L, (nI c), (nI t), f1, f2, f3, f4, rf, tg, (upd fe x v), (upd cb x w), va, sz, re, wh)) : wpX_setNode post (L, (nI c), (nI t), f1, f2, f3, f4, rf, tg, fe, cb, va, sz, re, wh) p v w := by
  subst e
  have hcl : (nI x).toNatClampNeg = x := nI_clamp (by omega)
  have hin : vp_in (nI x) 28 := vp_in_nI hx (by omega)
  exact ⟨hin, nm_r (by rw [hcl]) ⟨hin, nm_r (by rw [hcl]) H⟩⟩
theorem hp_Xspl6 {L : Int32} {c t : Nat} {f1 f2 : Int32} {f3 f4 : Int64} {rf tg fe cb va sz re wh : Nat → Int32} (hc : c ≤ 24) {post : SX → Prop} {nd l r : Int32} (H : post (L, (nI c), (nI t), f1, f2, f3, f4, rf, tg, fe, cb, va, sz, re, (hp_snd rf nd f1 f2 l r wh c))) : ∀ n i, i ≤ c → c - i < n → wX_splitNode_63 post nd l r L (nI c) (nI t) f1 f2 f3 f4 n (nI i) rf tg fe cb va sz re (hp_snd rf nd f1 f2 l r wh i) := by
  intro n
  induction n with
  | zero => intro i _ h; omega
  | succ n ih =>
    intro i hi hn
    refine pk_le c i (fun h => ?_) (fun h => ?_)
    · have e : i = c := by omega
      rw [e]; exact H
    · have hcl : (nI i).toNatClampNeg = i := nI_clamp (by omega)
      have hin : vp_in (nI i) 24 := vp_in_nI (by omega) (by omega)
      have J := ih (i + 1) (by omega) (by omega)
      simp only [hp_snd] at J
      rw [hcl]
      refine ⟨hin, ?_⟩
      generalize hp_snd rf nd f1 f2 l r wh i = w at J ⊢
      by_cases hw : w i = nd
      · rw [if_pos hw] at J
        refine br_t hw ⟨hin, ?_⟩
        by_cases hb : f2 < hp_fld (rf i) f1
        · rw [if_pos hb] at J
          exact br_t hb ⟨hin, nm_e (nm_r (nI_1 i) J)⟩
        · rw [if_neg hb] at J
          exact br_f hb ⟨hin, nm_e (nm_r (nI_1 i) J)⟩
      · rw [if_neg hw] at J
        exact br_f hw (nm_r (nI_1 i) J)
theorem hp_Xspl {L : Int32} {c t : Nat} {f1 f2 : Int32} {f3 f4 : Int64} {rf tg re : Nat → Int32} {S : hp_T} (hc : c ≤ 24) (ht : t < 4) {k : Nat} (hk : k < 3) {post : SX → Prop} {n : Int32}
    (H : post (L, (nI c), (nI t), f1, f2, f3, f4, rf, tg, (upd (upd (upd S.1 (t * 7 + k) f1) (t * 7 + (2 * k + 1)) (-6)) (t * 7 + (2 * k + 2)) (-6)), (upd (upd (upd S.2.1 (t * 7 + k) f2) (t * 7 + (2 * k + 1)) (-6)) (t * 7 + (2 * k + 2)) (-6)), S.2.2.1, (upd S.2.2.2.1 (t * 7 + k) n), re, (hp_snd rf (nI k) f1 f2 (nI (2 * k + 1)) (nI (2 * k + 2)) S.2.2.2.2 c))) :
    wpX_splitNode post (L, (nI c), (nI t), f1, f2, f3, f4, rf, tg, S.1, S.2.1, S.2.2.1, (upd S.2.2.2.1 (t * 7 + k) n), re, S.2.2.2.2) (nI t) (nI k) := by
  unfold wpX_splitNode
  refine nm_r (hp_c1 k) (nm_r (hp_c2 k) ?_)
  refine hp_Xset (x := t * 7 + k) (by omega) (hp_at t k) ?_
  refine hp_Xset (x := t * 7 + (2 * k + 1)) (by omega) (hp_at t (2 * k + 1)) ?_
  refine hp_Xset (x := t * 7 + (2 * k + 2)) (by omega) (hp_at t (2 * k + 2)) ?_
  exact ⟨c + 1, hp_Xspl6 hc H (c + 1) 0 (Nat.zero_le _) (by omega)⟩
theorem hp_X77 {L : Int32} {c t : Nat} {f1 f2 : Int32} {f3 f4 : Int64} {rf tg fe cb va sz re wh : Nat → Int32} {post : SX → Prop} {n s : Int32} {x : Nat} (hx : x < 28) (H : post (L, (nI c), (nI t), f1, f2, f3, f4, rf, tg, fe, cb, (upd va x (hp_dv n s)), sz, re, wh)) : wX_growNode_77 post (nI x) n s L (nI c) (nI t) f1 f2 f3 f4 rf tg fe cb va sz re wh := by
  have hcl : (nI x).toNatClampNeg = x := nI_clamp (by omega)
  have hin : vp_in (nI x) 28 := vp_in_nI hx (by omega)
  unfold wX_growNode_77
  rw [hcl]
  unfold hp_dv at H
  by_cases h : n = 0
  · rw [if_pos h] at H
    exact br_t h ⟨hin, nm_e H⟩
  · rw [if_neg h] at H
    exact br_f h ⟨h, hin, nm_e H⟩
theorem hp_Xgrow {L : Int32} {c t : Nat} {f1 f2 : Int32} {f3 f4 : Int64} {rf tg re : Nat → Int32} {S : hp_T} (hc : c ≤ 24) (ht : t < 4) {k : Nat} (hk : k < 7) {post : SX → Prop}
    (H : ∀ b1 b2 b3 b4, post (L, (nI c), (nI t), b1, b2, b3, b4, rf, tg, ((hp_xg L c rf re t k S).1), ((hp_xg L c rf re t k S).2.1), ((hp_xg L c rf re t k S).2.2.1), ((hp_xg L c rf re t k S).2.2.2.1), re, ((hp_xg L c rf re t k S).2.2.2.2))) : wpX_growNode post (L, (nI c), (nI t), f1, f2, f3, f4, rf, tg, S.1, S.2.1, S.2.2.1, S.2.2.2.1, re, S.2.2.2.2) (nI t) (nI k) := by
  have hcl : (nI (t * 7 + k)).toNatClampNeg = t * 7 + k := nI_clamp (by omega)
  have hin : vp_in (nI (t * 7 + k)) 28 := vp_in_nI (by omega) (by omega)
  unfold wpX_growNode
  refine nm_r (hp_at t k) ?_
  rw [hcl]
  refine ⟨hin, ?_⟩
  by_cases h : S.1 (t * 7 + k) = -7
  · have e : hp_xg L c rf re t k S = S := if_pos h
    rw [e] at H
    exact br_t h (H f1 f2 f3 f4)
  · have e : hp_xg L c rf re t k S = hp_x2 L c rf re t k (nI (hp_cnt (hp_g S.2.2.2.2 rf (nI k) 0 7) c)) (hp_sm (hp_g S.2.2.2.2 rf (nI k) 0 7) re c) S := if_neg h
    rw [e] at H
    refine br_f h (hp_Xcnt hc (hp_Xsum hc ⟨hin, nm_e ?_⟩))
    generalize nI (hp_cnt (hp_g S.2.2.2.2 rf (nI k) 0 7) c) = n at H ⊢
    generalize hp_sm (hp_g S.2.2.2.2 rf (nI k) 0 7) re c = s at H ⊢
    by_cases h3 : 3 ≤ k
    · have e2 : hp_x2 L c rf re t k n s S = hp_xl (t * 7 + k) n s S := if_pos h3
      rw [e2] at H
      exact br_t (nI_le (a := 3) h3 (by omega)) (hp_X77 (by omega) (H f1 f2 f3 f4))
    · have e2 : hp_x2 L c rf re t k n s S = hp_x3 c rf t k n s (hp_xb L n s c S.2.2.2.2 rf re (nI k) 3) S := if_neg h3
      rw [e2] at H
      refine br_f (nI_ge (b := 3) (by omega) (by decide)) (hp_Xbest hc ?_)
      generalize hp_xb L n s c S.2.2.2.2 rf re (nI k) 3 = B at H ⊢
      by_cases hB : B.1 = -6
      · have e3 : hp_x3 c rf t k n s B S = hp_xl (t * 7 + k) n s S := if_pos hB
        rw [e3] at H
        exact br_t hB (hp_X77 (by omega) (H B.1 B.2.1 B.2.2.1 B.2.2.2))
      · have e3 : hp_x3 c rf t k n s B S = hp_xs c rf t k n B S := if_neg hB
        rw [e3] at H
        exact br_f hB (hp_Xspl hc ht (by omega) (H B.1 B.2.1 B.2.2.1 B.2.2.2))
theorem hp_X19 {L : Int32} {c t : Nat} {f1 f2 : Int32} {f3 f4 : Int64} {rf tg fe cb va sz re wh : Nat → Int32} {post : SX → Prop} {J : Int32 → Int32 → Int32 → Int32 → Int32 → Int32 → Int64 → Int64 → hp_A → hp_A → hp_A → hp_A → hp_A → hp_A → hp_A → hp_A → Prop} {z : Int32} {k : Nat} (ht : t < 4) (hk : k < 7)
    (H : J (nI (k + 1)) L (nI c) (nI t) f1 f2 f3 f4 rf tg (upd fe (t * 7 + k) z) (upd cb (t * 7 + k) z) (upd va (t * 7 + k) 0) (upd sz (t * 7 + k) 0) re wh) : wX_plantTree_19 post J (nI t) (nI k) z L (nI c) (nI t) f1 f2 f3 f4 rf tg fe cb va sz re wh := by
  have hcl : (nI (t * 7 + k)).toNatClampNeg = t * 7 + k := nI_clamp (by omega)
  have hin : vp_in (nI (t * 7 + k)) 28 := vp_in_nI (by omega) (by omega)
  unfold wX_plantTree_19
  rw [hp_at, hcl]
  exact hp_Xset (x := t * 7 + k) (by omega) rfl ⟨hin, nm_e ⟨hin, nm_e (nm_r (nI_1 k) H)⟩⟩
theorem hp_Xpl6 {L : Int32} {c t : Nat} {f1 f2 : Int32} {f3 f4 : Int64} {rf tg fe cb va sz re wh : Nat → Int32} (hc : c ≤ 24) {post : SX → Prop} (H : post (L, (nI c), (nI t), f1, f2, f3, f4, rf, tg, fe, cb, va, sz, re, (hp_pl wh 0 0 0 c))) : ∀ n i, i ≤ c → c - i < n → wX_plantTree_64 post L (nI c) (nI t) f1 f2 f3 f4 n (nI i) rf tg fe cb va sz re (hp_pl wh 0 0 0 i) := by
  intro n
  induction n with
  | zero => intro i _ h; omega
  | succ n ih =>
    intro i hi hn
    refine pk_le c i (fun h => ?_) (fun h => ?_)
    · have e : i = c := by omega
      rw [e]; exact H
    · have hcl : (nI i).toNatClampNeg = i := nI_clamp (by omega)
      have J := ih (i + 1) (by omega) (by omega)
      rw [← hp_plS, Nat.zero_add] at J
      rw [hcl]
      exact ⟨vp_in_nI (by omega) (by omega), nm_e (nm_r (nI_1 i) J)⟩
theorem hp_Xpl2 {L : Int32} {c t : Nat} {f1 f2 : Int32} {f3 f4 : Int64} {rf tg fe cb va sz re wh : Nat → Int32} (hc : c ≤ 24) (ht : t < 4) {post : SX → Prop}
    (H : post (L, (nI c), (nI t), f1, f2, f3, f4, rf, tg, (hp_pl fe (t * 7) (-6) (-7) 7), (hp_pl cb (t * 7) (-6) (-7) 7), (hp_pl va (t * 7) 0 0 7), (hp_pl sz (t * 7) 0 0 7), re, (hp_pl wh 0 0 0 c))) :
    ∀ n k, k ≤ 7 → 7 - k < n → wX_plantTree_2 post (nI t) n (nI k) L (nI c) (nI t) f1 f2 f3 f4 rf tg (hp_pl fe (t * 7) (-6) (-7) k) (hp_pl cb (t * 7) (-6) (-7) k) (hp_pl va (t * 7) 0 0 k) (hp_pl sz (t * 7) 0 0 k) re wh := by
  intro n
  induction n with
  | zero => intro i _ h; omega
  | succ n ih =>
    intro k hk hn
    refine pk_le 7 k (fun h => ?_) (fun h => ?_)
    · have e : k = 7 := by omega
      rw [e]
      have J := hp_Xpl6 hc H (c + 1) 0 (by omega) (by omega)
      rw [hp_pl0] at J
      exact ⟨c + 1, J⟩
    · have J := ih (k + 1) (by omega) (by omega)
      rw [← hp_pls fe, ← hp_pls cb, ← hp_plS va, ← hp_plS sz] at J
      refine pk_eq k 0 (fun h => ?_) (fun h => ?_)
      · rw [if_pos h] at J
        exact hp_X19 ht (by omega) J
      · rw [if_neg h] at J
        exact hp_X19 ht (by omega) J
theorem hp_Xplant {L : Int32} {c t : Nat} {f1 f2 : Int32} {f3 f4 : Int64} {rf tg fe cb va sz re wh : Nat → Int32} (hc : c ≤ 24) (ht : t < 4) {post : SX → Prop}
    (H : post (L, (nI c), (nI t), f1, f2, f3, f4, rf, tg, (hp_pl fe (t * 7) (-6) (-7) 7), (hp_pl cb (t * 7) (-6) (-7) 7), (hp_pl va (t * 7) 0 0 7), (hp_pl sz (t * 7) 0 0 7), re, (hp_pl wh 0 0 0 c))) :
    wpX_plantTree post (L, (nI c), (nI t), f1, f2, f3, f4, rf, tg, fe, cb, va, sz, re, wh) (nI t) := by
  have J := hp_Xpl2 hc ht H 8 0 (by omega) (by omega)
  rw [hp_pl0, hp_pl0, hp_pl0, hp_pl0] at J
  exact ⟨8, J⟩
theorem hp_Xlv4 {L : Int32} {c t : Nat} {f1 f2 : Int32} {f3 f4 : Int64} {rf tg fe cb va sz re wh : Nat → Int32} {T1 : Int32} (ht : t < 4) {post : Int32 → Prop} (H : post (nI (hp_cnt (fun j => decide (fe (t * 7 + j) = -6)) 7))) :
    ∀ n k, k ≤ 7 → 7 - k < n → wX_countLeaves_4 post (nI t) L (nI c) T1 f1 f2 f3 f4 rf tg fe cb va sz re wh n (nI (hp_cnt (fun j => decide (fe (t * 7 + j) = -6)) k)) (nI k) := by
  intro n
  induction n with
  | zero => intro i _ h; omega
  | succ n ih =>
    intro k hk hn
    refine pk_le 7 k (fun h => ?_) (fun h => ?_)
    · have e : k = 7 := by omega
      rw [e]; exact H
    · have hcl : (nI (t * 7 + k)).toNatClampNeg = t * 7 + k := nI_clamp (by omega)
      have J := ih (k + 1) (by omega) (by omega)
      rw [hp_at, hcl]
      refine ⟨vp_in_nI (by omega) (by omega), ?_⟩
      by_cases h6 : fe (t * 7 + k) = -6
      · have e : decide (fe (t * 7 + k) = -6) = true := decide_eq_true h6
        rw [hp_cnt_1 (g := fun j => decide (fe (t * 7 + j) = -6)) e] at J
        exact br_t h6 (nm_r (nI_1 _) (nm_r (nI_1 k) J))
      · have e : ¬ decide (fe (t * 7 + k) = -6) = true := by rw [decide_eq_true_eq]; exact h6
        rw [hp_cnt_0 (g := fun j => decide (fe (t * 7 + j) = -6)) e] at J
        exact br_f h6 (nm_r (nI_1 k) J)
theorem hp_Xlv {L : Int32} {c t : Nat} {f1 f2 : Int32} {f3 f4 : Int64} {rf tg fe cb va sz re wh : Nat → Int32} {T1 : Int32} (ht : t < 4) {post : Int32 → Prop} (H : post (nI (hp_cnt (fun j => decide (fe (t * 7 + j) = -6)) 7))) : wpX_countLeaves post (L, (nI c), T1, f1, f2, f3, f4, rf, tg, fe, cb, va, sz, re, wh) (nI t) :=
  ⟨8, hp_Xlv4 ht H 8 0 (by omega) (by omega)⟩
