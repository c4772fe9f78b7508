/-! Y: settling, predicting, rests, training -/
theorem hp_Yspl {L : Int32} {c t : Nat} {ap tg re : Nat → Int32} {S : hp_T} (hc : c ≤ 24) (ht : t < 4) {k : Nat} (hk : k < 3) {post : SY → Prop}
    (H : post (L, (nI c), (nI t), ap, tg, ((hp_yp L c ap re t k (nI (hp_cnt (hp_g S.2.2.2.2 ap (nI k) 0 7) c)) (hp_sL (hp_g S.2.2.2.2 ap (nI k) 0 7) re c) S).1), ((hp_yp L c ap re t k (nI (hp_cnt (hp_g S.2.2.2.2 ap (nI k) 0 7) c)) (hp_sL (hp_g S.2.2.2.2 ap (nI k) 0 7) re c) S).2.1), ((hp_yp L c ap re t k (nI (hp_cnt (hp_g S.2.2.2.2 ap (nI k) 0 7) c)) (hp_sL (hp_g S.2.2.2.2 ap (nI k) 0 7) re c) S).2.2.1), ((hp_yp L c ap re t k (nI (hp_cnt (hp_g S.2.2.2.2 ap (nI k) 0 7) c)) (hp_sL (hp_g S.2.2.2.2 ap (nI k) 0 7) re c) S).2.2.2.1), re, ((hp_yp L c ap re t k (nI (hp_cnt (hp_g S.2.2.2.2 ap (nI k) 0 7) c)) (hp_sL (hp_g S.2.2.2.2 ap (nI k) 0 7) re c) S).2.2.2.2))) : wpY_split post (L, (nI c), (nI t), ap, tg, S.1, S.2.1, S.2.2.1, S.2.2.2.1, re, S.2.2.2.2) (nI t) (nI k) := by
  unfold wpY_split
  refine hp_Ycnt hc (hp_Ysum hc (nm_e (nm_r (hp_at t k) ?_)))
  unfold hp_yp at H
  exact ⟨4, hp_Yout (S := S) (C := (_, _, S.1, S.2.1)) hc ht hk H 4 0 (by omega) (by omega)⟩
theorem hp_Y52 {L : Int32} {c t : Nat} {ap tg re : Nat → Int32} {S : hp_T} {post : SY → Prop} {n s : Int32} {x : Nat} (hx : x < 28) (H : post (L, (nI c), (nI t), ap, tg, ((hp_yv x n s S).1), ((hp_yv x n s S).2.1), ((hp_yv x n s S).2.2.1), ((hp_yv x n s S).2.2.2.1), re, ((hp_yv x n s S).2.2.2.2))) : wY_settle_52 post (nI x) n s L (nI c) (nI t) ap tg S.1 S.2.1 S.2.2.1 S.2.2.2.1 re S.2.2.2.2 := by
  have hcl : (nI x).toNatClampNeg = x := nI_clamp (by omega)
  have hin : vp_in (nI x) 28 := vp_in_nI hx (by omega)
  unfold wY_settle_52
  rw [hcl]
  refine ⟨hin, ?_⟩
  unfold hp_yv at H
  by_cases h : S.1 x = -6
  · rw [if_pos h] at H
    refine br_t h ?_
    by_cases h2 : n ≤ 0
    · rw [if_pos h2] at H
      exact br_t h2 H
    · rw [if_neg h2] at H
      refine br_f h2 ⟨fun e => h2 (by rw [e]; decide), hin, nm_e H⟩
  · rw [if_neg h] at H
    exact br_f h H
theorem hp_Yset {L : Int32} {c t : Nat} {ap tg re : Nat → Int32} {S : hp_T} (hc : c ≤ 24) (ht : t < 4) {k : Nat} (hk : k < 7) {post : SY → Prop}
    (H : post (L, (nI c), (nI t), ap, tg, ((hp_yst L c ap re t k S).1), ((hp_yst L c ap re t k S).2.1), ((hp_yst L c ap re t k S).2.2.1), ((hp_yst L c ap re t k S).2.2.2.1), re, ((hp_yst L c ap re t k S).2.2.2.2))) : wpY_settle post (L, (nI c), (nI t), ap, tg, S.1, S.2.1, S.2.2.1, S.2.2.2.1, re, S.2.2.2.2) (nI t) (nI k) := by
  have hcl : (nI (t * 7 + k)).toNatClampNeg = t * 7 + k := nI_clamp (by omega)
  have hin : vp_in (nI (t * 7 + k)) 28 := vp_in_nI (by omega) (by omega)
  unfold wpY_settle
  refine nm_r (hp_at t k) (hp_Ycnt hc (hp_Ysum hc ⟨hin, ?_⟩))
  rw [hcl]
  refine nm_e ?_
  unfold hp_yst hp_y2 at H
  by_cases h3 : 3 ≤ k
  · rw [if_pos h3] at H
    exact br_t (nI_le (a := 3) h3 (by omega)) (hp_Y52 (S := hp_sz (t * 7 + k) _ S) (by omega) H)
  · rw [if_neg h3] at H
    refine br_f (nI_ge (b := 3) (by omega) (by decide)) ?_
    by_cases h0 : nI (hp_cnt (hp_g S.2.2.2.2 ap (nI k) 0 7) c) ≤ 0
    · rw [if_pos h0] at H
      exact br_t h0 (hp_Y52 (S := hp_sz (t * 7 + k) _ S) (by omega) H)
    · rw [if_neg h0] at H
      exact br_f h0 (hp_Yspl (S := hp_sz (t * 7 + k) _ S) hc ht (by omega) (hp_Y52 (S := hp_yp L c ap re t k _ _ (hp_sz (t * 7 + k) _ S)) (by omega) H))
theorem hp_Ypt_s {L : Int32} {c t : Nat} {ap tg fe bo va sz re wh : Nat → Int32} {u m lv n : Nat} (hu : u < 4) (hm : m ≤ 2) (hl : lv < 2) {post : Int32 → Prop} {x : Int32}
    (K : wY_leafValue_5 post (nI u) x L (nI c) (nI t) ap tg fe bo va sz re wh n (nI (hp_w fe bo x (u * 7) m)) (nI (lv + 1))) : wY_leafValue_5 post (nI u) x L (nI c) (nI t) ap tg fe bo va sz re wh (n + 1) (nI m) (nI lv) := by
  have hcl : (nI (u * 7 + m)).toNatClampNeg = u * 7 + m := nI_clamp (by omega)
  have hin : vp_in (nI (u * 7 + m)) 28 := vp_in_nI (by omega) (by omega)
  refine br_f (nI_ge (b := 2) hl (by decide)) (nm_r (hp_at u m) (br_f (nI_ge (b := 3) (by omega) (by decide)) ?_))
  rw [hcl]
  refine ⟨hin, ?_⟩
  unfold hp_w at K
  by_cases h : fe (u * 7 + m) < 0
  · rw [if_pos h] at K
    exact br_t h (nm_r (nI_1 lv) K)
  · rw [if_neg h] at K
    refine br_f h ⟨hin, hin, ?_⟩
    by_cases h2 : bo (u * 7 + m) < hp_fld x (fe (u * 7 + m))
    · rw [if_pos h2] at K
      exact br_t h2 (nm_r (hp_c2 m) (nm_r (nI_1 lv) K))
    · rw [if_neg h2] at K
      exact br_f h2 (nm_r (hp_c1 m) (nm_r (nI_1 lv) K))
theorem hp_Ypt {L : Int32} {c t : Nat} {ap tg fe bo va sz re wh : Nat → Int32} {u : Nat} (hu : u < 4) {post : Int32 → Prop} {x : Int32} (H : post (hp_lf fe bo va x (u * 7))) : wpY_leafValue post (L, (nI c), (nI t), ap, tg, fe, bo, va, sz, re, wh) (nI u) x := by
  have h1 := hp_w_le fe bo x (u * 7) 0
  have h2 := hp_w_le fe bo x (u * 7) (hp_w fe bo x (u * 7) 0)
  refine ⟨3, hp_Ypt_s (m := 0) (lv := 0) hu (by omega) (by omega) (hp_Ypt_s (lv := 1) hu (by omega) (by omega) ?_)⟩
  unfold hp_lf at H
  generalize hp_w fe bo x (u * 7) (hp_w fe bo x (u * 7) 0) = m at H h2 ⊢
  have hcl : (nI (u * 7 + m)).toNatClampNeg = u * 7 + m := nI_clamp (by omega)
  refine br_t (nI_le (a := 2) (b := 2) (by omega) (by decide)) ?_
  rw [hp_at, hcl]
  exact ⟨vp_in_nI (by omega) (by omega), H⟩
theorem hp_Ypr4 {L : Int32} {c t : Nat} {ap tg fe bo va sz re wh : Nat → Int32} (ht : t ≤ 4) {post : Int32 → Prop} {x : Int32} (H : post (hp_pr fe bo va x t)) : ∀ n i, i ≤ t → t - i < n → wY_predict_4 post x L (nI c) (nI t) ap tg fe bo va sz re wh n (hp_pr fe bo va x i) (nI i) := by
  intro n
  induction n with
  | zero => intro i _ h; omega
  | succ n ih =>
    intro i hi hn
    refine pk_le t i (fun h => ?_) (fun h => ?_)
    · have e : i = t := by omega
      rw [e]; exact H
    · have J := ih (i + 1) (by omega) (by omega)
      exact hp_Ypt (by omega) (nm_e (nm_r (nI_1 i) J))
theorem hp_Ypr {L : Int32} {c t : Nat} {ap tg fe bo va sz re wh : Nat → Int32} (ht : t ≤ 4) {post : Int32 → Prop} {x : Int32} (H : post (hp_pr fe bo va x t)) : wpY_predict post (L, (nI c), (nI t), ap, tg, fe, bo, va, sz, re, wh) x :=
  ⟨t + 1, hp_Ypr4 ht H (t + 1) 0 (by omega) (by omega)⟩
theorem hp_Yrest {L : Int32} {c t : Nat} {ap tg fe bo va sz re wh : Nat → Int32} (hc : c ≤ 24) (ht : t ≤ 4) {post : Int32 → Prop} {i : Nat} (hi : i < c) (H : post (tg i - hp_pr fe bo va (ap i) t)) : wpY_rest post (L, (nI c), (nI t), ap, tg, fe, bo, va, sz, re, wh) (nI i) := by
  have hcl : (nI i).toNatClampNeg = i := nI_clamp (by omega)
  have hin : vp_in (nI i) 24 := vp_in_nI (by omega) (by omega)
  unfold wpY_rest
  refine br_f (nI_pos (by omega)) (br_t (nI_lt hi (by omega)) ⟨hin, hin, ?_⟩)
  rw [hcl]
  exact hp_Ypr ht H
theorem hp_Yrest0 {L : Int32} {c t : Nat} {ap tg fe bo va sz re wh : Nat → Int32} (ht : t ≤ 4) {post : Int32 → Prop} {p : Int32} (hp : p < 0 ∨ nI c ≤ p) (H : post 0) : wpY_rest post (L, (nI c), (nI t), ap, tg, fe, bo, va, sz, re, wh) p := by
  unfold wpY_rest
  by_cases h : p < 0
  · exact br_t h H
  · have h2 : nI c ≤ p := hp.resolve_left h
    exact br_f h (br_f (Int32.not_lt.mpr h2) H)
theorem hp_Yls4 {L : Int32} {c t : Nat} {ap tg fe bo va sz re wh : Nat → Int32} (hc : c ≤ 24) (ht : t ≤ 4) {post : Int32 → Prop} (H : post (hp_ls fe bo va ap tg t c)) : ∀ n i, i ≤ c → c - i < n → wY_loss_4 post L (nI c) (nI t) ap tg fe bo va sz re wh n (hp_ls fe bo va ap tg t i) (nI i) := by
  intro n
  induction n with
  | zero => intro i _ h; omega
  | succ n ih =>
    intro i hi hn
    refine pk_le c i (fun h => ?_) (fun h => ?_)
    · have e : i = c := by omega
      rw [e]; exact H
    · have J := ih (i + 1) (by omega) (by omega)
      exact hp_Yrest hc ht (by omega) (nm_e (nm_r (nI_1 i) J))
theorem hp_Yls {L : Int32} {c t : Nat} {ap tg fe bo va sz re wh : Nat → Int32} (hc : c ≤ 24) (ht : t ≤ 4) {post : Int32 → Prop} (H : post (hp_ls fe bo va ap tg t c)) : wpY_loss post (L, (nI c), (nI t), ap, tg, fe, bo, va, sz, re, wh) :=
  ⟨c + 1, hp_Yls4 hc ht H (c + 1) 0 (by omega) (by omega)⟩
theorem hp_Ytr107 {L : Int32} {c t : Nat} {ap tg re : Nat → Int32} {S : hp_T} (hc : c ≤ 24) (ht : t < 4) {post : Int32 → SY → Prop}
    (H : post (nI (hp_cnt (hp_yl L c ap re t S) 7)) (L, (nI c), (nI (t + 1)), ap, tg, ((hp_yP L c ap re t S 7).1), ((hp_yP L c ap re t S 7).2.1), ((hp_yP L c ap re t S 7).2.2.1), ((hp_yP L c ap re t S 7).2.2.2.1), re, ((hp_yP L c ap re t S 7).2.2.2.2))) :
    ∀ n k, k ≤ 7 → 7 - k < n → wY_train_107 post (nI (t * 7)) n (nI (hp_cnt (hp_yl L c ap re t S) k)) (nI k) L (nI c) (nI t) ap tg ((hp_yP L c ap re t S k).1) ((hp_yP L c ap re t S k).2.1) ((hp_yP L c ap re t S k).2.2.1) ((hp_yP L c ap re t S k).2.2.2.1) re ((hp_yP L c ap re t S k).2.2.2.2) := by
  intro n
  induction n with
  | zero => intro i _ h; omega
  | succ n ih =>
    intro k hk hn
    refine pk_le 7 k (fun h => ?_) (fun h => ?_)
    · have e : k = 7 := by omega
      rw [e]
      exact nm_r (nI_1 t) H
    · have hcl : (nI (t * 7 + k)).toNatClampNeg = t * 7 + k := nI_clamp (by omega)
      have hin : vp_in (nI (t * 7 + k)) 28 := vp_in_nI (by omega) (by omega)
      have J := ih (k + 1) (by omega) (by omega)
      rw [nI_add, hcl]
      refine ⟨hin, ?_⟩
      by_cases h6 : (hp_yP L c ap re t S k).1 (t * 7 + k) = -6
      · have e : hp_yP L c ap re t S (k + 1) = hp_yst L c ap re t k (hp_yP L c ap re t S k) := if_pos h6
        have e2 : hp_yl L c ap re t S k = decide ((hp_yst L c ap re t k (hp_yP L c ap re t S k)).1 (t * 7 + k) = -6) := by unfold hp_yl; rw [e]
        rw [e] at J
        refine br_t h6 (hp_Yset hc ht h ⟨hin, ?_⟩)
        by_cases h7 : (hp_yst L c ap re t k (hp_yP L c ap re t S k)).1 (t * 7 + k) = -6
        · rw [hp_cnt_1 (e2.trans (decide_eq_true h7))] at J
          exact br_t h7 (nm_r (nI_1 _) (nm_r (nI_1 k) J))
        · rw [hp_cnt_0 (fun z => h7 (of_decide_eq_true (e2.symm.trans z)))] at J
          exact br_f h7 (nm_r (nI_1 k) J)
      · have e : hp_yP L c ap re t S (k + 1) = hp_yP L c ap re t S k := if_neg h6
        have e2 : hp_yl L c ap re t S k = decide ((hp_yP L c ap re t S k).1 (t * 7 + k) = -6) := by unfold hp_yl; rw [e]
        rw [e, hp_cnt_0 (fun z => h6 (of_decide_eq_true (e2.symm.trans z)))] at J
        exact br_f h6 (nm_r (nI_1 k) J)
theorem hp_Ytr55 {L : Int32} {c t : Nat} {ap tg fe bo va sz re wh : Nat → Int32} {ww : hp_A} (hc : c ≤ 24) (ht : t < 4) {post : Int32 → SY → Prop} (hw : hp_pl wh 0 0 0 c = ww)
    (H : post (nI (hp_cnt (hp_yl L c ap re t (hp_st fe bo va sz wh c t false)) 7)) (L, (nI c), (nI (t + 1)), ap, tg, ((hp_yP L c ap re t (hp_st fe bo va sz wh c t false) 7).1), ((hp_yP L c ap re t (hp_st fe bo va sz wh c t false) 7).2.1), ((hp_yP L c ap re t (hp_st fe bo va sz wh c t false) 7).2.2.1), ((hp_yP L c ap re t (hp_st fe bo va sz wh c t false) 7).2.2.2.1), re, ((hp_yP L c ap re t (hp_st fe bo va sz wh c t false) 7).2.2.2.2))) :
    ∀ n k, k ≤ 7 → 7 - k < n → wY_train_55 post (nI (t * 7)) L (nI c) (nI t) n (nI k) ap tg (hp_pl fe (t * 7) (-7) (-7) k) bo (hp_pl va (t * 7) 0 0 k) (hp_pl sz (t * 7) 0 0 k) re ww := by
  intro n
  induction n with
  | zero => intro i _ h; omega
  | succ n ih =>
    intro k hk hn
    refine pk_le 7 k (fun h => ?_) (fun h => ?_)
    · have e : k = 7 := by omega
      rw [e]
      have hcl : (nI (t * 7)).toNatClampNeg = t * 7 := nI_clamp (by omega)
      rw [hcl]
      refine ⟨vp_in_nI (by omega) (by omega), nm_r (hp_plu fe (t * 7) (-6) (-7) 7 (by omega)) ?_⟩
      subst hw
      exact ⟨8, hp_Ytr107 (S := hp_st fe bo va sz wh c t false) hc ht H 8 0 (by omega) (by omega)⟩
    · have hcl : (nI (t * 7 + k)).toNatClampNeg = t * 7 + k := nI_clamp (by omega)
      have hin : vp_in (nI (t * 7 + k)) 28 := vp_in_nI (by omega) (by omega)
      have J := ih (k + 1) (by omega) (by omega)
      rw [← hp_plS fe, ← hp_plS va, ← hp_plS sz] at J
      rw [nI_add, hcl]
      exact ⟨hin, nm_e ⟨hin, nm_e ⟨hin, nm_e (nm_r (nI_1 k) J)⟩⟩⟩
theorem hp_Ytr13 {L : Int32} {c t : Nat} {ap tg fe bo va sz re wh : Nat → Int32} (hc : c ≤ 24) (ht : t < 4) {post : Int32 → SY → Prop}
    (H : post (nI (hp_cnt (hp_yl L c ap (hp_rs fe bo va ap tg t re c) t (hp_st fe bo va sz wh c t false)) 7)) (L, (nI c), (nI (t + 1)), ap, tg, ((hp_yP L c ap (hp_rs fe bo va ap tg t re c) t (hp_st fe bo va sz wh c t false) 7).1), ((hp_yP L c ap (hp_rs fe bo va ap tg t re c) t (hp_st fe bo va sz wh c t false) 7).2.1), ((hp_yP L c ap (hp_rs fe bo va ap tg t re c) t (hp_st fe bo va sz wh c t false) 7).2.2.1), ((hp_yP L c ap (hp_rs fe bo va ap tg t re c) t (hp_st fe bo va sz wh c t false) 7).2.2.2.1), (hp_rs fe bo va ap tg t re c), ((hp_yP L c ap (hp_rs fe bo va ap tg t re c) t (hp_st fe bo va sz wh c t false) 7).2.2.2.2))) :
    ∀ n i, i ≤ c → c - i < n → wY_train_13 post L (nI c) (nI t) n (nI i) ap tg fe bo va sz (hp_rs fe bo va ap tg t re i) (hp_pl wh 0 0 0 i) := by
  intro n
  induction n with
  | zero => intro i _ h; omega
  | succ n ih =>
    intro i hi hn
    refine pk_le c i (fun h => ?_) (fun h => ?_)
    · have e : i = c := by omega
      rw [e]
      have e7 : nI t * 7 = nI (t * 7) := pk_mul t 7
      refine nm_r e7 ?_
      have J := hp_Ytr55 (wh := wh) hc ht rfl H 8 0 (by omega) (by omega)
      rw [hp_pl0 fe, hp_pl0 va, hp_pl0 sz] at J
      exact ⟨8, J⟩
    · have hcl : (nI i).toNatClampNeg = i := nI_clamp (by omega)
      have hin : vp_in (nI i) 24 := vp_in_nI (by omega) (by omega)
      have J := ih (i + 1) (by omega) (by omega)
      simp only [hp_rs] at J
      rw [← hp_plS wh, Nat.zero_add] at J
      refine hp_Yrest hc (by omega) h ⟨hin, ?_⟩
      rw [hcl]
      exact nm_e ⟨hin, nm_e (nm_r (nI_1 i) J)⟩
theorem hp_Ytr {L : Int32} {c t : Nat} {ap tg fe bo va sz re wh : Nat → Int32} (hc : c ≤ 24) (ht : t < 4) {post : Int32 → SY → Prop}
    (H : post (nI (hp_cnt (hp_yl L c ap (hp_rs fe bo va ap tg t re c) t (hp_st fe bo va sz wh c t false)) 7)) (L, (nI c), (nI (t + 1)), ap, tg, ((hp_yP L c ap (hp_rs fe bo va ap tg t re c) t (hp_st fe bo va sz wh c t false) 7).1), ((hp_yP L c ap (hp_rs fe bo va ap tg t re c) t (hp_st fe bo va sz wh c t false) 7).2.1), ((hp_yP L c ap (hp_rs fe bo va ap tg t re c) t (hp_st fe bo va sz wh c t false) 7).2.2.1), ((hp_yP L c ap (hp_rs fe bo va ap tg t re c) t (hp_st fe bo va sz wh c t false) 7).2.2.2.1), (hp_rs fe bo va ap tg t re c), ((hp_yP L c ap (hp_rs fe bo va ap tg t re c) t (hp_st fe bo va sz wh c t false) 7).2.2.2.2))) :
    wpY_train post (L, (nI c), (nI t), ap, tg, fe, bo, va, sz, re, wh) := by
  unfold wpY_train
  have J := hp_Ytr13 hc ht H (c + 1) 0 (by omega) (by omega)
  rw [hp_pl0] at J
  have h4 : ¬ nI t = 4 := fun z => by
    have h := (nI_eq (a := t) (b := 4) (by omega) (by decide)).mp z
    omega
  exact br_f h4 ⟨c + 1, J⟩
