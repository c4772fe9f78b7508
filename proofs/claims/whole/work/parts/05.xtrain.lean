/-! X: predicting, rests, training -/
theorem hp_Xpt_s {L : Int32} {c t : Nat} {f1 f2 : Int32} {f3 f4 : Int64} {rf tg fe cb va sz re wh : Nat → Int32} {u m lv n : Nat} (hu : u < 4) (hm : m ≤ 2) (hl : lv < 2) {post : Int32 → Prop} {x : Int32}
    (K : wX_predictByTree_5 post (nI u) x L (nI c) (nI t) f1 f2 f3 f4 rf tg fe cb va sz re wh n (nI (hp_w fe cb x (u * 7) m)) (nI (lv + 1))) : wX_predictByTree_5 post (nI u) x L (nI c) (nI t) f1 f2 f3 f4 rf tg fe cb va sz re wh (n + 1) (nI m) (nI lv) := by
  have hcl : (nI (u * 7 + m)).toNatClampNeg = u * 7 + m := nI_clamp (by omega)
  have hin : vp_in (nI (u * 7 + m)) 28 := vp_in_nI (by omega) (by omega)
  refine br_f (nI_ge (b := 2) hl (by decide)) (nm_r (hp_at u m) ?_)
  rw [hcl]
  refine ⟨hin, nm_e ?_⟩
  unfold hp_w at K
  by_cases h : fe (u * 7 + m) < 0
  · rw [if_pos h] at K
    exact br_t h (nm_r (nI_1 lv) K)
  · rw [if_neg h] at K
    refine br_f h ⟨hin, ?_⟩
    by_cases h2 : cb (u * 7 + m) < hp_fld x (fe (u * 7 + m))
    · rw [if_pos h2] at K
      exact br_t h2 (nm_r (hp_c2 m) (nm_r (nI_1 lv) K))
    · rw [if_neg h2] at K
      exact br_f h2 (nm_r (hp_c1 m) (nm_r (nI_1 lv) K))
theorem hp_Xpt {L : Int32} {c t : Nat} {f1 f2 : Int32} {f3 f4 : Int64} {rf tg fe cb va sz re wh : Nat → Int32} {u : Nat} (hu : u < 4) {post : Int32 → Prop} {x : Int32} (H : post (hp_lf fe cb va x (u * 7))) : wpX_predictByTree post (L, (nI c), (nI t), f1, f2, f3, f4, rf, tg, fe, cb, va, sz, re, wh) (nI u) x := by
  have h1 := hp_w_le fe cb x (u * 7) 0
  have h2 := hp_w_le fe cb x (u * 7) (hp_w fe cb x (u * 7) 0)
  refine ⟨3, hp_Xpt_s (m := 0) (lv := 0) hu (by omega) (by omega) (hp_Xpt_s (lv := 1) hu (by omega) (by omega) ?_)⟩
  unfold hp_lf at H
  generalize hp_w fe cb x (u * 7) (hp_w fe cb x (u * 7) 0) = m at H h2 ⊢
  have hcl : (nI (u * 7 + m)).toNatClampNeg = u * 7 + m := nI_clamp (by omega)
  refine br_t (nI_le (a := 2) (b := 2) (by omega) (by decide)) ?_
  rw [hp_at, hcl]
  exact ⟨vp_in_nI (by omega) (by omega), H⟩
theorem hp_Xpr4 {L : Int32} {c t : Nat} {f1 f2 : Int32} {f3 f4 : Int64} {rf tg fe cb va sz re wh : Nat → Int32} (ht : t ≤ 4) {post : Int32 → Prop} {x : Int32} (H : post (hp_pr fe cb va x t)) : ∀ n i, i ≤ t → t - i < n → wX_predict_4 post x L (nI c) (nI t) f1 f2 f3 f4 rf tg fe cb va sz re wh n (hp_pr fe cb va x i) (nI i) := by
  intro n
  induction n with
  | zero => intro i _ h; omega
  | succ n ih =>
    intro i hi hn
    refine pk_le t i (fun h => ?_) (fun h => ?_)
    · have e : i = t := by omega
      rw [e]; exact H
    · have J := ih (i + 1) (by omega) (by omega)
      exact hp_Xpt (by omega) (nm_e (nm_r (nI_1 i) J))
theorem hp_Xpr {L : Int32} {c t : Nat} {f1 f2 : Int32} {f3 f4 : Int64} {rf tg fe cb va sz re wh : Nat → Int32} (ht : t ≤ 4) {post : Int32 → Prop} {x : Int32} (H : post (hp_pr fe cb va x t)) : wpX_predict post (L, (nI c), (nI t), f1, f2, f3, f4, rf, tg, fe, cb, va, sz, re, wh) x :=
  ⟨t + 1, hp_Xpr4 ht H (t + 1) 0 (by omega) (by omega)⟩
theorem hp_Xrest {L : Int32} {c t : Nat} {f1 f2 : Int32} {f3 f4 : Int64} {rf tg fe cb va sz re wh : Nat → Int32} (hc : c ≤ 24) (ht : t ≤ 4) {post : Int32 → Prop} {i : Nat} (hi : i < c) (H : post (tg i - hp_pr fe cb va (rf i) t)) : wpX_rest post (L, (nI c), (nI t), f1, f2, f3, f4, rf, tg, fe, cb, va, sz, re, wh) (nI i) := by
  have hcl : (nI i).toNatClampNeg = i := nI_clamp (by omega)
  have hin : vp_in (nI i) 24 := vp_in_nI (by omega) (by omega)
  unfold wpX_rest
  refine br_f (nI_pos (by omega)) (br_f (nI_ge hi (by omega)) (br_f (by decide) ⟨hin, hin, ?_⟩))
  rw [hcl]
  exact hp_Xpr ht H
theorem hp_Xrest0 {L : Int32} {c t : Nat} {f1 f2 : Int32} {f3 f4 : Int64} {rf tg fe cb va sz re wh : Nat → Int32} (ht : t ≤ 4) {post : Int32 → Prop} {p : Int32} (hp : p < 0 ∨ nI c ≤ p) (H : post 0) : wpX_rest post (L, (nI c), (nI t), f1, f2, f3, f4, rf, tg, fe, cb, va, sz, re, wh) p := by
  unfold wpX_rest
  by_cases h : p < 0
  · exact br_t h (br_t rfl H)
  · have h2 : nI c ≤ p := hp.resolve_left h
    exact br_f h (br_t h2 (br_t rfl H))
theorem hp_Xls4 {L : Int32} {c t : Nat} {f1 f2 : Int32} {f3 f4 : Int64} {rf tg fe cb va sz re wh : Nat → Int32} (hc : c ≤ 24) (ht : t ≤ 4) {post : Int32 → Prop} (H : post (hp_ls fe cb va rf tg t c)) : ∀ n i, i ≤ c → c - i < n → wX_loss_4 post L (nI c) (nI t) f1 f2 f3 f4 rf tg fe cb va sz re wh n (hp_ls fe cb va rf tg t i) (nI i) := by
  intro n
  induction n with
  | zero => intro i _ h; omega
  | succ n ih =>
    intro i hi hn
    refine pk_le c i (fun h => ?_) (fun h => ?_)
    · have e : i = c := by omega
      rw [e]; exact H
    · have J := ih (i + 1) (by omega) (by omega)
      exact hp_Xrest hc ht (by omega) (nm_e (nm_r (nI_1 i) J))
theorem hp_Xls {L : Int32} {c t : Nat} {f1 f2 : Int32} {f3 f4 : Int64} {rf tg fe cb va sz re wh : Nat → Int32} (hc : c ≤ 24) (ht : t ≤ 4) {post : Int32 → Prop} (H : post (hp_ls fe cb va rf tg t c)) : wpX_loss post (L, (nI c), (nI t), f1, f2, f3, f4, rf, tg, fe, cb, va, sz, re, wh) :=
  ⟨c + 1, hp_Xls4 hc ht H (c + 1) 0 (by omega) (by omega)⟩
theorem hp_Xtr50 {L : Int32} {c t : Nat} {rf tg re : hp_A} {S : hp_T} (hc : c ≤ 24) (ht : t < 4) {post : Int32 → SX → Prop}
    (H : ∀ b1 b2 b3 b4, post (nI (hp_cnt (fun j => decide ((hp_xP L c rf re t S 7).1 (t * 7 + j) = -6)) 7)) (L, (nI c), (nI (t + 1)), b1, b2, b3, b4, rf, tg, ((hp_xP L c rf re t S 7).1), ((hp_xP L c rf re t S 7).2.1), ((hp_xP L c rf re t S 7).2.2.1), ((hp_xP L c rf re t S 7).2.2.2.1), re, ((hp_xP L c rf re t S 7).2.2.2.2))) :
    ∀ n k, k ≤ 7 → 7 - k < n → ∀ b1 b2 b3 b4, wX_train_50 post (nI t) n (nI k) L (nI c) (nI t) b1 b2 b3 b4 rf tg ((hp_xP L c rf re t S k).1) ((hp_xP L c rf re t S k).2.1) ((hp_xP L c rf re t S k).2.2.1) ((hp_xP L c rf re t S k).2.2.2.1) re ((hp_xP L c rf re t S k).2.2.2.2) := by
  intro n
  induction n with
  | zero => intro i _ h; omega
  | succ n ih =>
    intro k hk hn b1 b2 b3 b4
    refine pk_le 7 k (fun h => ?_) (fun h => ?_)
    · have e : k = 7 := by omega
      rw [e]
      exact nm_r (nI_1 t) (hp_Xlv ht (H b1 b2 b3 b4))
    · have J := ih (k + 1) (by omega) (by omega)
      simp only [hp_xP] at J
      exact hp_Xgrow hc ht (by omega) (fun b1 b2 b3 b4 => nm_r (nI_1 k) (J b1 b2 b3 b4))
/-- the state in which the growing begins -/
def hp_st (fe bo va sz wh : hp_A) (c t : Nat) (z : Bool) : hp_T :=
  (hp_pl fe (t * 7) (-6) (-7) 7, (if z = true then hp_pl bo (t * 7) (-6) (-7) 7 else bo), hp_pl va (t * 7) 0 0 7, hp_pl sz (t * 7) 0 0 7, hp_pl wh 0 0 0 c)
theorem hp_Xtr18 {L : Int32} {c t : Nat} {f1 f2 : Int32} {f3 f4 : Int64} {rf tg fe cb va sz re wh : Nat → Int32} (hc : c ≤ 24) (ht : t < 4) {post : Int32 → SX → Prop}
    (H : ∀ b1 b2 b3 b4, post (nI (hp_cnt (fun j => decide ((hp_xP L c rf (hp_rs fe cb va rf tg t re c) t (hp_st fe cb va sz wh c t true) 7).1 (t * 7 + j) = -6)) 7)) (L, (nI c), (nI (t + 1)), b1, b2, b3, b4, rf, tg, ((hp_xP L c rf (hp_rs fe cb va rf tg t re c) t (hp_st fe cb va sz wh c t true) 7).1), ((hp_xP L c rf (hp_rs fe cb va rf tg t re c) t (hp_st fe cb va sz wh c t true) 7).2.1), ((hp_xP L c rf (hp_rs fe cb va rf tg t re c) t (hp_st fe cb va sz wh c t true) 7).2.2.1), ((hp_xP L c rf (hp_rs fe cb va rf tg t re c) t (hp_st fe cb va sz wh c t true) 7).2.2.2.1), (hp_rs fe cb va rf tg t re c), ((hp_xP L c rf (hp_rs fe cb va rf tg t re c) t (hp_st fe cb va sz wh c t true) 7).2.2.2.2))) :
    ∀ n i, i ≤ c → c - i < n → wX_train_18 post (nI t) L (nI c) (nI t) f1 f2 f3 f4 n (nI i) rf tg fe cb va sz (hp_rs fe cb va rf tg t re i) wh := by
  intro n
  induction n with
  | zero => intro i _ h; omega
  | succ n ih =>
    intro i hi hn
    refine pk_le c i (fun h => ?_) (fun h => ?_)
    · have e : i = c := by omega
      rw [e]
      refine hp_Xplant hc ht ?_
      exact ⟨8, hp_Xtr50 hc ht H 8 0 (by omega) (by omega) f1 f2 f3 f4⟩
    · have hcl : (nI i).toNatClampNeg = i := nI_clamp (by omega)
      have J := ih (i + 1) (by omega) (by omega)
      simp only [hp_rs] at J
      refine hp_Xrest hc (by omega) h ⟨vp_in_nI (by omega) (by omega), ?_⟩
      rw [hcl]
      exact nm_e (nm_r (nI_1 i) J)
theorem hp_Xtr {L : Int32} {c t : Nat} {f1 f2 : Int32} {f3 f4 : Int64} {rf tg fe cb va sz re wh : Nat → Int32} (hc : c ≤ 24) (ht : t < 4) {post : Int32 → SX → Prop}
    (H : ∀ b1 b2 b3 b4, post (nI (hp_cnt (fun j => decide ((hp_xP L c rf (hp_rs fe cb va rf tg t re c) t (hp_st fe cb va sz wh c t true) 7).1 (t * 7 + j) = -6)) 7)) (L, (nI c), (nI (t + 1)), b1, b2, b3, b4, rf, tg, ((hp_xP L c rf (hp_rs fe cb va rf tg t re c) t (hp_st fe cb va sz wh c t true) 7).1), ((hp_xP L c rf (hp_rs fe cb va rf tg t re c) t (hp_st fe cb va sz wh c t true) 7).2.1), ((hp_xP L c rf (hp_rs fe cb va rf tg t re c) t (hp_st fe cb va sz wh c t true) 7).2.2.1), ((hp_xP L c rf (hp_rs fe cb va rf tg t re c) t (hp_st fe cb va sz wh c t true) 7).2.2.2.1), (hp_rs fe cb va rf tg t re c), ((hp_xP L c rf (hp_rs fe cb va rf tg t re c) t (hp_st fe cb va sz wh c t true) 7).2.2.2.2))) :
    wpX_train post (L, (nI c), (nI t), f1, f2, f3, f4, rf, tg, fe, cb, va, sz, re, wh) := by
  unfold wpX_train
  exact br_t (nI_lt (b := 4) ht (by decide)) ⟨c + 1, hp_Xtr18 hc ht H (c + 1) 0 (by omega) (by omega)⟩
