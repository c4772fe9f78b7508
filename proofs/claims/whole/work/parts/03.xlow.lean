/-! X: counting, summing, offering, the best split -/
theorem hp_Xcnt6 {L : Int32} {c t : Nat} {f1 f2 : Int32} {f3 f4 : Int64} {rf tg fe cb va sz re wh : Nat → Int32} (hc : c ≤ 24) {post : Int32 → Prop} {nd fx b : Int32} (H : post (nI (hp_cnt (hp_g wh rf nd fx b) c))) : ∀ n i, i ≤ c → c - i < n → wX_countLeft_6 post nd fx b L (nI c) (nI t) f1 f2 f3 f4 rf tg fe cb va sz re wh n (nI (hp_cnt (hp_g wh rf nd fx b) i)) (nI i) := by
  intro n
  induction n with
  | zero => intro i _ h; omega
  | succ n ih =>
    intro i hi hn
    refine pk_le c i (fun h => ?_) (fun h => ?_)
    · have e : i = c := by omega
      rw [e]; exact H
    · have hcl : (nI i).toNatClampNeg = i := nI_clamp (by omega)
      have hin : vp_in (nI i) 24 := vp_in_nI (by omega) (by omega)
      have J := ih (i + 1) (by omega) (by omega)
      rw [hcl]
      refine ⟨hin, ?_⟩
      by_cases hw : wh i = nd
      · refine br_t hw ⟨hin, ?_⟩
        by_cases hb : b < hp_fld (rf i) fx
        · refine br_t hb (nm_r (nI_1 i) ?_)
          rw [hp_cnt_0 (hp_g_f hb)] at J
          exact J
        · exact br_f hb (nm_r (hp_n1 (hp_g_t hw hb)) (nm_r (nI_1 i) J))
      · refine br_f hw (nm_r (nI_1 i) ?_)
        rw [hp_cnt_0 (hp_g_n hw)] at J
        exact J
theorem hp_Xcnt {L : Int32} {c t : Nat} {f1 f2 : Int32} {f3 f4 : Int64} {rf tg fe cb va sz re wh : Nat → Int32} (hc : c ≤ 24) {post : Int32 → Prop} {nd fx b : Int32} (H : post (nI (hp_cnt (hp_g wh rf nd fx b) c))) : wpX_countLeft post (L, (nI c), (nI t), f1, f2, f3, f4, rf, tg, fe, cb, va, sz, re, wh) nd fx b :=
  ⟨c + 1, hp_Xcnt6 hc H (c + 1) 0 (Nat.zero_le _) (by omega)⟩
theorem hp_Xsum6 {L : Int32} {c t : Nat} {f1 f2 : Int32} {f3 f4 : Int64} {rf tg fe cb va sz re wh : Nat → Int32} (hc : c ≤ 24) {post : Int32 → Prop} {nd fx b : Int32} (H : post (hp_sm (hp_g wh rf nd fx b) re c)) : ∀ n i, i ≤ c → c - i < n → wX_sumLeft_6 post nd fx b L (nI c) (nI t) f1 f2 f3 f4 rf tg fe cb va sz re wh n (hp_sm (hp_g wh rf nd fx b) re i) (nI i) := by
  intro n
  induction n with
  | zero => intro i _ h; omega
  | succ n ih =>
    intro i hi hn
    refine pk_le c i (fun h => ?_) (fun h => ?_)
    · have e : i = c := by omega
      rw [e]; exact H
    · have hcl : (nI i).toNatClampNeg = i := nI_clamp (by omega)
      have hin : vp_in (nI i) 24 := vp_in_nI (by omega) (by omega)
      have J := ih (i + 1) (by omega) (by omega)
      rw [hcl]
      refine ⟨hin, ?_⟩
      by_cases hw : wh i = nd
      · refine br_t hw ⟨hin, ?_⟩
        by_cases hb : b < hp_fld (rf i) fx
        · refine br_t hb (nm_r (nI_1 i) ?_)
          rw [hp_sm_0 (hp_g_f hb)] at J
          exact J
        · exact br_f hb ⟨hin, nm_r (hp_sm_1 (hp_g_t hw hb)).symm (nm_r (nI_1 i) J)⟩
      · refine br_f hw (nm_r (nI_1 i) ?_)
        rw [hp_sm_0 (hp_g_n hw)] at J
        exact J
theorem hp_Xsum {L : Int32} {c t : Nat} {f1 f2 : Int32} {f3 f4 : Int64} {rf tg fe cb va sz re wh : Nat → Int32} (hc : c ≤ 24) {post : Int32 → Prop} {nd fx b : Int32} (H : post (hp_sm (hp_g wh rf nd fx b) re c)) : wpX_sumLeft post (L, (nI c), (nI t), f1, f2, f3, f4, rf, tg, fe, cb, va, sz, re, wh) nd fx b :=
  ⟨c + 1, hp_Xsum6 hc H (c + 1) 0 (Nat.zero_le _) (by omega)⟩
theorem hp_Xoff {L : Int32} {c t : Nat} {rf tg fe cb va sz re wh : Nat → Int32} {post : SX → Prop} {B : hp_B} {fx b nl sl nr sr : Int32} (H : post (L, (nI c), (nI t), ((hp_of fx b nl sl nr sr B).1), ((hp_of fx b nl sl nr sr B).2.1), ((hp_of fx b nl sl nr sr B).2.2.1), ((hp_of fx b nl sl nr sr B).2.2.2), rf, tg, fe, cb, va, sz, re, wh)) :
    wpX_offerSplit post (L, (nI c), (nI t), B.1, B.2.1, B.2.2.1, B.2.2.2, rf, tg, fe, cb, va, sz, re, wh) fx b nl sl nr sr := by
  unfold hp_of at H
  refine nm_e (nm_e (nm_e ?_))
  by_cases h : (hp_d nl sl nr sr * hp_d nl sl nr sr) * B.2.2.2 ≤ B.2.2.1 * (nl.toInt64 * nr.toInt64)
  · rw [if_pos h] at H
    exact br_t h H
  · rw [if_neg h] at H
    exact br_f h H
theorem hp_Xin {L : Int32} {c t : Nat} {rf tg fe cb va sz re wh : Nat → Int32} (hc : c ≤ 24) {post : SX → Prop} {J : Int32 → Int32 → Int32 → Int32 → Int32 → Int32 → Int64 → Int64 → hp_A → hp_A → hp_A → hp_A → hp_A → hp_A → hp_A → hp_A → Prop} {nd n s fx : Int32} {B : hp_B}
    (H : J (fx + 1) L (nI c) (nI t) ((hp_xi L n s c wh rf re nd fx B 7).1) ((hp_xi L n s c wh rf re nd fx B 7).2.1) ((hp_xi L n s c wh rf re nd fx B 7).2.2.1) ((hp_xi L n s c wh rf re nd fx B 7).2.2.2) rf tg fe cb va sz re wh) :
    ∀ m j, j ≤ 7 → 7 - j < m → wX_findBestSplit_34 post J nd n s fx m (nI j) L (nI c) (nI t) ((hp_xi L n s c wh rf re nd fx B j).1) ((hp_xi L n s c wh rf re nd fx B j).2.1) ((hp_xi L n s c wh rf re nd fx B j).2.2.1) ((hp_xi L n s c wh rf re nd fx B j).2.2.2) rf tg fe cb va sz re wh := by
  intro m
  induction m with
  | zero => intro j _ h; omega
  | succ m ih =>
    intro j hj hm
    refine pk_le 7 j (fun h => ?_) (fun h => ?_)
    · have e : j = 7 := by omega
      rw [e]; exact nm_e H
    · have K := ih (j + 1) (by omega) (by omega)
      simp only [hp_xi] at K
      refine hp_Xcnt hc (hp_Xsum hc ?_)
      generalize hnl : nI (hp_cnt (hp_g wh rf nd fx (nI j)) c) = nl at K ⊢
      generalize hsl : hp_sm (hp_g wh rf nd fx (nI j)) re c = sl at K ⊢
      generalize hp_xi L n s c wh rf re nd fx B j = S at K ⊢
      unfold hp_xo at K
      by_cases h1 : nl < L
      · rw [if_pos h1] at K
        exact br_t h1 (nm_r (nI_1 j) K)
      · rw [if_neg h1] at K
        refine br_f h1 ?_
        by_cases h2 : n - nl < L
        · rw [if_pos h2] at K
          exact br_t h2 (nm_r (nI_1 j) K)
        · rw [if_neg h2] at K
          refine br_f h2 (hp_Xoff ?_)
          exact nm_r (nI_1 j) K
theorem hp_Xout {L : Int32} {c t : Nat} {rf tg fe cb va sz re wh : Nat → Int32} (hc : c ≤ 24) {post : SX → Prop} {nd n s : Int32}
    (H : post (L, (nI c), (nI t), ((hp_xb L n s c wh rf re nd 3).1), ((hp_xb L n s c wh rf re nd 3).2.1), ((hp_xb L n s c wh rf re nd 3).2.2.1), ((hp_xb L n s c wh rf re nd 3).2.2.2), rf, tg, fe, cb, va, sz, re, wh)) :
    ∀ m k, k ≤ 3 → 3 - k < m → wX_findBestSplit_25 post nd n s m (nI k) L (nI c) (nI t) ((hp_xb L n s c wh rf re nd k).1) ((hp_xb L n s c wh rf re nd k).2.1) ((hp_xb L n s c wh rf re nd k).2.2.1) ((hp_xb L n s c wh rf re nd k).2.2.2) rf tg fe cb va sz re wh := by
  intro m
  induction m with
  | zero => intro j _ h; omega
  | succ m ih =>
    intro k hk hm
    refine pk_le 3 k (fun h => ?_) (fun h => ?_)
    · have e : k = 3 := by omega
      rw [e]; exact H
    · have K := ih (k + 1) (by omega) (by omega)
      simp only [hp_xb] at K
      rw [← nI_1 k] at K
      exact ⟨8, hp_Xin (B := hp_xb L n s c wh rf re nd k) hc K 8 0 (by omega) (by omega)⟩
theorem hp_Xbest {L : Int32} {c t : Nat} {f1 f2 : Int32} {f3 f4 : Int64} {rf tg fe cb va sz re wh : Nat → Int32} (hc : c ≤ 24) {post : SX → Prop} {nd n s : Int32}
    (H : post (L, (nI c), (nI t), ((hp_xb L n s c wh rf re nd 3).1), ((hp_xb L n s c wh rf re nd 3).2.1), ((hp_xb L n s c wh rf re nd 3).2.2.1), ((hp_xb L n s c wh rf re nd 3).2.2.2), rf, tg, fe, cb, va, sz, re, wh)) :
    wpX_findBestSplit post (L, (nI c), (nI t), f1, f2, f3, f4, rf, tg, fe, cb, va, sz, re, wh) nd n s := ⟨4, hp_Xout hc H 4 0 (by omega) (by omega)⟩
