/-! Y: counting, summing, the best split, sending -/
theorem hp_Ycnt6 {L : Int32} {c : Nat} {T : Int32} {ap tg fe bo va sz re wh : Nat → Int32} (hc : c ≤ 24) {post : Int32 → Prop} {nd fx b : Int32} (H : post (nI (hp_cnt (hp_g wh ap nd fx b) c))) : ∀ n i, i ≤ c → c - i < n → wY_rowsOf_6 post nd fx b L (nI c) T ap tg fe bo va sz re wh n (nI (hp_cnt (hp_g wh ap nd fx b) i)) (nI i) := by
  intro n
  induction n with
  | zero => intro i _ h; omega
  | succ n ih =>
    intro i hi hn
    refine pk_le c i (fun h => ?_) (fun h => ?_)
    · have e : i = c := by omega
      rw [e]; exact H
    · have hcl : (nI i).toNatClampNeg = i := nI_clamp (by omega)
      have hin : vp_in (nI i) 24 := vp_in_nI (by omega) (by omega)
      have J := ih (i + 1) (by omega) (by omega)
      rw [hcl]
      refine ⟨hin, ?_⟩
      by_cases hw : wh i = nd
      · refine br_t hw ⟨hin, ?_⟩
        by_cases hb : b < hp_fld (ap i) fx
        · refine br_t hb (nm_r (nI_1 i) ?_)
          rw [hp_cnt_0 (hp_g_f hb)] at J
          exact J
        · exact br_f hb (nm_r (hp_n1 (hp_g_t hw hb)) (nm_r (nI_1 i) J))
      · refine br_f hw (nm_r (nI_1 i) ?_)
        rw [hp_cnt_0 (hp_g_n hw)] at J
        exact J
theorem hp_Ycnt {L : Int32} {c : Nat} {T : Int32} {ap tg fe bo va sz re wh : Nat → Int32} (hc : c ≤ 24) {post : Int32 → Prop} {nd fx b : Int32} (H : post (nI (hp_cnt (hp_g wh ap nd fx b) c))) : wpY_rowsOf post (L, (nI c), T, ap, tg, fe, bo, va, sz, re, wh) nd fx b :=
  ⟨c + 1, hp_Ycnt6 hc H (c + 1) 0 (Nat.zero_le _) (by omega)⟩
theorem hp_Ysum6 {L : Int32} {c : Nat} {T : Int32} {ap tg fe bo va sz re wh : Nat → Int32} (hc : c ≤ 24) {post : Int64 → Prop} {nd fx b : Int32} (H : post (hp_sL (hp_g wh ap nd fx b) re c)) : ∀ n i, i ≤ c → c - i < n → wY_sumOf_6 post nd fx b L (nI c) T ap tg fe bo va sz re wh n (hp_sL (hp_g wh ap nd fx b) re i) (nI i) := by
  intro n
  induction n with
  | zero => intro i _ h; omega
  | succ n ih =>
    intro i hi hn
    refine pk_le c i (fun h => ?_) (fun h => ?_)
    · have e : i = c := by omega
      rw [e]; exact H
    · have hcl : (nI i).toNatClampNeg = i := nI_clamp (by omega)
      have hin : vp_in (nI i) 24 := vp_in_nI (by omega) (by omega)
      have J := ih (i + 1) (by omega) (by omega)
      rw [hcl]
      refine ⟨hin, ?_⟩
      by_cases hw : wh i = nd
      · refine br_t hw ⟨hin, ?_⟩
        by_cases hb : b < hp_fld (ap i) fx
        · refine br_t hb (nm_r (nI_1 i) ?_)
          rw [hp_sL_0 (hp_g_f hb)] at J
          exact J
        · exact br_f hb ⟨hin, nm_r (hp_sL_1 (hp_g_t hw hb)).symm (nm_r (nI_1 i) J)⟩
      · refine br_f hw (nm_r (nI_1 i) ?_)
        rw [hp_sL_0 (hp_g_n hw)] at J
        exact J
theorem hp_Ysum {L : Int32} {c : Nat} {T : Int32} {ap tg fe bo va sz re wh : Nat → Int32} (hc : c ≤ 24) {post : Int64 → Prop} {nd fx b : Int32} (H : post (hp_sL (hp_g wh ap nd fx b) re c)) : wpY_sumOf post (L, (nI c), T, ap, tg, fe, bo, va, sz, re, wh) nd fx b :=
  ⟨c + 1, hp_Ysum6 hc H (c + 1) 0 (Nat.zero_le _) (by omega)⟩
theorem hp_Yin {L : Int32} {c : Nat} {T x1 nd fx : Int32} {ap tg va sz re wh : hp_A} (hc : c ≤ 24) {post : SY → Prop} {J : Int64 → Int64 → Int32 → hp_A → hp_A → hp_A → hp_A → hp_A → hp_A → hp_A → hp_A → Prop} {n s : Int64} {x : Nat} (hx : x < 28) {C : hp_C}
    (H : J (hp_yi L n s c wh ap re x nd fx C 7).1 (hp_yi L n s c wh ap re x nd fx C 7).2.1 (fx + 1) ap tg ((hp_yi L n s c wh ap re x nd fx C 7).2.2.1) ((hp_yi L n s c wh ap re x nd fx C 7).2.2.2) va sz re wh) :
    ∀ m j, j ≤ 7 → 7 - j < m → wY_split_50 post J x1 nd n s (nI x) fx L (nI c) T m (hp_yi L n s c wh ap re x nd fx C j).1 (hp_yi L n s c wh ap re x nd fx C j).2.1 (nI j) ap tg ((hp_yi L n s c wh ap re x nd fx C j).2.2.1) ((hp_yi L n s c wh ap re x nd fx C j).2.2.2) va sz re wh := by
  have hcl : (nI x).toNatClampNeg = x := nI_clamp (by omega)
  have hin : vp_in (nI x) 28 := vp_in_nI hx (by omega)
  intro m
  induction m with
  | zero => intro j _ h; omega
  | succ m ih =>
    intro j hj hm
    refine pk_le 7 j (fun h => ?_) (fun h => ?_)
    · have e : j = 7 := by omega
      rw [e]; exact nm_e H
    · have K := ih (j + 1) (by omega) (by omega)
      simp only [hp_yi] at K
      refine hp_Ycnt hc (hp_Ysum hc ?_)
      generalize nI (hp_cnt (hp_g wh ap nd fx (nI j)) c) = nl at K ⊢
      generalize hp_sL (hp_g wh ap nd fx (nI j)) re c = sl at K ⊢
      generalize hp_yi L n s c wh ap re x nd fx C j = S at K ⊢
      refine nm_e (nm_e (nm_e ?_))
      unfold hp_yo at K
      by_cases h1 : nl.toInt64 < L.toInt64
      · rw [if_pos h1] at K
        exact br_t h1 (nm_r (nI_1 j) K)
      · rw [if_neg h1] at K
        refine br_f h1 ?_
        by_cases h2 : n - nl.toInt64 < L.toInt64
        · rw [if_pos h2] at K
          exact br_t h2 (nm_r (nI_1 j) K)
        · rw [if_neg h2] at K
          refine br_f h2 ?_
          by_cases h3 : hp_t nl.toInt64 sl (n - nl.toInt64) (s - sl) * S.2.1 ≤ (S.1 * nl.toInt64) * (n - nl.toInt64)
          · rw [if_pos h3] at K
            exact br_t h3 (nm_r (nI_1 j) K)
          · rw [if_neg h3] at K
            refine br_f h3 (nm_e ?_)
            rw [hcl]
            exact ⟨hin, nm_e ⟨hin, nm_e (nm_r (nI_1 j) K)⟩⟩
theorem hp_Ysnd {L : Int32} {c t : Nat} {ap tg fe bo va sz re wh : Nat → Int32} (hc : c ≤ 24) {post : SY → Prop} {x k : Nat} (ex : x = t * 7 + k) (hx : t * 7 + (2 * k + 2) < 28)
    (H : post (L, (nI c), (nI t), ap, tg, (upd (upd fe (t * 7 + (2 * k + 1)) (-6)) (t * 7 + (2 * k + 2)) (-6)), bo, va, sz, re, (hp_snd ap (nI k) (fe x) (bo x) (nI (2 * k + 1)) (nI (2 * k + 2)) wh c))) :
    ∀ n i, i ≤ c → c - i < n → wY_send_10 post (nI k) (nI x) L (nI c) (nI t) n (nI i) ap tg fe bo va sz re (hp_snd ap (nI k) (fe x) (bo x) (nI (2 * k + 1)) (nI (2 * k + 2)) wh i) := by
  have hcx : (nI x).toNatClampNeg = x := nI_clamp (by omega)
  have hix : vp_in (nI x) 28 := vp_in_nI (by omega) (by omega)
  intro n
  induction n with
  | zero => intro i _ h; omega
  | succ n ih =>
    intro i hi hn
    refine pk_le c i (fun h => ?_) (fun h => ?_)
    · have e : i = c := by omega
      rw [e]
      have e1 : nI x + nI k + 1 = nI (t * 7 + (2 * k + 1)) := by
        rw [nI_add, nI_1]; exact congrArg nI (by omega)
      have e2 : nI x + nI k + 2 = nI (t * 7 + (2 * k + 2)) := by
        have e3 : nI (x + k) + 2 = nI (x + k + 2) := nI_add (x + k) 2
        rw [nI_add, e3]; exact congrArg nI (by omega)
      have c1 : (nI (t * 7 + (2 * k + 1))).toNatClampNeg = t * 7 + (2 * k + 1) := nI_clamp (by omega)
      have c2 : (nI (t * 7 + (2 * k + 2))).toNatClampNeg = t * 7 + (2 * k + 2) := nI_clamp (by omega)
      rw [e1, e2, c1, c2]
      exact ⟨vp_in_nI (by omega) (by omega), nm_e ⟨vp_in_nI hx (by omega), nm_e H⟩⟩
    · have hcl : (nI i).toNatClampNeg = i := nI_clamp (by omega)
      have hin : vp_in (nI i) 24 := vp_in_nI (by omega) (by omega)
      have J := ih (i + 1) (by omega) (by omega)
      simp only [hp_snd] at J
      rw [hcl, hcx, hp_c1, hp_c2]
      refine ⟨hin, ?_⟩
      generalize hp_snd ap (nI k) (fe x) (bo x) (nI (2 * k + 1)) (nI (2 * k + 2)) wh i = w at J ⊢
      by_cases hw : w i = nI k
      · rw [if_pos hw] at J
        refine br_t hw ⟨hin, hix, hix, ?_⟩
        by_cases hb : bo x < hp_fld (ap i) (fe x)
        · rw [if_pos hb] at J
          exact br_t hb ⟨hin, nm_e (nm_r (nI_1 i) J)⟩
        · rw [if_neg hb] at J
          exact br_f hb ⟨hin, nm_e (nm_r (nI_1 i) J)⟩
      · rw [if_neg hw] at J
        exact br_f hw (nm_r (nI_1 i) J)
theorem hp_Yout {L : Int32} {c t k : Nat} {ap tg re : hp_A} {S : hp_T} (hc : c ≤ 24) (ht : t < 4) (hk : k < 3) {post : SY → Prop} {n s : Int64} {C : hp_C}
    (H : post (L, (nI c), (nI t), ap, tg, ((hp_ys c ap t k (hp_yb L n s c S.2.2.2.2 ap re (t * 7 + k) (nI k) C 3) S).1), ((hp_ys c ap t k (hp_yb L n s c S.2.2.2.2 ap re (t * 7 + k) (nI k) C 3) S).2.1), ((hp_ys c ap t k (hp_yb L n s c S.2.2.2.2 ap re (t * 7 + k) (nI k) C 3) S).2.2.1), ((hp_ys c ap t k (hp_yb L n s c S.2.2.2.2 ap re (t * 7 + k) (nI k) C 3) S).2.2.2.1), re, ((hp_ys c ap t k (hp_yb L n s c S.2.2.2.2 ap re (t * 7 + k) (nI k) C 3) S).2.2.2.2))) :
    ∀ m j, j ≤ 3 → 3 - j < m → wY_split_41 post (nI t) (nI k) n s (nI (t * 7 + k)) L (nI c) (nI t) m (hp_yb L n s c S.2.2.2.2 ap re (t * 7 + k) (nI k) C j).1 (hp_yb L n s c S.2.2.2.2 ap re (t * 7 + k) (nI k) C j).2.1 (nI j)
      ap tg ((hp_yb L n s c S.2.2.2.2 ap re (t * 7 + k) (nI k) C j).2.2.1) ((hp_yb L n s c S.2.2.2.2 ap re (t * 7 + k) (nI k) C j).2.2.2) S.2.2.1 S.2.2.2.1 re S.2.2.2.2 := by
  have hcx : (nI (t * 7 + k)).toNatClampNeg = t * 7 + k := nI_clamp (by omega)
  have hix : vp_in (nI (t * 7 + k)) 28 := vp_in_nI (by omega) (by omega)
  intro m
  induction m with
  | zero => intro j _ h; omega
  | succ m ih =>
    intro j hj hm
    refine pk_le 3 j (fun h => ?_) (fun h => ?_)
    · have e : j = 3 := by omega
      rw [e]
      generalize hp_yb L n s c S.2.2.2.2 ap re (t * 7 + k) (nI k) C 3 = D at H ⊢
      rw [hcx]
      refine ⟨hix, ?_⟩
      unfold hp_ys at H
      by_cases h0 : D.2.2.1 (t * 7 + k) < 0
      · rw [if_pos h0] at H
        exact br_t h0 H
      · rw [if_neg h0] at H
        refine br_f h0 ?_
        unfold wpY_send
        exact nm_r (hp_at t k) ⟨c + 1, hp_Ysnd hc rfl (by omega) H (c + 1) 0 (by omega) (by omega)⟩
    · have K := ih (j + 1) (by omega) (by omega)
      simp only [hp_yb] at K
      rw [← nI_1 j] at K
      exact ⟨8, hp_Yin (C := hp_yb L n s c S.2.2.2.2 ap re (t * 7 + k) (nI k) C j) hc (by omega) K 8 0 (by omega) (by omega)⟩
