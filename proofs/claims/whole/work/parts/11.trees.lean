/-! whole trees: the seven nodes, predictions, rests -/
theorem hp_iter {l c t : Nat} {rf re fe cb bo va sz wh : hp_A} (hl : 1 ≤ l) (hl2 : l ≤ 12) (hc : c ≤ 24) (ht : t < 4) (hre : ∀ i, i < c → (re i).toInt.natAbs ≤ 50 * 2 ^ t)
    (hJ : hp_J fe cb bo va) (hW : hp_W t 0 fe va) : ∀ k, k ≤ 7 → ∃ fe' cb' bo' va' sz' wh' : hp_A,
      hp_xP (nI l) c rf re t (fe, cb, va, sz, wh) k = (fe', cb', va', sz', wh') ∧ hp_yP (nI l) c (fun i => rf i &&& 511) re t (fe, bo, va, sz, wh) k = (fe', bo', va', sz', wh') ∧ hp_J fe' cb' bo' va' ∧ hp_W t k fe' va' ∧
      ∀ j, j < k → (hp_yP (nI l) c (fun i => rf i &&& 511) re t (fe, bo, va, sz, wh) (j + 1)).1 (t * 7 + j) = fe' (t * 7 + j)
  | 0, _ => ⟨fe, cb, bo, va, sz, wh, rfl, rfl, hJ, hW, fun j hj => absurd hj (Nat.not_lt_zero j)⟩
  | k + 1, hk => by
    obtain ⟨fe1, cb1, bo1, va1, sz1, wh1, eX, eY, J1, W1, Z⟩ := hp_iter (rf := rf) (sz := sz) (wh := wh) hl hl2 hc ht hre hJ hW k (by omega)
    obtain ⟨fe2, cb2, bo2, va2, sz2, wh2, eX2, eY2, J2, W2, Z2⟩ := hp_gr (rf := rf) (sz := sz1) (wh := wh1) hl hl2 hc ht (by omega) hre J1 W1
    have fX : hp_xP (nI l) c rf re t (fe, cb, va, sz, wh) (k + 1) = (fe2, cb2, va2, sz2, wh2) := by
      simp only [hp_xP]; rw [eX, eX2]
    have fY : hp_yP (nI l) c (fun i => rf i &&& 511) re t (fe, bo, va, sz, wh) (k + 1) = (fe2, bo2, va2, sz2, wh2) := by
      simp only [hp_yP]; rw [eY, eY2]
    refine ⟨fe2, cb2, bo2, va2, sz2, wh2, fX, fY, J2, W2, fun j hj => ?_⟩
    by_cases e : j = k
    · rw [e, fY]
    · rw [Z j (by omega), Z2 j (by omega)]
theorem hp_wq {fe cb bo va : hp_A} (hJ : hp_J fe cb bo va) {x y : Int32} (hxy : ∀ m, m < 3 → hp_fld y (nI m) = hp_fld x (nI m)) (a m : Nat) : hp_w fe bo y a m = hp_w fe cb x a m := by
  unfold hp_w
  by_cases h : fe (a + m) < 0
  · rw [if_pos h, if_pos h]
  · rw [if_neg h, if_neg h]
    rcases hJ.1 (a + m) with ⟨e, _⟩ | ⟨e, _⟩ | ⟨q, hq, e, eb, _⟩
    · rw [e] at h; exact absurd (by decide) h
    · rw [e] at h; exact absurd (by decide) h
    · rw [e, eb, hxy q hq]
theorem hp_prq {fe cb bo va : hp_A} (hJ : hp_J fe cb bo va) {x y : Int32} (hxy : ∀ m, m < 3 → hp_fld y (nI m) = hp_fld x (nI m)) : ∀ t, hp_pr fe bo va y t = hp_pr fe cb va x t
  | 0 => rfl
  | t + 1 => by
    simp only [hp_pr, hp_lf]
    rw [hp_prq hJ hxy t, hp_wq hJ hxy, hp_wq hJ hxy]
theorem hp_rsq {fe cb bo va rf tg re : hp_A} (hJ : hp_J fe cb bo va) (t : Nat) : ∀ i, hp_rs fe bo va (fun i => rf i &&& 511) tg t re i = hp_rs fe cb va rf tg t re i
  | 0 => rfl
  | i + 1 => by
    simp only [hp_rs]
    rw [hp_rsq hJ t i, hp_prq hJ (fun m hm => hp_fm (rf i) m hm)]
theorem hp_lsq {fe cb bo va rf tg : hp_A} (hJ : hp_J fe cb bo va) (t : Nat) : ∀ i, hp_ls fe bo va (fun i => rf i &&& 511) tg t i = hp_ls fe cb va rf tg t i
  | 0 => rfl
  | i + 1 => by
    simp only [hp_ls]
    rw [hp_lsq hJ t i, hp_prq hJ (fun m hm => hp_fm (rf i) m hm)]
theorem hp_prb {fe cb bo va : hp_A} (hJ : hp_J fe cb bo va) (x : Int32) : ∀ t, t ≤ 4 → (hp_pr fe cb va x t).toInt.natAbs + 50 ≤ 50 * 2 ^ t
  | 0, _ => by
    simp only [hp_pr]; decide
  | t + 1, h => by
    have ih := hp_prb hJ x t (by omega)
    have h1 := hp_w_le fe cb x (t * 7) 0
    have h2 := hp_w_le fe cb x (t * 7) (hp_w fe cb x (t * 7) 0)
    have hv := hJ.2 t (hp_w fe cb x (t * 7) (hp_w fe cb x (t * 7) 0)) (by omega) (by omega)
    have hp := hp_pw (t := t) (by omega)
    simp only [hp_pr, hp_lf]
    rw [Int32.toInt_add, hp_b32 (by omega), Nat.pow_succ]
    omega
theorem hp_rsv {fe cb va rf tg re : hp_A} {t : Nat} : ∀ c i, i < c → hp_rs fe cb va rf tg t re c i = tg i - hp_pr fe cb va (rf i) t
  | 0, i, h => absurd h (Nat.not_lt_zero i)
  | c + 1, i, h => by
    simp only [hp_rs]
    by_cases e : i = c
    · rw [e, pk_us]
    · rw [pk_un e]; exact hp_rsv c i (by omega)
theorem hp_rsb {fe cb bo va rf tg re : hp_A} {t c : Nat} (hJ : hp_J fe cb bo va) (ht : t < 4) (htg : ∀ i, (tg i).toInt.natAbs ≤ 50) (i : Nat) (hi : i < c) : (hp_rs fe cb va rf tg t re c i).toInt.natAbs ≤ 50 * 2 ^ t := by
  rw [hp_rsv c i hi]
  have h1 := htg i
  have h2 := hp_prb hJ (rf i) t (by omega)
  have hp := hp_pw (t := t) (by omega)
  rw [Int32.toInt_sub, hp_b32 (by omega)]
  omega
theorem hp_plin {f : hp_A} {a k j : Nat} {v0 v : Int32} (h : a ≤ j ∧ j < a + k) : hp_pl f a v0 v k j = if j = a then v0 else v := if_pos h
theorem hp_plout {f : hp_A} {a k j : Nat} {v0 v : Int32} (h : ¬ (a ≤ j ∧ j < a + k)) : hp_pl f a v0 v k j = f j := if_neg h
theorem hp_Jpl {fe cb bo va : hp_A} {t : Nat} (hJ : hp_J fe cb bo va) :
    hp_J (hp_pl fe (t * 7) (-6) (-7) 7) (hp_pl cb (t * 7) (-6) (-7) 7) bo (hp_pl va (t * 7) 0 0 7) ∧ hp_W t 0 (hp_pl fe (t * 7) (-6) (-7) 7) (hp_pl va (t * 7) 0 0 7) := by
  refine ⟨⟨fun j => ?_, fun u m hu hm => ?_⟩, fun j _ hj => ?_⟩
  · by_cases h : t * 7 ≤ j ∧ j < t * 7 + 7
    · rw [hp_plin h, hp_plin h, hp_plin h, ite_self]
      by_cases e : j = t * 7
      · rw [if_pos e]; exact Or.inr (Or.inl ⟨rfl, rfl⟩)
      · rw [if_neg e]; exact Or.inl ⟨rfl, rfl, rfl⟩
    · rw [hp_plout h, hp_plout h, hp_plout h]; exact hJ.1 j
  · by_cases h : t * 7 ≤ u * 7 + m ∧ u * 7 + m < t * 7 + 7
    · rw [hp_plin h, ite_self]; exact Nat.zero_le _
    · rw [hp_plout h]; exact hJ.2 u m hu hm
  · have h : t * 7 ≤ t * 7 + j ∧ t * 7 + j < t * 7 + 7 := by omega
    rw [hp_plin h, hp_plin h, ite_self]
    refine ⟨?_, rfl⟩
    by_cases e : t * 7 + j = t * 7
    · rw [if_pos e]; exact Or.inl rfl
    · rw [if_neg e]; exact Or.inr rfl
theorem hp_main {l c t : Nat} {rf tg re fe cb bo va sz wh : hp_A} (hl : 1 ≤ l) (hl2 : l ≤ 12) (hc : c ≤ 24) (ht : t < 4) (htg : ∀ i, (tg i).toInt.natAbs ≤ 50) (hJ : hp_J fe cb bo va) :
    ∃ fe' cb' bo' va' sz' wh' : hp_A,
      hp_xP (nI l) c rf (hp_rs fe cb va rf tg t re c) t (hp_st fe cb va sz wh c t true) 7 = (fe', cb', va', sz', wh') ∧ hp_yP (nI l) c (fun i => rf i &&& 511) (hp_rs fe cb va rf tg t re c) t (hp_st fe bo va sz wh c t false) 7 = (fe', bo', va', sz', wh') ∧ hp_J fe' cb' bo' va' ∧
      hp_cnt (hp_yl (nI l) c (fun i => rf i &&& 511) (hp_rs fe cb va rf tg t re c) t (hp_st fe bo va sz wh c t false)) 7 = hp_cnt (fun j => decide (fe' (t * 7 + j) = -6)) 7 := by
  obtain ⟨J0, W0⟩ := hp_Jpl (t := t) hJ
  obtain ⟨fe', cb', bo', va', sz', wh', eX, eY, J1, _, Z⟩ := hp_iter (rf := rf) (sz := hp_pl sz (t * 7) 0 0 7) (wh := hp_pl wh 0 0 0 c) (re := hp_rs fe cb va rf tg t re c) hl hl2 hc ht (hp_rsb hJ ht htg) J0 W0 7 (by omega)
  refine ⟨fe', cb', bo', va', sz', wh', eX, eY, J1, hp_cnt_cg 7 (fun j hj => ?_)⟩
  have h := Z j hj
  show decide (_ = _) = decide (_ = _)
  exact congrArg (fun q => decide (q = (-6 : Int32))) h
