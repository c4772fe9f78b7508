/-! the pure picture: fields, counts, sums, offers, sending, growing, predicting -/
abbrev hp_A : Type := Nat → Int32
abbrev hp_B : Type := Int32 × Int32 × Int64 × Int64
abbrev hp_C : Type := Int64 × Int64 × hp_A × hp_A
abbrev hp_T : Type := hp_A × hp_A × hp_A × hp_A × hp_A
/-- the three bits of x that belong to feature f -/
def hp_fld (x f : Int32) : Int32 := (x >>> ((3 * f) &&& 31)) &&& 7
theorem hp_fld7 (x f : Int32) : ¬ (7 : Int32) < hp_fld x f := by
  obtain ⟨j, hj, e⟩ := pk_andE (x >>> ((3 * f) &&& 31)) (m := 7) 3 (by decide)
  unfold hp_fld
  rw [e]
  exact nI_nlt (a := 7) (by omega) (by decide)
theorem hp_fm (x : Int32) (j : Nat) (hj : j < 3) : hp_fld (x &&& 511) (nI j) = hp_fld x (nI j) := by
  unfold hp_fld
  have e : (3 : Int32) * nI j = nI (3 * j) := pk_mul 3 j
  rw [e]
  apply b_ext
  intro i hi
  rw [b_and, b_and, b_sshr (3 * j) (by omega) _ hi, b_sshr (3 * j) (by omega) _ hi]
  by_cases h : i < 3
  · rw [if_pos (by omega), if_pos (by omega), b_and]
    have h9 : bt 511 (3 * j + i) = true := (by decide +kernel : ∀ k, k < 9 → bt 511 k = true) _ (by omega)
    rw [h9, Bool.and_true]
  · have h7 : bt 7 i = false := (by decide +kernel : ∀ k, k < 32 → 3 ≤ k → bt 7 k = false) i hi (by omega)
    rw [h7, Bool.and_false, Bool.and_false]
/-- row i is in node nd, at most b in field f -/
def hp_g (wh pk : hp_A) (nd f b : Int32) (i : Nat) : Bool := if wh i = nd then (if b < hp_fld (pk i) f then false else true) else false
theorem hp_g_t {wh pk : hp_A} {nd f b : Int32} {i : Nat} (h : wh i = nd) (h2 : ¬ b < hp_fld (pk i) f) : hp_g wh pk nd f b i = true := by
  unfold hp_g; rw [if_pos h, if_neg h2]
theorem hp_g_f {wh pk : hp_A} {nd f b : Int32} {i : Nat} (h : b < hp_fld (pk i) f) : ¬ hp_g wh pk nd f b i = true := by
  unfold hp_g; rw [if_pos h]; simp
theorem hp_g_n {wh pk : hp_A} {nd f b : Int32} {i : Nat} (h : ¬ wh i = nd) : ¬ hp_g wh pk nd f b i = true := by
  unfold hp_g; rw [if_neg h]; simp
theorem hp_g_m {wh pk : hp_A} {nd f b : Int32} {i : Nat} (h : hp_g wh pk nd f b i = true) : hp_g wh pk nd 0 7 i = true := by
  by_cases e : wh i = nd
  · exact hp_g_t e (hp_fld7 _ _)
  · exact absurd h (hp_g_n e)
theorem hp_g_k (wh rf : hp_A) (nd : Int32) (j : Nat) (hj : j < 3) (b : Int32) : hp_g wh (fun i => rf i &&& 511) nd (nI j) b = hp_g wh rf nd (nI j) b := by
  funext i; unfold hp_g; rw [hp_fm _ j hj]
def hp_cnt (g : Nat → Bool) : Nat → Nat
  | 0 => 0
  | c + 1 => if g c = true then hp_cnt g c + 1 else hp_cnt g c
def hp_sm (g : Nat → Bool) (r : hp_A) : Nat → Int32
  | 0 => 0
  | c + 1 => if g c = true then hp_sm g r c + r c else hp_sm g r c
def hp_sL (g : Nat → Bool) (r : hp_A) : Nat → Int64
  | 0 => 0
  | c + 1 => if g c = true then hp_sL g r c + (r c).toInt64 else hp_sL g r c
theorem hp_cnt_1 {g : Nat → Bool} {i : Nat} (h : g i = true) : hp_cnt g (i + 1) = hp_cnt g i + 1 := if_pos h
theorem hp_cnt_0 {g : Nat → Bool} {i : Nat} (h : ¬ g i = true) : hp_cnt g (i + 1) = hp_cnt g i := if_neg h
theorem hp_sm_1 {g : Nat → Bool} {r : hp_A} {i : Nat} (h : g i = true) : hp_sm g r (i + 1) = hp_sm g r i + r i := if_pos h
theorem hp_sm_0 {g : Nat → Bool} {r : hp_A} {i : Nat} (h : ¬ g i = true) : hp_sm g r (i + 1) = hp_sm g r i := if_neg h
theorem hp_sL_1 {g : Nat → Bool} {r : hp_A} {i : Nat} (h : g i = true) : hp_sL g r (i + 1) = hp_sL g r i + (r i).toInt64 := if_pos h
theorem hp_sL_0 {g : Nat → Bool} {r : hp_A} {i : Nat} (h : ¬ g i = true) : hp_sL g r (i + 1) = hp_sL g r i := if_neg h
theorem hp_n1 {g : Nat → Bool} {i : Nat} (h : g i = true) : nI (hp_cnt g i) + 1 = nI (hp_cnt g (i + 1)) := by rw [hp_cnt_1 h, nI_1]
/-- X's offers -/
def hp_d (nl sl nr sr : Int32) : Int64 := (sl.toInt64 * nr.toInt64) - (sr.toInt64 * nl.toInt64)
def hp_of (f b nl sl nr sr : Int32) (S : hp_B) : hp_B :=
  if (hp_d nl sl nr sr * hp_d nl sl nr sr) * S.2.2.2 ≤ S.2.2.1 * (nl.toInt64 * nr.toInt64) then S else (f, b, hp_d nl sl nr sr * hp_d nl sl nr sr, nl.toInt64 * nr.toInt64)
def hp_xo (L n s nl sl f b : Int32) (S : hp_B) : hp_B := if nl < L then S else if n - nl < L then S else hp_of f b nl sl (n - nl) (s - sl) S
def hp_xi (L n s : Int32) (c : Nat) (wh pk re : hp_A) (nd f : Int32) (S : hp_B) : Nat → hp_B
  | 0 => S
  | j + 1 => hp_xo L n s (nI (hp_cnt (hp_g wh pk nd f (nI j)) c)) (hp_sm (hp_g wh pk nd f (nI j)) re c) f (nI j) (hp_xi L n s c wh pk re nd f S j)
def hp_xb (L n s : Int32) (c : Nat) (wh pk re : hp_A) (nd : Int32) : Nat → hp_B
  | 0 => (-6, -6, 0, 1)
  | k + 1 => hp_xi L n s c wh pk re nd (nI k) (hp_xb L n s c wh pk re nd k) 7
/-- Y's offers: top, bottom, features, bounds -/
def hp_t (nl sl nr sr : Int64) : Int64 := ((sl * sl) * nr) + ((sr * sr) * nl)
def hp_yo (L : Int32) (n s : Int64) (nl : Int32) (sl : Int64) (x : Nat) (f b : Int32) (S : hp_C) : hp_C :=
  if nl.toInt64 < L.toInt64 then S else if n - nl.toInt64 < L.toInt64 then S else
  if hp_t nl.toInt64 sl (n - nl.toInt64) (s - sl) * S.2.1 ≤ (S.1 * nl.toInt64) * (n - nl.toInt64) then S else
  (hp_t nl.toInt64 sl (n - nl.toInt64) (s - sl), nl.toInt64 * (n - nl.toInt64), upd S.2.2.1 x f, upd S.2.2.2 x b)
def hp_yi (L : Int32) (n s : Int64) (c : Nat) (wh pk re : hp_A) (x : Nat) (nd f : Int32) (S : hp_C) : Nat → hp_C
  | 0 => S
  | j + 1 => hp_yo L n s (nI (hp_cnt (hp_g wh pk nd f (nI j)) c)) (hp_sL (hp_g wh pk nd f (nI j)) re c) x f (nI j) (hp_yi L n s c wh pk re x nd f S j)
def hp_yb (L : Int32) (n s : Int64) (c : Nat) (wh pk re : hp_A) (x : Nat) (nd : Int32) (S : hp_C) : Nat → hp_C
  | 0 => S
  | k + 1 => hp_yi L n s c wh pk re x nd (nI k) (hp_yb L n s c wh pk re x nd S k) 7
/-- the rows of node nd go to l or r: i rows sent -/
def hp_snd (pk : hp_A) (nd f b l r : Int32) (wh : hp_A) : Nat → hp_A
  | 0 => wh
  | i + 1 => if hp_snd pk nd f b l r wh i i = nd then (if b < hp_fld (pk i) f then upd (hp_snd pk nd f b l r wh i) i r else upd (hp_snd pk nd f b l r wh i) i l) else hp_snd pk nd f b l r wh i
theorem hp_snd_k (rf : hp_A) (nd : Int32) (j : Nat) (hj : j < 3) (b l r : Int32) (wh : hp_A) : ∀ i, hp_snd (fun i => rf i &&& 511) nd (nI j) b l r wh i = hp_snd rf nd (nI j) b l r wh i
  | 0 => rfl
  | i + 1 => by
    simp only [hp_snd]
    rw [hp_snd_k rf nd j hj b l r wh i, hp_fm _ j hj]
/-- a node is grown: features, bounds, values, sizes, nodes of the rows -/
def hp_dv (n s : Int32) : Int32 := if n = 0 then 0 else s / n
def hp_xl (x : Nat) (n s : Int32) (S : hp_T) : hp_T := (S.1, S.2.1, upd S.2.2.1 x (hp_dv n s), upd S.2.2.2.1 x n, S.2.2.2.2)
def hp_xs (c : Nat) (rf : hp_A) (t k : Nat) (n : Int32) (B : hp_B) (S : hp_T) : hp_T :=
  (upd (upd (upd S.1 (t * 7 + k) B.1) (t * 7 + (2 * k + 1)) (-6)) (t * 7 + (2 * k + 2)) (-6),
   upd (upd (upd S.2.1 (t * 7 + k) B.2.1) (t * 7 + (2 * k + 1)) (-6)) (t * 7 + (2 * k + 2)) (-6),
   S.2.2.1, upd S.2.2.2.1 (t * 7 + k) n, hp_snd rf (nI k) B.1 B.2.1 (nI (2 * k + 1)) (nI (2 * k + 2)) S.2.2.2.2 c)
def hp_x3 (c : Nat) (rf : hp_A) (t k : Nat) (n s : Int32) (B : hp_B) (S : hp_T) : hp_T := if B.1 = -6 then hp_xl (t * 7 + k) n s S else hp_xs c rf t k n B S
def hp_x2 (L : Int32) (c : Nat) (rf re : hp_A) (t k : Nat) (n s : Int32) (S : hp_T) : hp_T :=
  if 3 ≤ k then hp_xl (t * 7 + k) n s S else hp_x3 c rf t k n s (hp_xb L n s c S.2.2.2.2 rf re (nI k) 3) S
def hp_xg (L : Int32) (c : Nat) (rf re : hp_A) (t k : Nat) (S : hp_T) : hp_T :=
  if S.1 (t * 7 + k) = -7 then S else hp_x2 L c rf re t k (nI (hp_cnt (hp_g S.2.2.2.2 rf (nI k) 0 7) c)) (hp_sm (hp_g S.2.2.2.2 rf (nI k) 0 7) re c) S
def hp_xP (L : Int32) (c : Nat) (rf re : hp_A) (t : Nat) (S : hp_T) : Nat → hp_T
  | 0 => S
  | k + 1 => hp_xg L c rf re t k (hp_xP L c rf re t S k)
/-- the same of Y: settle's last step, split's end, settle -/
def hp_yv (x : Nat) (n s : Int32) (S : hp_T) : hp_T := if S.1 x = -6 then (if n ≤ 0 then S else (S.1, S.2.1, upd S.2.2.1 x (s / n), S.2.2.2.1, S.2.2.2.2)) else S
def hp_ys (c : Nat) (pk : hp_A) (t k : Nat) (C : hp_C) (S : hp_T) : hp_T :=
  if C.2.2.1 (t * 7 + k) < 0 then (C.2.2.1, C.2.2.2, S.2.2.1, S.2.2.2.1, S.2.2.2.2) else
  (upd (upd C.2.2.1 (t * 7 + (2 * k + 1)) (-6)) (t * 7 + (2 * k + 2)) (-6), C.2.2.2, S.2.2.1, S.2.2.2.1,
   hp_snd pk (nI k) (C.2.2.1 (t * 7 + k)) (C.2.2.2 (t * 7 + k)) (nI (2 * k + 1)) (nI (2 * k + 2)) S.2.2.2.2 c)
def hp_yp (L : Int32) (c : Nat) (pk re : hp_A) (t k : Nat) (n : Int32) (sL : Int64) (S : hp_T) : hp_T :=
  hp_ys c pk t k (hp_yb L n.toInt64 sL c S.2.2.2.2 pk re (t * 7 + k) (nI k) (sL * sL, n.toInt64, S.1, S.2.1) 3) S
def hp_y2 (L : Int32) (c : Nat) (pk re : hp_A) (t k : Nat) (n : Int32) (sL : Int64) (S : hp_T) : hp_T :=
  if 3 ≤ k then hp_yv (t * 7 + k) n sL.toInt32 S else if n ≤ 0 then hp_yv (t * 7 + k) n sL.toInt32 S else hp_yv (t * 7 + k) n sL.toInt32 (hp_yp L c pk re t k n sL S)
def hp_sz (x : Nat) (n : Int32) (S : hp_T) : hp_T := (S.1, S.2.1, S.2.2.1, upd S.2.2.2.1 x n, S.2.2.2.2)
def hp_yst (L : Int32) (c : Nat) (pk re : hp_A) (t k : Nat) (S : hp_T) : hp_T :=
  hp_y2 L c pk re t k (nI (hp_cnt (hp_g S.2.2.2.2 pk (nI k) 0 7) c)) (hp_sL (hp_g S.2.2.2.2 pk (nI k) 0 7) re c) (hp_sz (t * 7 + k) (nI (hp_cnt (hp_g S.2.2.2.2 pk (nI k) 0 7) c)) S)
def hp_yg (L : Int32) (c : Nat) (pk re : hp_A) (t k : Nat) (S : hp_T) : hp_T := if S.1 (t * 7 + k) = -6 then hp_yst L c pk re t k S else S
def hp_yP (L : Int32) (c : Nat) (pk re : hp_A) (t : Nat) (S : hp_T) : Nat → hp_T
  | 0 => S
  | k + 1 => hp_yg L c pk re t k (hp_yP L c pk re t S k)
/-- Y's leaves after k nodes -/
def hp_yl (L : Int32) (c : Nat) (pk re : hp_A) (t : Nat) (S : hp_T) (j : Nat) : Bool := decide ((hp_yP L c pk re t S (j + 1)).1 (t * 7 + j) = -6)
/-- planting -/
def hp_pl (f : hp_A) (a : Nat) (v0 v : Int32) (k : Nat) : hp_A := fun j => if a ≤ j ∧ j < a + k then (if j = a then v0 else v) else f j
theorem hp_pl0 (f : hp_A) (a : Nat) (v0 v : Int32) : hp_pl f a v0 v 0 = f := by
  funext j; unfold hp_pl; rw [if_neg (by omega)]
theorem hp_pls (f : hp_A) (a : Nat) (v0 v : Int32) (k : Nat) : upd (hp_pl f a v0 v k) (a + k) (if k = 0 then v0 else v) = hp_pl f a v0 v (k + 1) := by
  funext j
  show (if j = a + k then (if k = 0 then v0 else v) else (if a ≤ j ∧ j < a + k then (if j = a then v0 else v) else f j)) = (if a ≤ j ∧ j < a + (k + 1) then (if j = a then v0 else v) else f j)
  by_cases h : j = a + k
  · have h2 : a ≤ j ∧ j < a + (k + 1) := by omega
    rw [if_pos h, if_pos h2]
    by_cases h0 : k = 0
    · have h3 : j = a := by omega
      rw [if_pos h0, if_pos h3]
    · have h3 : ¬ j = a := by omega
      rw [if_neg h0, if_neg h3]
  · rw [if_neg h]
    by_cases h1 : a ≤ j ∧ j < a + k
    · have h2 : a ≤ j ∧ j < a + (k + 1) := by omega
      rw [if_pos h1, if_pos h2]
    · have h2 : ¬ (a ≤ j ∧ j < a + (k + 1)) := by omega
      rw [if_neg h1, if_neg h2]
theorem hp_plS (f : hp_A) (a : Nat) (v : Int32) (k : Nat) : upd (hp_pl f a v v k) (a + k) v = hp_pl f a v v (k + 1) := by
  have h := hp_pls f a v v k
  rw [ite_self] at h
  exact h
theorem hp_plu (f : hp_A) (a : Nat) (v0 v : Int32) (k : Nat) (hk : 0 < k) : upd (hp_pl f a v v k) a v0 = hp_pl f a v0 v k := by
  funext j
  show (if j = a then v0 else (if a ≤ j ∧ j < a + k then (if j = a then v else v) else f j)) = (if a ≤ j ∧ j < a + k then (if j = a then v0 else v) else f j)
  by_cases h : j = a
  · have h2 : a ≤ j ∧ j < a + k := by omega
    rw [if_pos h, if_pos h2, if_pos h]
  · rw [if_neg h, if_neg h, if_neg h]
/-- predictions -/
def hp_w (fe bo : hp_A) (x : Int32) (a m : Nat) : Nat := if fe (a + m) < 0 then m else if bo (a + m) < hp_fld x (fe (a + m)) then 2 * m + 2 else 2 * m + 1
theorem hp_w_le (fe bo : hp_A) (x : Int32) (a m : Nat) : hp_w fe bo x a m ≤ 2 * m + 2 := by
  unfold hp_w; split
  · omega
  · split <;> omega
def hp_lf (fe bo va : hp_A) (x : Int32) (a : Nat) : Int32 := va (a + hp_w fe bo x a (hp_w fe bo x a 0))
def hp_pr (fe bo va : hp_A) (x : Int32) : Nat → Int32
  | 0 => 0
  | t + 1 => hp_pr fe bo va x t + hp_lf fe bo va x (t * 7)
/-- the rests of the first i rows -/
def hp_rs (fe bo va pk tg : hp_A) (t : Nat) (re : hp_A) : Nat → hp_A
  | 0 => re
  | i + 1 => upd (hp_rs fe bo va pk tg t re i) i (tg i - hp_pr fe bo va (pk i) t)
/-- the loss -/
def hp_ls (fe bo va pk tg : hp_A) (t : Nat) : Nat → Int32
  | 0 => 0
  | i + 1 => hp_ls fe bo va pk tg t i + (tg i - hp_pr fe bo va (pk i) t) * (tg i - hp_pr fe bo va (pk i) t)
/-- numbers -/
theorem hp_at (t k : Nat) : nI t * 7 + nI k = nI (t * 7 + k) := by
  have e : nI t * 7 = nI (t * 7) := pk_mul t 7
  rw [e, nI_add]
theorem hp_c1 (k : Nat) : 2 * nI k + 1 = nI (2 * k + 1) := by
  have e : (2 : Int32) * nI k = nI (2 * k) := pk_mul 2 k
  rw [e, nI_1]
theorem hp_c2 (k : Nat) : 2 * nI k + 2 = nI (2 * k + 2) := by
  have e : (2 : Int32) * nI k = nI (2 * k) := pk_mul 2 k
  have e2 : nI (2 * k) + 2 = nI (2 * k + 2) := nI_add (2 * k) 2
  rw [e, e2]
