-- the text: what a token is, both sides
theorem pfb {β : Type} (σ : Sg) (k j : Nat) (v : Int32) (f : Sg → Option β) : (pf σ k j v).bind f = f (up2 σ k j v) := rfl
def rn (p : Nat → Bool) : Nat → Nat → Nat
  | 0, s => s
  | k + 1, s => if p s = true then rn p k (s + 1) else s
theorem rn_ge (p : Nat → Bool) : ∀ k s, s ≤ rn p k s
  | 0, s => Nat.le_refl _
  | k + 1, s => by
    rw [rn]
    split
    · have := rn_ge p k (s + 1); omega
    · omega
theorem rn_le (p : Nat → Bool) : ∀ k s, rn p k s ≤ s + k
  | 0, s => Nat.le_refl _
  | k + 1, s => by
    rw [rn]
    split
    · have := rn_le p k (s + 1); omega
    · omega
theorem rn_gt (p : Nat → Bool) {k s : Nat} (hk : 0 < k) (h : p s = true) : s < rn p k s := by
  obtain ⟨k, rfl⟩ := Nat.exists_eq_succ_of_ne_zero (show k ≠ 0 by omega)
  rw [rn, if_pos h]
  have := rn_ge p k (s + 1); omega
theorem rn_all (p : Nat → Bool) : ∀ k s j, s ≤ j → j < rn p k s → p j = true
  | 0, s, j, h1, h2 => by rw [rn] at h2; omega
  | k + 1, s, j, h1, h2 => by
    rw [rn] at h2
    by_cases hp : p s = true
    · rw [if_pos hp] at h2
      by_cases hj : j = s
      · rw [hj]; exact hp
      · exact rn_all p k (s + 1) j (by omega) h2
    · rw [if_neg hp] at h2; omega
def isL (c : Nat) : Bool := decide (97 ≤ c) && decide (c ≤ 122)
def isF (c : Nat) : Bool := decide (48 ≤ c) && decide (c ≤ 57)
def isB (c : Nat) : Bool := decide (c = 32)
theorem letX : ∀ c, c < 128 → fX1_isLetter (nI c) = some (if isL c = true then 1 else 0) := by decide +kernel
theorem figX : ∀ c, c < 128 → fX1_isFigure (nI c) = some (if isF c = true then 1 else 0) := by decide +kernel
theorem letM : ∀ c, c < 128 → fX8_in (nI c).toInt64 97 122 = some (if isL c = true then 1 else 0) := by decide +kernel
theorem figM : ∀ c, c < 128 → fX8_in (nI c).toInt64 48 57 = some (if isF c = true then 1 else 0) := by decide +kernel
theorem letM4 : fX8_in (-4 : Int32).toInt64 97 122 = some 0 := by decide +kernel
theorem figM4 : fX8_in (-4 : Int32).toInt64 48 57 = some 0 := by decide +kernel
theorem chr4 : ∀ c, c < 128 → ¬ nI c = (-4 : Int32) := by decide +kernel
theorem blaC : ∀ c, c < 128 → (nI c = (32 : Int32) ↔ isB c = true) := by decide +kernel
theorem semC : ∀ c, c < 128 → (nI c = (59 : Int32) ↔ c = 59) := by decide +kernel
theorem rcN : ∀ c, c < 128 → rc (nI c) = some (nI c) := by decide +kernel
theorem isF_b {c : Nat} (h : isF c = true) : 48 ≤ c ∧ c ≤ 57 := by
  unfold isF at h
  simpa using h
def TX (tl : Nat) (B : Nat → Nat) (x : Sg) : Prop := tl ≤ 160 ∧ x 32 1 = nI tl ∧ ∀ i, i < tl → B i < 128 ∧ x 33 i = nI (B i)
def TM (tl : Nat) (B : Nat → Nat) (y : Sg) : Prop := tl ≤ 160 ∧ y 0 9 = nI tl ∧ ∀ i, i < tl → B i < 128 ∧ y 3 i = nI (B i)
section LX
variable {tl : Nat} {B : Nat → Nat}
theorem TX.fr {x x' : Sg} (h : TX tl B x) (e1 : x' 32 1 = x 32 1) (e2 : ∀ j, x' 33 j = x 33 j) : TX tl B x' := ⟨h.1, by rw [e1]; exact h.2.1, fun i hi => ⟨(h.2.2 i hi).1, by rw [e2]; exact (h.2.2 i hi).2⟩⟩
theorem TM.fr {y y' : Sg} (h : TM tl B y) (e1 : y' 0 9 = y 0 9) (e2 : ∀ j, y' 3 j = y 3 j) : TM tl B y' := ⟨h.1, by rw [e1]; exact h.2.1, fun i hi => ⟨(h.2.2 i hi).1, by rw [e2]; exact (h.2.2 i hi).2⟩⟩
theorem atX {x : Sg} (h : TX tl B x) {i : Nat} (hi : i < tl) : fX5_at x (nI i) = some (nI (B i)) := by
  have h1 := h.1
  have h2 := h.2.2 i hi
  unfold fX5_at
  rw [if_neg (nI_pos (by omega)), h.2.1, if_neg (nI_ge (by omega) (by omega)), rdN (by omega) (by omega), bnd, h2.2]
  exact rcN _ h2.1
theorem atX0 {x : Sg} (h : TX tl B x) {i : Nat} (hi : tl ≤ i) (hi2 : i < 2 ^ 31) : fX5_at x (nI i) = some 32 := by
  unfold fX5_at
  rw [if_neg (nI_pos hi2), h.2.1, if_pos (nI_le hi hi2)]
theorem byM {y : Sg} (h : TM tl B y) {i : Nat} (hi : i < tl) : fX8_byteAt y (nI i) = some (nI (B i)) := by
  have h1 := h.1
  have h2 := h.2.2 i hi
  unfold fX8_byteAt
  rw [h.2.1, if_neg (nI_ge (by omega) (by omega)), rdN (by omega) (by omega), bnd, h2.2]
theorem byM0 {y : Sg} (h : TM tl B y) {i : Nat} (hi : tl ≤ i) (hi2 : i < 2 ^ 31) : fX8_byteAt y (nI i) = some (-4) := by
  unfold fX8_byteAt
  rw [h.2.1, if_pos (nI_le hi hi2)]
theorem blX : ∀ k n i (x : Sg), i + k = tl → k < n → TX tl B x → x 31 4 = nI i → ∃ x', fX1_advance_l16 n x = fX1_advance_b59 x' ∧ x' 31 4 = nI (rn (fun j => isB (B j)) k i) ∧ ∀ a b, ¬ (a = 31 ∧ b = 4) → x' a b = x a b := by
  intro k
  induction k with
  | zero =>
    intro n i x h1 h2 h h4
    obtain ⟨n, rfl⟩ := Nat.exists_eq_succ_of_ne_zero (show n ≠ 0 by omega)
    have ht := h.1
    refine ⟨x, ?_, h4, fun _ _ _ => rfl⟩
    rw [fX1_advance_l16, h.2.1, h4, if_pos (nI_le (by omega) (by omega))]
  | succ k ih =>
    intro n i x h1 h2 h h4
    obtain ⟨n, rfl⟩ := Nat.exists_eq_succ_of_ne_zero (show n ≠ 0 by omega)
    have ht := h.1
    have hc := (h.2.2 i (by omega)).1
    rw [fX1_advance_l16, h.2.1, h4, if_neg (nI_ge (by omega) (by omega)), atX h (by omega), bnd, rn]
    by_cases hp : isB (B i) = true
    · rw [if_pos ((blaC _ hc).mpr hp), pfb, if_pos hp, nI_1]
      obtain ⟨x', e1, e2, e3⟩ := ih n (i + 1) (up2 x 31 4 (nI (i + 1))) (by omega) (by omega) (h.fr (by rw [up2_at, if_neg (by omega)]) (fun j => by rw [up2_at, if_neg (by omega)])) (by rw [up2_at, if_pos ⟨rfl, rfl⟩])
      exact ⟨x', e1, e2, fun a b hab => by rw [e3 a b hab, up2_at, if_neg hab]⟩
    · rw [if_neg (fun q => hp ((blaC _ hc).mp q)), if_neg hp]
      exact ⟨x, rfl, h4, fun _ _ _ => rfl⟩
def tok8 (σ4 : Sg) (t3 : Int32) : Option Sg := if t3 = (-4 : Int32) then (pf σ4 0 15 (0 : Int32)).bind fun σ10 => some σ10 else (fX8_in t3.toInt64 (97 : Int64) (122 : Int64)).bind fun t5 => if t5 = 0 then (fX8_in t3.toInt64 (48 : Int64) (57 : Int64)).bind fun t6 => if t6 = 0 then (pf σ4 0 15 (3 : Int32)).bind fun σ7 => (pf σ7 0 13 ((σ7 0 13) + (1 : Int32))).bind fun σ8 => if t3 = (59 : Int32) then some σ8 else (fX8_fails σ8 (1 : Int32)).bind fun σ9 => some σ9 else fX8_step_l140 2000 σ4 else fX8_step_l84 2000 σ4
def rest8 (σ2 : Sg) : Option Sg := (fX8_byteAt σ2 (σ2 0 13)).bind fun t3 => tok8 (up2 σ2 0 16 0) t3
theorem blM : ∀ k n i (y : Sg), i + k = tl → k < n → TM tl B y → y 0 13 = nI i → ∃ y', fX8_step_l8 n y = rest8 (up2 y' 0 14 (y' 0 13)) ∧ y' 0 13 = nI (rn (fun j => isB (B j)) k i) ∧ ∀ a b, ¬ (a = 0 ∧ b = 13) → y' a b = y a b := by
  intro k
  induction k with
  | zero =>
    intro n i y h1 h2 h h4
    obtain ⟨n, rfl⟩ := Nat.exists_eq_succ_of_ne_zero (show n ≠ 0 by omega)
    have ht := h.1
    refine ⟨y, ?_, h4, fun _ _ _ => rfl⟩
    have hb : fX8_byteAt y (y 0 13) = some (-4) := by rw [h4]; exact byM0 h (by omega) (by omega)
    rw [fX8_step_l8, hb, bnd, if_neg (by decide)]; rfl
  | succ k ih =>
    intro n i y h1 h2 h h4
    obtain ⟨n, rfl⟩ := Nat.exists_eq_succ_of_ne_zero (show n ≠ 0 by omega)
    have ht := h.1
    have hc := (h.2.2 i (by omega)).1
    have hb : fX8_byteAt y (y 0 13) = some (nI (B i)) := by rw [h4]; exact byM h (by omega)
    rw [fX8_step_l8, hb, bnd, rn]
    by_cases hp : isB (B i) = true
    · rw [if_pos ((blaC _ hc).mpr hp), pfb, if_pos hp, h4, nI_1]
      obtain ⟨y', e1, e2, e3⟩ := ih n (i + 1) (up2 y 0 13 (nI (i + 1))) (by omega) (by omega) (h.fr (by rw [up2_at, if_neg (by omega)]) (fun j => by rw [up2_at, if_neg (by omega)])) (by rw [up2_at, if_pos ⟨rfl, rfl⟩])
      exact ⟨y', e1, e2, fun a b hab => by rw [e3 a b hab, up2_at, if_neg hab]⟩
    · rw [if_neg (fun q => hp ((blaC _ hc).mp q)), if_neg hp]
      exact ⟨y, rfl, h4, fun _ _ _ => rfl⟩
theorem endX {x : Sg} (h : TX tl B x) (v : Int32) : ∀ k n s, s + k = tl → k < n → fX1_endOfLetters_l2 x v n (nI s) = some (nI (rn (fun j => isL (B j)) k s)) := by
  have ht := h.1
  intro k
  induction k with
  | zero =>
    intro n s h1 h2
    obtain ⟨n, rfl⟩ := Nat.exists_eq_succ_of_ne_zero (show n ≠ 0 by omega)
    rw [fX1_endOfLetters_l2, h.2.1, if_pos (nI_le (by omega) (by omega))]; rfl
  | succ k ih =>
    intro n s h1 h2
    obtain ⟨n, rfl⟩ := Nat.exists_eq_succ_of_ne_zero (show n ≠ 0 by omega)
    have hc := (h.2.2 s (by omega)).1
    rw [fX1_endOfLetters_l2, h.2.1, if_neg (nI_ge (by omega) (by omega)), atX h (by omega), bnd, letX _ hc, bnd, rn]
    by_cases hp : isL (B s) = true
    · rw [if_pos hp, if_neg (by decide), nI_1, if_pos hp]; exact ih n (s + 1) (by omega) (by omega)
    · rw [if_neg hp, if_pos rfl, if_neg hp]
theorem letsM : ∀ k n i (y : Sg), i + k = tl → k < n → TM tl B y → y 0 13 = nI i → ∃ y', fX8_step_l84 n y = some y' ∧ y' 0 13 = nI (rn (fun j => isL (B j)) k i) ∧ y' 0 15 = 1 ∧ ∀ a b, ¬ (a = 0 ∧ (b = 13 ∨ b = 15)) → y' a b = y a b := by
  intro k
  induction k with
  | zero =>
    intro n i y h1 h2 h h4
    obtain ⟨n, rfl⟩ := Nat.exists_eq_succ_of_ne_zero (show n ≠ 0 by omega)
    have ht := h.1
    refine ⟨up2 y 0 15 1, ?_, by rw [up2_at, if_neg (by omega), h4]; rfl, by rw [up2_at, if_pos ⟨rfl, rfl⟩], fun a b hab => by rw [up2_at, if_neg (by omega)]⟩
    rw [fX8_step_l84, h4, byM0 h (by omega) (by omega), bnd, letM4, bnd, if_pos rfl, pfb]
  | succ k ih =>
    intro n i y h1 h2 h h4
    obtain ⟨n, rfl⟩ := Nat.exists_eq_succ_of_ne_zero (show n ≠ 0 by omega)
    have ht := h.1
    have hc := (h.2.2 i (by omega)).1
    rw [fX8_step_l84, h4, byM h (by omega), bnd, letM _ hc, bnd, rn]
    by_cases hp : isL (B i) = true
    · rw [if_pos hp, if_neg (by decide), pfb, if_pos hp, nI_1]
      obtain ⟨y', e1, e2, e4, e3⟩ := ih n (i + 1) (up2 y 0 13 (nI (i + 1))) (by omega) (by omega) (h.fr (by rw [up2_at, if_neg (by omega)]) (fun j => by rw [up2_at, if_neg (by omega)])) (by rw [up2_at, if_pos ⟨rfl, rfl⟩])
      exact ⟨y', e1, e2, e4, fun a b hab => by rw [e3 a b hab, up2_at, if_neg (by omega)]⟩
    · rw [if_neg hp, if_pos rfl, pfb, if_neg hp]
      exact ⟨_, rfl, by rw [up2_at, if_neg (by omega), h4], by rw [up2_at, if_pos ⟨rfl, rfl⟩], fun a b hab => by rw [up2_at, if_neg (by omega)]⟩
def nv (B : Nat → Nat) (s : Nat) : Nat → Nat
  | 0 => 0
  | d + 1 => if d < 2 then nv B s d * 10 + (B (s + d) - 48) else nv B s d
theorem nv_le {s d : Nat} (hd : d ≤ 2) (h : ∀ j, s ≤ j → j < s + d → isF (B j) = true) : nv B s d ≤ 99 := by
  rcases (show d = 0 ∨ d = 1 ∨ d = 2 by omega) with rfl | rfl | rfl
  · simp [nv]
  · have := isF_b (h s (by omega) (by omega))
    simp [nv]; omega
  · have h1 := isF_b (h s (by omega) (by omega))
    have h2 := isF_b (h (s + 1) (by omega) (by omega))
    simp [nv]; omega
theorem digM {v c : Nat} (hc : 48 ≤ c) : ((10 : Int32) * nI v + nI c) - 48 = nI (v * 10 + (c - 48)) := by
  rw [show (10 : Int32) = nI 10 from rfl, show (48 : Int32) = nI 48 from rfl, nI_mul, nI_add, pk_sub (by omega)]
  exact congrArg nI (by omega)
theorem digX {v c : Nat} (hc : 48 ≤ c) : (nI v * (10 : Int32) + nI c) - 48 = nI (v * 10 + (c - 48)) := by
  rw [show (10 : Int32) = nI 10 from rfl, show (48 : Int32) = nI 48 from rfl, nI_mul, nI_add, pk_sub (by omega)]
  exact congrArg nI (by omega)
theorem sub_d (s d : Nat) : nI (s + d) - nI s = nI d := by rw [pk_sub (by omega), Nat.add_sub_cancel_left]
def fin8 (σ : Sg) : Option Sg := (pf σ 0 15 (2 : Int32)).bind fun σ3 => if ((σ3 0 13) - (σ3 0 14)) ≤ (2 : Int32) then some σ3 else (fX8_fails σ3 (1 : Int32)).bind fun σ4 => some σ4
theorem numsM {s : Nat} : ∀ k n d (y : Sg), s + d + k = tl → k < n → TM tl B y → y 0 14 = nI s → y 0 13 = nI (s + d) → y 0 16 = nI (nv B s d) → ∃ y', fX8_step_l140 n y = fin8 y' ∧ y' 0 13 = nI (rn (fun j => isF (B j)) k (s + d)) ∧ y' 0 16 = nI (nv B s (rn (fun j => isF (B j)) k (s + d) - s)) ∧ ∀ a b, ¬ (a = 0 ∧ (b = 13 ∨ b = 16)) → y' a b = y a b := by
  intro k
  induction k with
  | zero =>
    intro n d y h1 h2 h h4 h3 h6
    obtain ⟨n, rfl⟩ := Nat.exists_eq_succ_of_ne_zero (show n ≠ 0 by omega)
    have ht := h.1
    have hb : fX8_byteAt y (y 0 13) = some (-4) := by rw [h3]; exact byM0 h (by omega) (by omega)
    refine ⟨y, ?_, h3, by rw [rn, Nat.add_sub_cancel_left, h6], fun _ _ _ => rfl⟩
    rw [fX8_step_l140, hb, bnd, figM4, bnd, if_pos rfl]; rfl
  | succ k ih =>
    intro n d y h1 h2 h h4 h3 h6
    obtain ⟨n, rfl⟩ := Nat.exists_eq_succ_of_ne_zero (show n ≠ 0 by omega)
    have ht := h.1
    have hc := (h.2.2 (s + d) (by omega)).1
    have hb : fX8_byteAt y (y 0 13) = some (nI (B (s + d))) := by rw [h3]; exact byM h (by omega)
    by_cases hp : isF (B (s + d)) = true
    · have hx : ∀ w, w = nv B s (d + 1) → ∃ y', fX8_step_b201 (fun σ => fX8_step_l140 n σ) y (nI w) = fin8 y' ∧ y' 0 13 = nI (rn (fun j => isF (B j)) (k + 1) (s + d)) ∧ y' 0 16 = nI (nv B s (rn (fun j => isF (B j)) (k + 1) (s + d) - s)) ∧ ∀ a b, ¬ (a = 0 ∧ (b = 13 ∨ b = 16)) → y' a b = y a b := by
        intro w hw
        obtain ⟨y', e1, e2, e4, e3⟩ := ih n (d + 1) (up2 (up2 y 0 16 (nI w)) 0 13 (nI (s + d + 1))) (by omega) (by omega) (h.fr (by rw [up2_at, if_neg (by omega), up2_at, if_neg (by omega)]) (fun j => by rw [up2_at, if_neg (by omega), up2_at, if_neg (by omega)])) (by rw [up2_at, if_neg (by omega), up2_at, if_neg (by omega), h4]) (by rw [up2_at, if_pos ⟨rfl, rfl⟩]; rfl) (by rw [up2_at, if_neg (by omega), up2_at, if_pos ⟨rfl, rfl⟩, hw])
        have er : rn (fun j => isF (B j)) (k + 1) (s + d) = rn (fun j => isF (B j)) k (s + (d + 1)) := by rw [rn, if_pos hp]; rfl
        rw [er]
        refine ⟨y', ?_, e2, e4, fun a b hab => by rw [e3 a b hab, up2_at, if_neg (by omega), up2_at, if_neg (by omega)]⟩
        unfold fX8_step_b201
        rw [pfb, pfb, up2_at, if_neg (by omega), h3, nI_1]; exact e1
      rw [fX8_step_l140, hb, bnd, figM _ hc, bnd, if_pos hp, if_neg (by decide), bnd, h3, h4, sub_d, h6]
      by_cases hd : d < 2
      · rw [if_neg (show ¬ (2 : Int32) ≤ nI d from nI_ge (b := 2) hd (by omega)), digM (isF_b hp).1]
        exact hx _ (by rw [nv, if_pos hd])
      · rw [if_pos (show (2 : Int32) ≤ nI d from nI_le (a := 2) (by omega) (by omega))]
        exact hx _ (by rw [nv, if_neg hd])
    · refine ⟨y, ?_, by rw [rn, if_neg hp, h3], by rw [rn, if_neg hp, Nat.add_sub_cancel_left, h6], fun _ _ _ => rfl⟩
      rw [fX8_step_l140, hb, bnd, figM _ hc, bnd, if_neg hp, if_pos rfl]; rfl
theorem numsX {s : Nat} : ∀ k n d (x : Sg), s + d + k = tl → k < n → TX tl B x → x 31 4 = nI s → x 31 5 = nI (s + d) → x 31 7 = nI (nv B s d) → ∃ x', fX1_readNumber_l18 n x = fX1_readNumber_b108 x' ∧ x' 31 5 = nI (rn (fun j => isF (B j)) k (s + d)) ∧ x' 31 7 = nI (nv B s (rn (fun j => isF (B j)) k (s + d) - s)) ∧ ∀ a b, ¬ (a = 31 ∧ (b = 5 ∨ b = 7)) → x' a b = x a b := by
  intro k
  induction k with
  | zero =>
    intro n d x h1 h2 h h4 h3 h6
    obtain ⟨n, rfl⟩ := Nat.exists_eq_succ_of_ne_zero (show n ≠ 0 by omega)
    have ht := h.1
    refine ⟨x, ?_, h3, by rw [rn, Nat.add_sub_cancel_left, h6], fun _ _ _ => rfl⟩
    rw [fX1_readNumber_l18, h.2.1, h3, if_pos (nI_le (by omega) (by omega))]
  | succ k ih =>
    intro n d x h1 h2 h h4 h3 h6
    obtain ⟨n, rfl⟩ := Nat.exists_eq_succ_of_ne_zero (show n ≠ 0 by omega)
    have ht := h.1
    have hc := (h.2.2 (s + d) (by omega)).1
    by_cases hp : isF (B (s + d)) = true
    · have hx : ∀ w, w = nv B s (d + 1) → ∃ x', fX1_readNumber_b92 (fun σ => fX1_readNumber_l18 n σ) x (nI w) = fX1_readNumber_b108 x' ∧ x' 31 5 = nI (rn (fun j => isF (B j)) (k + 1) (s + d)) ∧ x' 31 7 = nI (nv B s (rn (fun j => isF (B j)) (k + 1) (s + d) - s)) ∧ ∀ a b, ¬ (a = 31 ∧ (b = 5 ∨ b = 7)) → x' a b = x a b := by
        intro w hw
        obtain ⟨x', e1, e2, e4, e3⟩ := ih n (d + 1) (up2 (up2 x 31 7 (nI w)) 31 5 (nI (s + d + 1))) (by omega) (by omega) (h.fr (by rw [up2_at, if_neg (by omega), up2_at, if_neg (by omega)]) (fun j => by rw [up2_at, if_neg (by omega), up2_at, if_neg (by omega)])) (by rw [up2_at, if_neg (by omega), up2_at, if_neg (by omega), h4]) (by rw [up2_at, if_pos ⟨rfl, rfl⟩]; rfl) (by rw [up2_at, if_neg (by omega), up2_at, if_pos ⟨rfl, rfl⟩, hw])
        have er : rn (fun j => isF (B j)) (k + 1) (s + d) = rn (fun j => isF (B j)) k (s + (d + 1)) := by rw [rn, if_pos hp]; rfl
        rw [er]
        refine ⟨x', ?_, e2, e4, fun a b hab => by rw [e3 a b hab, up2_at, if_neg (by omega), up2_at, if_neg (by omega)]⟩
        unfold fX1_readNumber_b92
        rw [pfb, pfb, up2_at, if_neg (by omega), h3, nI_1]; exact e1
      have ha : fX5_at x (x 31 5) = some (nI (B (s + d))) := by rw [h3]; exact atX h (by omega)
      rw [fX1_readNumber_l18, ha, bnd, figX _ hc, bnd, if_pos hp, h.2.1, h3, if_neg (nI_ge (by omega) (by omega)), if_neg (by decide), bnd, h4, sub_d, h6]
      by_cases hd : d < 2
      · rw [if_neg (show ¬ (2 : Int32) ≤ nI d from nI_ge (b := 2) hd (by omega)), digX (isF_b hp).1]
        exact hx _ (by rw [nv, if_pos hd])
      · rw [if_pos (show (2 : Int32) ≤ nI d from nI_le (a := 2) (by omega) (by omega))]
        exact hx _ (by rw [nv, if_neg hd])
    · refine ⟨x, ?_, by rw [rn, if_neg hp, h3], by rw [rn, if_neg hp, Nat.add_sub_cancel_left, h6], fun _ _ _ => rfl⟩
      rw [fX1_readNumber_l18, h.2.1, h3, if_neg (nI_ge (by omega) (by omega)), atX h (by omega), bnd, figX _ hc, bnd, if_neg hp, if_pos rfl]
end LX
