-- the text: the names that begin a line
def chs : List (List Nat) := [[112, 108, 97, 105, 110], [109, 111, 117, 110, 100], [116, 101, 110, 116], [116, 119, 105, 99, 101], [108, 111, 114, 100], [112, 114, 105, 99, 101]]
def ch (i k : Nat) : Nat := (chs.getD i []).getD k 0
def ln (i : Nat) : Nat := lenS.getD i 0
def ct (i : Nat) : Nat := [0, 5, 10, 14, 19, 23, 28].getD i 0
theorem sByN : ∀ i, i < 6 → ∀ k, k < 5 → sBy i k = nI (ch i k) := by decide
theorem chB : ∀ i, i < 6 → ∀ k, k < 5 → ch i k < 128 := by decide
theorem ctN : ∀ i, i < 7 → σM0 4 i = nI (ct i) := by decide +kernel
theorem leN : ∀ i, i < 6 → ∀ k, k < ln i → σM0 5 (ct i + k) = nI (ch i k) := by decide +kernel
theorem lnB : ∀ i, i < 6 → ln i ≤ 5 ∧ ct i + ln i ≤ 28 ∧ nI (ct (i + 1)) - nI (ct i) = nI (ln i) := by decide +kernel
def mc (B : Nat → Nat) (s i : Nat) : Nat → Bool
  | 0 => true
  | k + 1 => mc B s i k && decide (B (s + k) = ch i k)
theorem mc_f {B : Nat → Nat} {s i k : Nat} (h : ¬ mc B s i k = true) : ∀ d, ¬ mc B s i (k + d) = true
  | 0 => h
  | d + 1 => by
    have := mc_f h d
    rw [← Nat.add_assoc, mc, Bool.and_eq_true]
    exact fun q => this q.1
def nm (B : Nat → Nat) (s e i : Nat) : Bool := decide (e - s = ln i) && mc B s i (ln i)
def nmF (B : Nat → Nat) (s e : Nat) : Nat → Nat → Option Int32
  | 0, _ => some (-4)
  | m + 1, i => if nm B s e i = true then some (nI i) else nmF B s e m (i + 1)
theorem pick {α : Type} (c : Bool) (A D : Option α) : ((some (if c = true then (1 : Int32) else 0)).bind fun t => if t = 0 then A else D) = if c = true then D else A := by
  rw [bnd]
  by_cases h : c = true
  · rw [if_pos h, if_neg (by decide), if_pos h]
  · rw [if_neg h, if_pos rfl, if_neg h]
section NM
variable {tl : Nat} {B : Nat → Nat} {x y : Sg} {s e : Nat}
theorem isNm_l (h : TX tl B x) (hs : x 31 4 = nI s) {i : Nat} (hi : i < 6) (hl : s + ln i ≤ tl) : ∀ k n j, j + k = ln i → k < n → mc B s i j = true → fX1_isName_l28 x i n (nI j) = some (if mc B s i (ln i) = true then 1 else 0) := by
  have ht := h.1
  have hb := (lnB i hi).1
  intro k
  induction k with
  | zero =>
    intro n j h1 h2 h3
    obtain ⟨n, rfl⟩ := Nat.exists_eq_succ_of_ne_zero (show n ≠ 0 by omega)
    rw [fX1_isName_l28, if_pos (show sLen i ≤ nI j from nI_le (a := ln i) (by omega) (by omega)), if_pos (by rw [← h1]; exact h3)]
  | succ k ih =>
    intro n j h1 h2 h3
    obtain ⟨n, rfl⟩ := Nat.exists_eq_succ_of_ne_zero (show n ≠ 0 by omega)
    have hc := (h.2.2 (s + j) (by omega)).1
    have hd := chB i hi j (by omega)
    have r1 : j < lenS.getD i 0 := show j < ln i by omega
    have r2 : lenS.getD i 0 < 2 ^ 31 := show ln i < 2 ^ 31 by omega
    rw [fX1_isName_l28, if_neg (show ¬ sLen i ≤ nI j from nI_ge (b := ln i) (by omega) (by omega)), hs, nI_add, atX h (by omega), bnd, rdN r1 r2, bnd, sByN i hi j (by omega), nI_1]
    by_cases hq : B (s + j) = ch i j
    · rw [if_pos (by rw [hq])]
      exact ih n (j + 1) (by omega) (by omega) (by rw [mc, h3, hq]; simp)
    · rw [if_neg (fun q => hq ((nI_eq (by omega) (by omega)).mp q))]
      have hm : ¬ mc B s i (j + 1) = true := by rw [mc, Bool.and_eq_true]; exact fun q => hq (of_decide_eq_true q.2)
      have := mc_f hm k
      rw [show j + 1 + k = ln i by omega] at this
      rw [if_neg this]
theorem isNm (h : TX tl B x) (hs : x 31 4 = nI s) (he : x 31 5 = nI e) (h6 : x 31 6 = 1) (hse : s ≤ e) (het : e ≤ tl) {i : Nat} (hi : i < 6) : fX1_isName x i = some (if nm B s e i = true then 1 else 0) := by
  have ht := h.1
  have hb := (lnB i hi).1
  unfold fX1_isName
  rw [if_pos h6, he, hs, pk_sub hse]
  by_cases hq : e - s = ln i
  · rw [if_pos (show nI (e - s) = sLen i by rw [hq]; rfl), show (0 : Int32) = nI 0 from rfl, isNm_l h hs hi (by omega) (ln i) 2000 0 (by omega) (by omega) rfl]
    unfold nm
    rw [hq]; simp; rfl
  · rw [if_neg (show ¬ nI (e - s) = sLen i from fun q => hq ((nI_eq (b := ln i) (by omega) (by omega)).mp q))]
    unfold nm
    simp [hq]
theorem begX (h : TX tl B x) (hs : x 31 4 = nI s) (he : x 31 5 = nI e) (h6 : x 31 6 = 1) (hse : s ≤ e) (het : e ≤ tl) : fX1_beginning x = nmF B s e 6 0 := by
  unfold fX1_beginning
  rw [isNm h hs he h6 hse het (i := 0) (by omega), pick, isNm h hs he h6 hse het (i := 1) (by omega), pick, isNm h hs he h6 hse het (i := 2) (by omega), pick, isNm h hs he h6 hse het (i := 3) (by omega), pick, isNm h hs he h6 hse het (i := 4) (by omega), pick, isNm h hs he h6 hse het (i := 5) (by omega), pick]
  rfl
theorem begX0 (h6 : ¬ x 31 6 = 1) : fX1_beginning x = some (-4) := by
  unfold fX1_beginning fX1_isName
  simp only [if_neg h6, bnd, if_true]
theorem nmM_l51 (h : TM tl B y) (h4 : y 4 = σM0 4) (h5 : y 5 = σM0 5) (h13 : y 0 13 = nI e) (h14 : y 0 14 = nI s) (hse : s ≤ e) (het : e ≤ tl) {i : Nat} (hi : i < 6) (hl : e - s = ln i) (k2 : Int32 → Option Int32) : ∀ k n j, j + k = ln i → k < n → mc B s i j = true → fX8_nameHere_l51 y k2 n (nI i) 1 (nI j) = if mc B s i (ln i) = true then some (nI i) else k2 (nI (i + 1)) := by
  have ht := h.1
  have hb := lnB i hi
  intro k
  induction k with
  | zero =>
    intro n j h1 h2 h3
    obtain ⟨n, rfl⟩ := Nat.exists_eq_succ_of_ne_zero (show n ≠ 0 by omega)
    rw [fX8_nameHere_l51, if_neg (by decide), h13, h14, pk_sub hse, if_pos (nI_le (by omega) (by omega)), if_pos (by rw [← h1]; exact h3)]
    unfold fX8_nameHere_b106
    rw [if_neg (by decide)]
  | succ k ih =>
    intro n j h1 h2 h3
    obtain ⟨n, rfl⟩ := Nat.exists_eq_succ_of_ne_zero (show n ≠ 0 by omega)
    have hc := (h.2.2 (s + j) (by omega)).1
    have hd := chB i hi j (by omega)
    rw [fX8_nameHere_l51, if_neg (by decide), h13, h14, pk_sub hse, if_neg (nI_ge (by omega) (by omega)), nI_add, byM h (by omega), bnd, h4, rdN (by omega) (by omega), bnd, ctN i (by omega), nI_add, h5, rdN (by omega) (by omega), bnd, leN i hi j (by omega), nI_1]
    by_cases hq : B (s + j) = ch i j
    · rw [if_pos (by rw [hq])]
      exact ih n (j + 1) (by omega) (by omega) (by rw [mc, h3, hq]; simp)
    · rw [if_neg (fun q => hq ((nI_eq (by omega) (by omega)).mp q))]
      have hm : ¬ mc B s i (j + 1) = true := by rw [mc, Bool.and_eq_true]; exact fun q => hq (of_decide_eq_true q.2)
      have := mc_f hm k
      rw [show j + 1 + k = ln i by omega] at this
      rw [if_neg this]
      obtain ⟨n, rfl⟩ := Nat.exists_eq_succ_of_ne_zero (show n ≠ 0 by omega)
      rw [fX8_nameHere_l51, if_pos rfl]
      unfold fX8_nameHere_b106
      rw [if_pos rfl, nI_1]
theorem nmM_l2 (h : TM tl B y) (h4 : y 4 = σM0 4) (h5 : y 5 = σM0 5) (h13 : y 0 13 = nI e) (h14 : y 0 14 = nI s) (h15 : y 0 15 = 1) (hse : s ≤ e) (het : e ≤ tl) : ∀ m n i, i + m = 6 → m < n → fX8_nameHere_l2 y n (nI i) = nmF B s e m i := by
  have ht := h.1
  intro m
  induction m with
  | zero =>
    intro n i h1 h2
    obtain ⟨n, rfl⟩ := Nat.exists_eq_succ_of_ne_zero (show n ≠ 0 by omega)
    rw [fX8_nameHere_l2, if_pos (show (6 : Int32) ≤ nI i from nI_le (a := 6) (by omega) (by omega))]; rfl
  | succ m ih =>
    intro n i h1 h2
    obtain ⟨n, rfl⟩ := Nat.exists_eq_succ_of_ne_zero (show n ≠ 0 by omega)
    have hb := lnB i (by omega)
    rw [fX8_nameHere_l2, if_neg (show ¬ (6 : Int32) ≤ nI i from nI_ge (b := 6) (by omega) (by omega)), if_pos h15, nI_1, h4, rdN (by omega) (by omega), bnd, rdN (by omega) (by omega), bnd, ctN i (by omega), ctN (i + 1) (by omega), hb.2.2, h13, h14, pk_sub hse, nmF]
    by_cases hq : e - s = ln i
    · rw [if_pos (by rw [hq]), show (0 : Int32) = nI 0 from rfl, nmM_l51 h h4 h5 h13 h14 hse het (by omega) hq _ (ln i) 2000 0 (by omega) (by omega) rfl, ih n (i + 1) (by omega) (by omega)]
      unfold nm
      rw [hq]; simp
    · rw [if_neg (fun q => hq ((nI_eq (by omega) (by omega)).mp q)), fX8_nameHere_l51, if_pos rfl]
      unfold fX8_nameHere_b106 nm
      rw [if_pos rfl, nI_1]
      dsimp only
      rw [ih n (i + 1) (by omega) (by omega)]
      simp [hq]
theorem nmM (h : TM tl B y) (h4 : y 4 = σM0 4) (h5 : y 5 = σM0 5) (h13 : y 0 13 = nI e) (h14 : y 0 14 = nI s) (h15 : y 0 15 = 1) (hse : s ≤ e) (het : e ≤ tl) : fX8_nameHere y = nmF B s e 6 0 := nmM_l2 h h4 h5 h13 h14 h15 hse het 6 2000 0 (by omega) (by omega)
theorem nmM0 (h15 : ¬ y 0 15 = 1) : fX8_nameHere y = some (-4) := by
  unfold fX8_nameHere
  rw [show 2000 = 1999 + 1 from rfl, fX8_nameHere_l2, if_neg (by decide), if_neg h15]
end NM
theorem nmF_c (B : Nat → Nat) (s e : Nat) : ∀ m i, nmF B s e m i = some (-4) ∨ ∃ k, i ≤ k ∧ k < i + m ∧ nmF B s e m i = some (nI k)
  | 0, i => Or.inl rfl
  | m + 1, i => by
    rw [nmF]
    by_cases h : nm B s e i = true
    · exact Or.inr ⟨i, by omega, by omega, by rw [if_pos h]⟩
    · rw [if_neg h]
      rcases nmF_c B s e m (i + 1) with q | ⟨k, h1, h2, h3⟩
      · exact Or.inl q
      · exact Or.inr ⟨k, by omega, by omega, h3⟩
