section XR
variable {σ : Sg} {a : Nat} {r : Rm}
theorem eX_every (h : RX σ a r) (v : RV r) : fX2_everyBorough σ a = some (nI (allR r)) := by
  unfold fX2_everyBorough
  rw [h.2.1, shl1 _ (by have := v.2.1; omega)]; rfl
theorem eX_everyL (h : RX σ a r) (v : RV r) : fX2_everyLord σ a = some (nI (2 ^ nl r - 1)) := by
  unfold fX2_everyLord
  rw [h.1, shl1 _ (by have := v.1; omega)]
theorem eX_seats_l (h : RX σ a r) (v : RV r) {s : Nat} (hs : s < 2 ^ 31) : ∀ k n i, i + k = nb r → k < n → fX2_seatsIn_l4 σ a (nI s) n (nI (sm i (seatsF r s))) (nI i) = some (nI (seatsR r s)) := by
  have hb := v.2.1
  intro k
  induction k with
  | zero =>
    intro n i h1 h2
    obtain ⟨n, rfl⟩ := Nat.exists_eq_succ_of_ne_zero (show n ≠ 0 by omega)
    rw [fX2_seatsIn_l4, h.2.1, if_pos (nI_le (by omega) (by omega)), show i = nb r by omega]; rfl
  | succ k ih =>
    intro n i h1 h2
    obtain ⟨n, rfl⟩ := Nat.exists_eq_succ_of_ne_zero (show n ≠ 0 by omega)
    have hi := ih n (i + 1) (by omega) (by omega)
    rw [fX2_seatsIn_l4, h.2.1, if_neg (nI_ge (by omega) (by omega)), holdsN hs (by omega), bnd]
    rw [sm, seatsF] at hi
    by_cases hc : s.testBit i = true
    · rw [if_pos hc, if_neg (by decide), rdN (by omega) (by omega), bnd, (h.2.2.2.2 i (by omega)).2.2.1, nI_add, nI_1]
      rw [if_pos hc] at hi; exact hi
    · rw [if_neg hc, if_pos rfl, nI_1]
      rw [if_neg hc] at hi; exact hi
theorem eX_seats (h : RX σ a r) (v : RV r) {s : Nat} (hs : s < 2 ^ 31) : fX2_seatsIn σ a (nI s) = some (nI (seatsR r s)) :=
  eX_seats_l h v hs (nb r) 2000 0 (by omega) (by have := v.2.1; omega)
theorem eX_held_l (h : RX σ a r) (v : RV r) {s : Nat} (hs : s < 2 ^ 31) : ∀ k n i, i + k = nb r → k < n → fX2_heldBy_l4 σ a (nI s) n (nI (msk i (heldP r s))) (nI i) = some (nI (heldR r s)) := by
  have hb := v.2.1
  have hl := v.1
  intro k
  induction k with
  | zero =>
    intro n i h1 h2
    obtain ⟨n, rfl⟩ := Nat.exists_eq_succ_of_ne_zero (show n ≠ 0 by omega)
    rw [fX2_heldBy_l4, h.2.1, if_pos (nI_le (by omega) (by omega)), show i = nb r by omega]; rfl
  | succ k ih =>
    intro n i h1 h2
    obtain ⟨n, rfl⟩ := Nat.exists_eq_succ_of_ne_zero (show n ≠ 0 by omega)
    have hi := ih n (i + 1) (by omega) (by omega)
    have ho := (v.2.2.2.2 i (by omega)).2.2.2.2
    rw [fX2_heldBy_l4, h.2.1, if_neg (nI_ge (by omega) (by omega)), rdN (by omega) (by omega), bnd, (h.2.2.2.2 i (by omega)).2.2.2]
    rw [msk] at hi
    by_cases hw : ow r i = 0
    · rw [if_pos ((oX_ne (by omega)).mpr hw), nI_1]
      rw [if_neg (by simp [heldP, hw])] at hi; exact hi
    · rw [if_neg (fun q => hw ((oX_ne (by omega)).mp q)), bnd, oX_pos hw, holdsN hs (by omega), bnd]
      by_cases hc : s.testBit (ow r i - 1) = true
      · rw [if_pos hc, if_neg (by decide), shlN (by omega), orN (msk_lt _ i), nI_1]
        rw [if_pos (by simp [heldP, hw, hc])] at hi; exact hi
      · rw [if_neg hc, if_pos rfl, nI_1]
        rw [if_neg (by simp [heldP, hw]; simpa using hc)] at hi; exact hi
theorem eX_held (h : RX σ a r) (v : RV r) {s : Nat} (hs : s < 2 ^ 31) : fX2_heldBy σ a (nI s) = some (nI (heldR r s)) :=
  eX_held_l h v hs (nb r) 2000 0 (by omega) (by have := v.2.1; omega)
theorem eX_own_l (h : RX σ a r) (v : RV r) : ∀ k n i, i + k = nb r → k < n → fX2_ownerless_l4 σ a n (nI (msk i (noP r))) (nI i) = some (nI (nobR r)) := by
  have hb := v.2.1
  have hl := v.1
  intro k
  induction k with
  | zero =>
    intro n i h1 h2
    obtain ⟨n, rfl⟩ := Nat.exists_eq_succ_of_ne_zero (show n ≠ 0 by omega)
    rw [fX2_ownerless_l4, h.2.1, if_pos (nI_le (by omega) (by omega)), show i = nb r by omega]; rfl
  | succ k ih =>
    intro n i h1 h2
    obtain ⟨n, rfl⟩ := Nat.exists_eq_succ_of_ne_zero (show n ≠ 0 by omega)
    have hi := ih n (i + 1) (by omega) (by omega)
    have ho := (v.2.2.2.2 i (by omega)).2.2.2.2
    rw [fX2_ownerless_l4, h.2.1, if_neg (nI_ge (by omega) (by omega)), rdN (by omega) (by omega), bnd, (h.2.2.2.2 i (by omega)).2.2.2]
    rw [msk] at hi
    by_cases hw : ow r i = 0
    · rw [if_pos ((oX_ne (by omega)).mpr hw), shlN (by omega), orN (msk_lt _ i), nI_1]
      rw [if_pos (by simp [noP, hw])] at hi; exact hi
    · rw [if_neg (fun q => hw ((oX_ne (by omega)).mp q)), nI_1]
      rw [if_neg (by simp [noP, hw])] at hi; exact hi
theorem eX_own (h : RX σ a r) (v : RV r) : fX2_ownerless σ a = some (nI (nobR r)) :=
  eX_own_l h v (nb r) 2000 0 (by omega) (by have := v.2.1; omega)
theorem eX_sl_l (h : RX σ a r) (v : RV r) : ∀ k n i, i + k = nb r → k < n → fX2_seatless_l4 σ a n (nI (msk i (slP r))) (nI i) = some (nI (slR r)) := by
  have hb := v.2.1
  intro k
  induction k with
  | zero =>
    intro n i h1 h2
    obtain ⟨n, rfl⟩ := Nat.exists_eq_succ_of_ne_zero (show n ≠ 0 by omega)
    rw [fX2_seatless_l4, h.2.1, if_pos (nI_le (by omega) (by omega)), show i = nb r by omega]; rfl
  | succ k ih =>
    intro n i h1 h2
    obtain ⟨n, rfl⟩ := Nat.exists_eq_succ_of_ne_zero (show n ≠ 0 by omega)
    have hi := ih n (i + 1) (by omega) (by omega)
    have ho := (v.2.2.2.2 i (by omega)).2.2.2.1
    rw [fX2_seatless_l4, h.2.1, if_neg (nI_ge (by omega) (by omega)), rdN (by omega) (by omega), bnd, (h.2.2.2.2 i (by omega)).2.2.1]
    rw [msk] at hi
    by_cases hw : se r i = 0
    · rw [if_pos (by rw [hw]; rfl), shlN (by omega), orN (msk_lt _ i), nI_1]
      rw [if_pos (by simp [slP, hw])] at hi; exact hi
    · rw [if_neg (nI_ne0 (by omega) (by omega)), nI_1]
      rw [if_neg (by simp [slP, hw])] at hi; exact hi
theorem eX_sl (h : RX σ a r) (v : RV r) : fX2_seatless σ a = some (nI (slR r)) :=
  eX_sl_l h v (nb r) 2000 0 (by omega) (by have := v.2.1; omega)
theorem eX_gui_l (h : RX σ a r) (v : RV r) : ∀ k n i, i + k = nl r → k < n → fX2_allGuineas_l4 σ a n (nI (sm i (gu r))) (nI i) = some (nI (guiR r)) := by
  have hb := v.1
  intro k
  induction k with
  | zero =>
    intro n i h1 h2
    obtain ⟨n, rfl⟩ := Nat.exists_eq_succ_of_ne_zero (show n ≠ 0 by omega)
    rw [fX2_allGuineas_l4, h.1, if_pos (nI_le (by omega) (by omega)), show i = nl r by omega]; rfl
  | succ k ih =>
    intro n i h1 h2
    obtain ⟨n, rfl⟩ := Nat.exists_eq_succ_of_ne_zero (show n ≠ 0 by omega)
    have hi := ih n (i + 1) (by omega) (by omega)
    rw [fX2_allGuineas_l4, h.1, if_neg (nI_ge (by omega) (by omega)), rdN (by omega) (by omega), bnd, h.2.2.2.1 i (by omega), nI_add, nI_1]
    exact hi
theorem eX_gui (h : RX σ a r) (v : RV r) : fX2_allGuineas σ a = some (nI (guiR r)) :=
  eX_gui_l h v (nl r) 2000 0 (by omega) (by have := v.1; omega)
theorem wiX (n : Nat) (hn : n < 2 ^ 31) (x : Int32) : (x < 0 ∨ nI n ≤ x) ∨ ∃ i, i < n ∧ x = nI i := by
  rcases pk_ix x hn with h | h | h
  · exact Or.inl (Or.inl h)
  · exact Or.inl (Or.inr h)
  · exact Or.inr h
theorem eX_hasB (h : RX σ a r) (v : RV r) {i : Nat} (hi : i < nb r) : fX2_hasBorough σ a (nI i) = some 1 := by
  have := v.2.1
  unfold fX2_hasBorough
  rw [h.2.1, if_neg (nI_pos (by omega)), if_neg (nI_ge hi (by omega))]
theorem eX_hasBn (h : RX σ a r) {x : Int32} (hx : x < 0 ∨ nI (nb r) ≤ x) : fX2_hasBorough σ a x = some 0 := by
  unfold fX2_hasBorough
  rw [h.2.1]
  by_cases h1 : x < 0
  · rw [if_pos h1]
  · rw [if_neg h1, if_pos (hx.resolve_left h1)]
theorem eX_hasL (h : RX σ a r) (v : RV r) {i : Nat} (hi : i < nl r) : fX2_hasLord σ a (nI i) = some 1 := by
  have := v.1
  unfold fX2_hasLord
  rw [h.1, if_neg (nI_pos (by omega)), if_neg (nI_ge hi (by omega))]
theorem eX_hasLn (h : RX σ a r) {x : Int32} (hx : x < 0 ∨ nI (nl r) ≤ x) : fX2_hasLord σ a x = some 0 := by
  unfold fX2_hasLord
  rw [h.1]
  by_cases h1 : x < 0
  · rw [if_pos h1]
  · rw [if_neg h1, if_pos (hx.resolve_left h1)]
theorem dvN {x : Nat} (hx : x < 2 ^ 31) : dv (nI x) 2 = some (nI (x / 2)) := by
  unfold dv
  rw [if_neg (by decide)]
  exact congrArg some (pk_div hx (by decide) (by decide))
theorem votR_le (v : RV r) {i : Nat} (hi : i < nb r) : votR r i ≤ 14 := by
  have := v.2.2.2.2 i hi
  unfold votR
  split
  · omega
  · split
    · omega
    · split <;> omega
theorem eX_vot (h : RX σ a r) (v : RV r) {i : Nat} (hi : i < nb r) : fX2_votesOf σ a (nI i) = some (nI (votR r i)) := by
  have hb := v.2.1
  have hv := v.2.2.2.2 i hi
  have hx := h.2.2.2.2 i hi
  unfold fX2_votesOf
  rw [eX_hasB h v hi, bnd, if_neg (by decide), rdN (by omega) (by omega), bnd, hx.2.1, nI_1, dvN (by omega), bnd, rdN (by omega) (by omega), bnd, hx.1, bnd, bnd]
  unfold votR
  by_cases h0 : kd r i = 0
  · rw [h0, if_pos (show nI 0 = 0 from rfl), if_pos rfl]
  · rw [if_neg (nI_ne0 (by omega) (by omega)), if_neg h0]
    by_cases h1 : kd r i = 1
    · rw [h1, if_pos (show nI 1 = 1 from rfl), if_pos rfl]
    · rw [if_neg (fun q => h1 ((nI_eq (by omega) (by omega)).mp (q.trans (show (1 : Int32) = nI 1 from rfl)))), if_neg h1]
      by_cases h2 : kd r i = 2
      · rw [h2, if_pos (show nI 2 = 2 from rfl), if_pos rfl, nI_1]
      · rw [if_neg (fun q => h2 ((nI_eq (by omega) (by omega)).mp (q.trans (show (2 : Int32) = nI 2 from rfl)))), if_neg h2, nI_add]
theorem eX_cos (h : RX σ a r) (v : RV r) {i : Nat} (hi : i < nb r) : fX2_costOf σ a (nI i) = some (nI (cosR r i)) := by
  unfold fX2_costOf
  rw [eX_vot h v hi, bnd, h.2.2.1, nI_mul]; rfl
theorem eX_costs_l (h : RX σ a r) (v : RV r) {s : Nat} (hs : s < 2 ^ 31) : ∀ k n i, i + k = nb r → k < n → fX2_costOfAll_l4 σ a (nI s) n (nI (sm i (fun b => if s.testBit b = true then cosR r b else 0))) (nI i) = some (nI (costsR r s)) := by
  have hb := v.2.1
  intro k
  induction k with
  | zero =>
    intro n i h1 h2
    obtain ⟨n, rfl⟩ := Nat.exists_eq_succ_of_ne_zero (show n ≠ 0 by omega)
    rw [fX2_costOfAll_l4, h.2.1, if_pos (nI_le (by omega) (by omega)), show i = nb r by omega]; rfl
  | succ k ih =>
    intro n i h1 h2
    obtain ⟨n, rfl⟩ := Nat.exists_eq_succ_of_ne_zero (show n ≠ 0 by omega)
    have hi := ih n (i + 1) (by omega) (by omega)
    rw [fX2_costOfAll_l4, h.2.1, if_neg (nI_ge (by omega) (by omega)), holdsN hs (by omega), bnd]
    rw [sm] at hi
    by_cases hc : s.testBit i = true
    · rw [if_pos hc, if_neg (by decide), eX_cos h v (by omega), bnd, nI_add, nI_1]
      rw [if_pos hc] at hi; exact hi
    · rw [if_neg hc, if_pos rfl, nI_1]
      rw [if_neg hc] at hi; exact hi
theorem eX_costs (h : RX σ a r) (v : RV r) {s : Nat} (hs : s < 2 ^ 31) : fX2_costOfAll σ a (nI s) = some (nI (costsR r s)) :=
  eX_costs_l h v hs (nb r) 2000 0 (by omega) (by have := v.2.1; omega)
theorem eX_av_l (h : RX σ a r) (v : RV r) : ∀ k n i, i + k = nb r → k < n → fX2_allVotes_l4 σ a n (nI (sm i (votR r))) (nI i) = some (nI (sm (nb r) (votR r))) := by
  have hb := v.2.1
  intro k
  induction k with
  | zero =>
    intro n i h1 h2
    obtain ⟨n, rfl⟩ := Nat.exists_eq_succ_of_ne_zero (show n ≠ 0 by omega)
    rw [fX2_allVotes_l4, h.2.1, if_pos (nI_le (by omega) (by omega)), show i = nb r by omega]
  | succ k ih =>
    intro n i h1 h2
    obtain ⟨n, rfl⟩ := Nat.exists_eq_succ_of_ne_zero (show n ≠ 0 by omega)
    have hi := ih n (i + 1) (by omega) (by omega)
    rw [fX2_allVotes_l4, h.2.1, if_neg (nI_ge (by omega) (by omega)), eX_vot h v (by omega), bnd, nI_add, nI_1]
    exact hi
theorem eX_av (h : RX σ a r) (v : RV r) : fX2_allVotes σ a = some (nI (sm (nb r) (votR r))) :=
  eX_av_l h v (nb r) 2000 0 (by omega) (by have := v.2.1; omega)
theorem seatsR_le (v : RV r) (s : Nat) : seatsR r s ≤ 18 := by
  have h1 : seatsR r s ≤ nb r * 3 := sm_le (fun i hi => by
    have := (v.2.2.2.2 i hi).2.2.2.1
    unfold seatsF; split <;> omega)
  have := v.2.1
  omega
theorem cosR_le (v : RV r) {i : Nat} (hi : i < nb r) : cosR r i ≤ 126 := by
  have h1 := votR_le v hi
  have h2 := v.2.2.1
  unfold cosR
  calc pr r * votR r i ≤ 9 * 14 := Nat.mul_le_mul h2 h1
    _ = 126 := by decide
theorem costsR_le (v : RV r) (s : Nat) : costsR r s ≤ 756 := by
  have h1 : costsR r s ≤ nb r * 126 := sm_le (fun i hi => by
    have := cosR_le v hi
    split <;> omega)
  have := v.2.1
  omega
theorem heldR_lt (v : RV r) (s : Nat) : heldR r s < 64 := by
  have h1 := msk_lt (heldP r s) (nb r)
  have h2 : 2 ^ nb r ≤ 2 ^ 6 := Nat.pow_le_pow_right (by decide) v.2.1
  unfold heldR; omega
theorem allR_lt (v : RV r) : allR r < 64 := by
  have h2 : 2 ^ nb r ≤ 2 ^ 6 := Nat.pow_le_pow_right (by decide) v.2.1
  have h3 : 0 < 2 ^ nb r := Nat.two_pow_pos _
  unfold allR; omega
theorem eX_car (h : RX σ a r) (v : RV r) {s : Nat} (hs : s < 2 ^ 31) : fX2_carries σ a (nI s) = some (if carR r s = true then 1 else 0) := by
  have h1 := seatsR_le v (heldR r s)
  have h2 := seatsR_le v (allR r)
  unfold fX2_carries
  rw [eX_held h v hs, bnd, eX_seats h v (by have := heldR_lt v s; omega), bnd, eX_every h v, bnd, eX_seats h v (by have := allR_lt v; omega), bnd, show (2 : Int32) = nI 2 from rfl, nI_mul]
  unfold carR
  by_cases hc : seatsR r (allR r) < 2 * seatsR r (heldR r s)
  · rw [if_neg (nI_ge hc (by omega)), if_pos (by simpa using hc)]
  · rw [if_pos (nI_le (by omega) (by omega)), if_neg (by simpa using hc)]
theorem oX_eq {w l : Nat} (hw : w ≤ 4) (hl : l < 4) : (oX w = nI l) ↔ w = l + 1 := by
  rcases (show w = 0 ∨ w = 1 ∨ w = 2 ∨ w = 3 ∨ w = 4 by omega) with rfl | rfl | rfl | rfl | rfl <;> rcases (show l = 0 ∨ l = 1 ∨ l = 2 ∨ l = 3 by omega) with rfl | rfl | rfl | rfl <;> decide
theorem eX_can (h : RX σ a r) (v : RV r) {l i : Nat} (hl : l < nl r) (hi : i < nb r) : fX2_canBuy σ a (nI l) (nI i) = some (if canR r l i = true then 1 else 0) := by
  have h1 := v.1
  have h2 := v.2.1
  have h3 := (v.2.2.2.2 i hi).2.2.2.2
  have h4 := cosR_le v hi
  have h5 := v.2.2.2.1 l hl
  unfold fX2_canBuy
  rw [eX_hasL h v hl, bnd, if_neg (by decide), eX_hasB h v hi, bnd, if_neg (by decide), rdN (by omega) (by omega), bnd, (h.2.2.2.2 i hi).2.2.2]
  unfold canR
  by_cases hw : ow r i = l + 1
  · rw [if_pos ((oX_eq (by omega) (by omega)).mpr hw), if_neg (by simp [hw])]
  · rw [if_neg (fun q => hw ((oX_eq (by omega) (by omega)).mp q)), rdN (by omega) (by omega), bnd, h.2.2.2.1 l hl, eX_cos h v hi, bnd]
    by_cases hc : cosR r i ≤ gu r l
    · rw [if_neg (nI_nlt hc (by omega)), if_pos (by simp [hw, hc])]
    · rw [if_pos (nI_lt (by omega) (by omega)), if_neg (by simp [hc])]
theorem eX_canL (h : RX σ a r) {x y : Int32} (hx : x < 0 ∨ nI (nl r) ≤ x) : fX2_canBuy σ a x y = some 0 := by
  unfold fX2_canBuy
  rw [eX_hasLn h hx, bnd, if_pos rfl]
theorem eX_canB (h : RX σ a r) (v : RV r) {l : Nat} {y : Int32} (hl : l < nl r) (hy : y < 0 ∨ nI (nb r) ≤ y) : fX2_canBuy σ a (nI l) y = some 0 := by
  unfold fX2_canBuy
  rw [eX_hasL h v hl, bnd, if_neg (by decide), eX_hasBn h hy, bnd, if_pos rfl]
end XR
