def lw (r : Rm) : Nat → Nat := fun l => seatsR r (heldR r (2 ^ l))
def plB (r : Rm) : Nat → Nat × (Nat → Nat)
  | 0 => (nl r, lw r)
  | b + 1 => if ow r b = 0 then ((plB r b).1 + 1, fun i => if i = (plB r b).1 then se r b else (plB r b).2 i) else plB r b
theorem plB_y {r : Rm} {b : Nat} (h : ow r b = 0) : plB r (b + 1) = ((plB r b).1 + 1, fun i => if i = (plB r b).1 then se r b else (plB r b).2 i) := by rw [plB, if_pos h]
theorem plB_n {r : Rm} {b : Nat} (h : ¬ ow r b = 0) : plB r (b + 1) = plB r b := by rw [plB, if_neg h]
theorem plB_le (r : Rm) : ∀ b, nl r ≤ (plB r b).1 ∧ (plB r b).1 ≤ nl r + b
  | 0 => ⟨Nat.le_refl _, Nat.le_refl _⟩
  | b + 1 => by
    have := plB_le r b
    by_cases h : ow r b = 0
    · rw [plB_y h]; dsimp only; omega
    · rw [plB_n h]; omega
def np (r : Rm) : Nat := (plB r (nb r)).1
def pg (r : Rm) : Nat → Nat := (plB r (nb r)).2
theorem np_le {r : Rm} (v : RV r) : nl r ≤ np r ∧ np r ≤ 10 := by
  have := plB_le r (nb r)
  have := v.1
  have := v.2.1
  unfold np; omega
theorem lw_le {r : Rm} (v : RV r) (l : Nat) : lw r l ≤ 18 := seatsR_le v _
theorem plB_w {r : Rm} (v : RV r) : ∀ b, b ≤ nb r → ∀ i, (plB r b).2 i ≤ 18
  | 0, _, i => lw_le v i
  | b + 1, hb, i => by
    have h1 := plB_w v b (by omega) i
    by_cases h : ow r b = 0
    · rw [plB_y h]; dsimp only
      have := (v.2.2.2.2 b (by omega)).2.2.2.1
      split <;> omega
    · rw [plB_n h]; exact h1
theorem addX {σ : Sg} {m w : Nat} (hm : m < 10) (h : σ 34 2 = nI m) : fX0_add σ (nI w) = some (up2 (up2 σ 35 m (nI w)) 34 2 (nI (m + 1))) := by
  unfold fX0_add pf
  rw [h, if_neg (show ¬ (10 : Int32) ≤ nI m from nI_ge (b := 10) (by omega) (by omega)), wrN (by omega) (by omega), bnd, bnd, up2_at, if_neg (by omega), h, nI_1]
theorem gat50 {r : Rm} (v : RV r) {a : Nat} (ha : a + 5 < 34) : ∀ (k n b : Nat) (σ : Sg), b + k = nb r → k < n → RX σ a r → σ 34 2 = nI (plB r b).1 → (∀ i, i < (plB r b).1 → σ 35 i = nI ((plB r b).2 i)) → ∃ σ' : Sg, fX0_gather_l50 a n σ (nI b) = some σ' ∧ σ' 34 2 = nI (np r) ∧ σ' 34 3 = σ 34 3 ∧ (∀ i, i < np r → σ' 35 i = nI (pg r i)) ∧ ∀ c, c ≠ 34 → c ≠ 35 → σ' c = σ c := by
  have hl := v.1
  have hbn := v.2.1
  intro k
  induction k with
  | zero =>
    intro n b σ h1 h2 hx h3 h4
    obtain ⟨n, rfl⟩ := Nat.exists_eq_succ_of_ne_zero (show n ≠ 0 by omega)
    obtain rfl : b = nb r := by omega
    exact ⟨σ, by rw [fX0_gather_l50, hx.2.1, if_pos (nI_le (by omega) (by omega))], h3, rfl, h4, fun _ _ _ => rfl⟩
  | succ k ih =>
    intro n b σ h1 h2 hx h3 h4
    obtain ⟨n, rfl⟩ := Nat.exists_eq_succ_of_ne_zero (show n ≠ 0 by omega)
    have hle := plB_le r b
    have hB := hx.2.2.2.2 b (by omega)
    have how := (v.2.2.2.2 b (by omega)).2.2.2.2
    rw [fX0_gather_l50, hx.2.1, if_neg (nI_ge (by omega) (by omega)), rdN (by omega) (by omega), bnd, hB.2.2.2, nI_1]
    by_cases hw : ow r b = 0
    · rw [if_pos ((oX_ne (by omega)).mpr hw), rdN (by omega) (by omega), bnd, hB.2.2.1, addX (by omega) h3, bnd]
      obtain ⟨σ', e1, e2, e3, e4, e5⟩ := ih n (b + 1) (up2 (up2 σ 35 (plB r b).1 (nI (se r b))) 34 2 (nI ((plB r b).1 + 1))) (by omega) (by omega) (hx.cg (fun c c1 c2 => by rw [up2_row (by omega), up2_row (by omega)])) (by rw [up2_at, if_pos ⟨rfl, rfl⟩, plB_y hw]) (fun i hi => by
        rw [plB_y hw] at hi ⊢
        dsimp only at hi ⊢
        rw [up2_at, if_neg (by omega), up2_at]
        by_cases q : i = (plB r b).1
        · rw [if_pos ⟨rfl, q⟩, if_pos q]
        · rw [if_neg (by omega), if_neg q]; exact h4 i (by omega))
      exact ⟨σ', e1, e2, by rw [e3, up2_at, if_neg (by omega), up2_at, if_neg (by omega)], e4, fun c c1 c2 => by rw [e5 c c1 c2, up2_row c1, up2_row c2]⟩
    · rw [if_neg (fun q => hw ((oX_ne (by omega)).mp q))]
      exact ih n (b + 1) σ (by omega) (by omega) hx (by rw [plB_n hw]; exact h3) (by rw [plB_n hw]; exact h4)
theorem gat19 {r : Rm} (v : RV r) {a : Nat} (ha : a + 5 < 34) : ∀ (k n l : Nat) (σ : Sg), l + k = nl r → k < n → RX σ a r → σ 34 2 = nI l → (∀ i, i < l → σ 35 i = nI (lw r i)) → ∃ σ' : Sg, fX0_gather_l19 a n σ (nI l) = some σ' ∧ σ' 34 2 = nI (np r) ∧ σ' 34 3 = σ 34 3 ∧ (∀ i, i < np r → σ' 35 i = nI (pg r i)) ∧ ∀ c, c ≠ 34 → c ≠ 35 → σ' c = σ c := by
  have hl := v.1
  have hbn := v.2.1
  intro k
  induction k with
  | zero =>
    intro n l σ h1 h2 hx h3 h4
    obtain ⟨n, rfl⟩ := Nat.exists_eq_succ_of_ne_zero (show n ≠ 0 by omega)
    obtain rfl : l = nl r := by omega
    obtain ⟨σ', e1, e2⟩ := gat50 v ha (nb r) 2000 0 σ (by omega) (by omega) hx h3 h4
    rw [nI_0] at e1
    exact ⟨σ', by rw [fX0_gather_l19, hx.1, if_pos (nI_le (by omega) (by omega))]; exact e1, e2⟩
  | succ k ih =>
    intro n l σ h1 h2 hx h3 h4
    obtain ⟨n, rfl⟩ := Nat.exists_eq_succ_of_ne_zero (show n ≠ 0 by omega)
    have hp : 2 ^ l < 2 ^ 31 := Nat.pow_lt_pow_right (by decide) (by omega)
    have hh := heldR_lt v (2 ^ l)
    obtain ⟨σ', e1, e2, e3, e4, e5⟩ := ih n (l + 1) (up2 (up2 σ 35 l (nI (lw r l))) 34 2 (nI (l + 1))) (by omega) (by omega) (hx.cg (fun c c1 c2 => by rw [up2_row (by omega), up2_row (by omega)])) (by rw [up2_at, if_pos ⟨rfl, rfl⟩]) (fun i hi => by
      rw [up2_at, if_neg (by omega), up2_at]
      by_cases q : i = l
      · rw [if_pos ⟨rfl, q⟩, q]
      · rw [if_neg (by omega)]; exact h4 i (by omega))
    refine ⟨σ', ?_, e2, by rw [e3, up2_at, if_neg (by omega), up2_at, if_neg (by omega)], e4, fun c c1 c2 => by rw [e5 c c1 c2, up2_row c1, up2_row c2]⟩
    rw [fX0_gather_l19, hx.1, if_neg (nI_ge (by omega) (by omega)), shlN (by omega), eX_held hx v hp, bnd, eX_seats hx v (by omega), bnd, show nI (seatsR r (heldR r (2 ^ l))) = nI (lw r l) from rfl, addX (by omega) h3, bnd, nI_1]
    exact e1
theorem gatX {r : Rm} (v : RV r) {a : Nat} (ha : a + 5 < 34) {σ : Sg} (hx : RX σ a r) : ∃ σ' : Sg, fX0_gather σ a = some σ' ∧ σ' 34 2 = nI (np r) ∧ σ' 34 3 = nI (seatsR r (allR r)) ∧ (∀ i, i < np r → σ' 35 i = nI (pg r i)) ∧ ∀ c, c ≠ 34 → c ≠ 35 → σ' c = σ c := by
  have hl := v.1
  have hal := allR_lt v
  have hx1 : RX (up2 σ 34 2 0) a r := hx.cg (fun c c1 c2 => up2_row (by omega))
  obtain ⟨σ', e1, e2, e3, e4, e5⟩ := gat19 v ha (nl r) 2000 0 (up2 (up2 σ 34 2 0) 34 3 (nI (seatsR r (allR r)))) (by omega) (by omega) (hx1.cg (fun c c1 c2 => up2_row (by omega))) (by rw [up2_at, if_neg (by omega), up2_at, if_pos ⟨rfl, rfl⟩]; rfl) (fun i hi => by omega)
  rw [nI_0] at e1
  refine ⟨σ', ?_, e2, by rw [e3, up2_at, if_pos ⟨rfl, rfl⟩], e4, fun c c1 c2 => by rw [e5 c c1 c2, up2_row c1, up2_row c1]⟩
  unfold fX0_gather pf
  rw [bnd, eX_every hx1 v, bnd, eX_seats hx1 v (by omega), bnd, bnd]
  exact e1
-- the reference's players
def wh (r : Rm) (w : Int32) : Nat → Int32
  | 0 => -4
  | c + 1 => if ow r c = 0 ∧ nI c = w then nI (plB r c).1 else wh r w c
theorem nob_bit {r : Rm} {b : Nat} (hb : b < nb r) : (nobR r).testBit b = true ↔ ow r b = 0 := by
  unfold nobR
  rw [msk_bit]
  unfold noP
  simp [hb]
theorem lay56 {r : Rm} (v : RV r) (w : Int32) : ∀ (k n b : Nat) (σ : Sg), b + k = nb r → k < n → MM σ r → σ 0 22 = nI (plB r b).1 → (∀ i, i < (plB r b).1 → σ 7 i = nI ((plB r b).2 i)) → ∃ σ' : Sg, fX8_laysPlayers_l56 w n σ (wh r w b) (nI (nobR r)) (nI b) = some (σ', wh r w (nb r)) ∧ σ' 0 22 = nI (np r) ∧ (∀ i, i < np r → σ' 7 i = nI (pg r i)) ∧ (∀ c, c ≠ 0 → c ≠ 7 → σ' c = σ c) ∧ ∀ j, j ≠ 22 → σ' 0 j = σ 0 j := by
  have hl := v.1
  have hbn := v.2.1
  have hno := nobR_lt v
  intro k
  induction k with
  | zero =>
    intro n b σ h1 h2 hy h3 h4
    obtain ⟨n, rfl⟩ := Nat.exists_eq_succ_of_ne_zero (show n ≠ 0 by omega)
    obtain rfl : b = nb r := by omega
    exact ⟨σ, by rw [fX8_laysPlayers_l56, hy.2.1, if_pos (nI_le (by omega) (by omega))], h3, h4, fun _ _ _ => rfl, fun _ _ => rfl⟩
  | succ k ih =>
    intro n b σ h1 h2 hy h3 h4
    obtain ⟨n, rfl⟩ := Nat.exists_eq_succ_of_ne_zero (show n ≠ 0 by omega)
    have hle := plB_le r b
    rw [fX8_laysPlayers_l56, hy.2.1, if_neg (nI_ge (by omega) (by omega))]
    by_cases hw : ow r b = 0
    · rw [if_pos ((bitP (by omega) (by omega)).mpr ((nob_bit (by omega)).mpr hw))]
      obtain ⟨σ', e1, e2, e3, e4, e5⟩ := ih n (b + 1) (up2 (up2 σ 7 (plB r b).1 (nI (se r b))) 0 22 (nI ((plB r b).1 + 1))) (by omega) (by omega) ⟨by rw [up2_at, if_neg (by omega), up2_row (by omega)]; exact hy.1, by rw [up2_at, if_neg (by omega), up2_row (by omega)]; exact hy.2.1, RM.cg v hy.2.2 (fun j _ _ => by rw [up2_row (by omega), up2_row (by omega)])⟩ (by rw [up2_at, if_pos ⟨rfl, rfl⟩, plB_y hw]) (fun i hi => by
        rw [plB_y hw] at hi ⊢
        dsimp only at hi ⊢
        rw [up2_row (by omega), up2_at]
        by_cases q : i = (plB r b).1
        · rw [if_pos ⟨rfl, q⟩, if_pos q]
        · rw [if_neg (by omega), if_neg q]; exact h4 i (by omega))
      refine ⟨σ', ?_, e2, e3, fun c c1 c2 => by rw [e4 c c1 c2, up2_row c1, up2_row c2], fun j hj => by rw [e5 j hj, up2_at, if_neg (by omega), up2_row (by omega)]⟩
      have h89 : ∀ s0 : Int32, fX8_laysPlayers_b89 w (fun σ v2 v3 v4 => fX8_laysPlayers_l56 w n σ v2 v3 v4) σ (nI (nobR r)) (nI b) s0 = fX8_laysPlayers_l56 w n (up2 (up2 σ 7 (plB r b).1 (nI (se r b))) 0 22 (nI ((plB r b).1 + 1))) s0 (nI (nobR r)) (nI (b + 1)) := by
        intro s0
        unfold fX8_laysPlayers_b89 pf
        rw [show (16 : Int32) = nI 16 from rfl, nI_add, rdN (by omega) (by omega), bnd, mm_se hy (by omega), h3, wrN (by omega) (by omega), bnd, bnd, up2_row (σ := σ) (by omega), h3, nI_1, nI_1]
      rw [h89, h89, h3, ← e1, wh]
      by_cases q : nI b = w
      · rw [if_pos q, if_pos ⟨hw, q⟩]
      · rw [if_neg q, if_neg (fun p => q p.2)]
    · rw [if_neg (fun q => hw ((nob_bit (by omega)).mp ((bitP (by omega) (by omega)).mp q))), nI_1]
      obtain ⟨σ', e1, e2⟩ := ih n (b + 1) σ (by omega) (by omega) hy (by rw [plB_n hw]; exact h3) (by rw [plB_n hw]; exact h4)
      rw [wh, if_neg (fun p => hw p.1)] at e1
      exact ⟨σ', e1, e2⟩
theorem lay19 {r : Rm} (v : RV r) (w : Int32) : ∀ (k n l : Nat) (σ : Sg), l + k = nl r → k < n → MM σ r → σ 0 22 = nI (nl r) → (∀ i, i < l → σ 7 i = nI (lw r i)) → ∃ σ' : Sg, fX8_laysPlayers_l19 w n σ (-4) (nI (nobR r)) (nI l) = some (σ', wh r w (nb r)) ∧ σ' 0 22 = nI (np r) ∧ (∀ i, i < np r → σ' 7 i = nI (pg r i)) ∧ (∀ c, c ≠ 0 → c ≠ 7 → σ' c = σ c) ∧ ∀ j, j ≠ 22 → σ' 0 j = σ 0 j := by
  have hl := v.1
  have hbn := v.2.1
  intro k
  induction k with
  | zero =>
    intro n l σ h1 h2 hy h3 h4
    obtain ⟨n, rfl⟩ := Nat.exists_eq_succ_of_ne_zero (show n ≠ 0 by omega)
    obtain rfl : l = nl r := by omega
    obtain ⟨σ', e1, e2⟩ := lay56 v w (nb r) 2000 0 σ (by omega) (by omega) hy h3 h4
    rw [nI_0, wh] at e1
    exact ⟨σ', by rw [fX8_laysPlayers_l19, hy.1, if_pos (nI_le (by omega) (by omega))]; exact e1, e2⟩
  | succ k ih =>
    intro n l σ h1 h2 hy h3 h4
    obtain ⟨n, rfl⟩ := Nat.exists_eq_succ_of_ne_zero (show n ≠ 0 by omega)
    have hp : 2 ^ l < 2 ^ 31 := Nat.pow_lt_pow_right (by decide) (by omega)
    have hh := heldR_lt v (2 ^ l)
    obtain ⟨σ', e1, e2, e3, e4, e5⟩ := ih n (l + 1) (up2 σ 7 l (nI (lw r l))) (by omega) (by omega) ⟨by rw [up2_row (by omega)]; exact hy.1, by rw [up2_row (by omega)]; exact hy.2.1, RM.cg v hy.2.2 (fun j _ _ => by rw [up2_row (by omega)])⟩ (by rw [up2_row (by omega)]; exact h3) (fun i hi => by
      rw [up2_at]
      by_cases q : i = l
      · rw [if_pos ⟨rfl, q⟩, q]
      · rw [if_neg (by omega)]; exact h4 i (by omega))
    refine ⟨σ', ?_, e2, e3, fun c c1 c2 => by rw [e4 c c1 c2, up2_row c2], fun j hj => by rw [e5 j hj, up2_row (by omega)]⟩
    rw [fX8_laysPlayers_l19, hy.1, if_neg (nI_ge (by omega) (by omega)), shlN (by omega), eM_held hy v hp, bnd, eM_seats hy v (by omega), bnd, wrN (by omega) (by omega), bnd, nI_1]
    exact e1
theorem layP {r : Rm} (v : RV r) {y : Sg} (hy : MM y r) (w : Int32) : ∃ y' : Sg, fX8_laysPlayers y w = some (y', wh r w (nb r)) ∧ y' 0 22 = nI (np r) ∧ (∀ i, i < np r → y' 7 i = nI (pg r i)) ∧ (∀ c, c ≠ 0 → c ≠ 7 → y' c = y c) ∧ ∀ j, j ≠ 22 → y' 0 j = y 0 j := by
  have hl := v.1
  obtain ⟨σ', e1, e2, e3, e4, e5⟩ := lay19 v w (nl r) 2000 0 (up2 y 0 22 (nI (nl r))) (by omega) (by omega) ⟨by rw [up2_at, if_neg (by omega)]; exact hy.1, by rw [up2_at, if_neg (by omega)]; exact hy.2.1, RM.cg v hy.2.2 (fun j _ _ => by rw [up2_row (by omega)])⟩ (by rw [up2_at, if_pos ⟨rfl, rfl⟩]) (fun i hi => by omega)
  rw [nI_0] at e1
  refine ⟨σ', ?_, e2, e3, fun c c1 c2 => by rw [e4 c c1 c2, up2_row c1], fun j hj => by rw [e5 j hj, up2_at, if_neg (by omega)]⟩
  unfold fX8_laysPlayers pf
  rw [eM_nob hy v, bnd, bnd, hy.1]
  exact e1
theorem wh_at {r : Rm} (v : RV r) {b : Nat} (hw : ow r b = 0) : ∀ c, b < c → c ≤ nb r → wh r (nI b) c = nI (plB r b).1
  | 0, h, _ => by omega
  | c + 1, h, h2 => by
    have := v.2.1
    rw [wh]
    by_cases q : c = b
    · subst q; rw [if_pos ⟨hw, rfl⟩]
    · rw [if_neg (fun p => q ((nI_eq (by omega) (by omega)).mp p.2))]
      exact wh_at v hw c (by omega) (by omega)
-- all the mights together are all the seats
theorem sm_swap (f : Nat → Nat → Nat) (m : Nat) : ∀ n, sm n (fun l => sm m (fun b => f l b)) = sm m (fun b => sm n (fun l => f l b))
  | 0 => by
    have : ∀ m, sm m (fun _ => 0) = 0 := fun m => by induction m with
      | zero => rfl
      | succ m ih => rw [sm, ih]
    rw [sm]; exact (this m).symm
  | n + 1 => by
    rw [sm, sm_swap f m n, ← sm_add]
    rfl
theorem sm_one (c a : Nat) : ∀ n, sm n (fun l => if a = l then c else 0) = if a < n then c else 0
  | 0 => by rw [if_neg (by omega)]; rfl
  | n + 1 => by
    rw [sm, sm_one c a n]
    rcases Nat.lt_trichotomy a n with q | q | q
    · rw [if_pos q, if_neg (by omega), if_pos (by omega)]
      rfl
    · rw [if_neg (by omega), if_pos q, if_pos (by omega), Nat.zero_add]
    · rw [if_neg (by omega), if_neg (by omega), if_neg (by omega)]
theorem lw_sum {r : Rm} (v : RV r) : sm (nl r) (lw r) = sm (nb r) (fun b => if ow r b = 0 then 0 else se r b) := by
  have e1 : sm (nl r) (lw r) = sm (nl r) (fun l => sm (nb r) (fun b => if ow r b = l + 1 then se r b else 0)) := by
    apply sm_congr
    intro l hl
    unfold lw seatsR
    apply sm_congr
    intro b hb
    unfold seatsF heldR
    rw [msk_bit]
    unfold heldP
    rw [Nat.testBit_two_pow]
    by_cases q : ow r b = l + 1
    · rw [if_pos q]; simp [hb, q]
    · rw [if_neg q]
      by_cases q0 : ow r b = 0
      · simp [q0]
      · simp [hb, q0, show ¬ l = ow r b - 1 by omega]
  rw [e1, sm_swap]
  apply sm_congr
  intro b hb
  have how := (v.2.2.2.2 b hb).2.2.2.2
  by_cases q0 : ow r b = 0
  · rw [if_pos q0, sm_congr (g := fun l => if ow r b = l then 0 else 0) (fun l _ => by rw [if_neg (by omega)]; split <;> rfl), sm_one]
    split <;> rfl
  · rw [if_neg q0, sm_congr (g := fun l => if ow r b - 1 = l then se r b else 0) (fun l _ => by
      by_cases q : ow r b = l + 1
      · rw [if_pos q, if_pos (by omega)]
      · rw [if_neg q, if_neg (by omega)]), sm_one, if_pos (by omega)]
theorem plB_sum (r : Rm) : ∀ b, sm (plB r b).1 (plB r b).2 = sm (nl r) (lw r) + sm b (fun b => if ow r b = 0 then se r b else 0)
  | 0 => rfl
  | b + 1 => by
    rw [sm]
    by_cases h : ow r b = 0
    · rw [plB_y h, if_pos h]
      dsimp only
      rw [sm, if_pos rfl, sm_congr (g := (plB r b).2) (fun i hi => by rw [if_neg (by omega)]), plB_sum r b]; omega
    · rw [plB_n h, if_neg h, plB_sum r b]; omega
theorem pg_sum {r : Rm} (v : RV r) : sm (np r) (pg r) = seatsR r (allR r) := by
  unfold np pg
  rw [plB_sum, lw_sum v, ← sm_add]
  unfold seatsR
  apply sm_congr
  intro b hb
  unfold seatsF
  rw [all_bit]
  simp only [hb, decide_true, if_true]
  by_cases q : ow r b = 0
  · rw [if_pos q, if_pos q]; omega
  · rw [if_neg q, if_neg q]; omega
