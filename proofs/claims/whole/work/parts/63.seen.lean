def fitF (q : Rm) (S : Nat → Nat) (D : Nat → Bool) : Nat → Nat → Bool
  | 0, _ => true
  | k + 1, i => (carR q (S i) == D i) && fitF q S D k (i + 1)
def b1 (b : Bool) : Int32 := if b = true then 1 else 0
theorem b1i (b : Bool) : (b1 b = (0 : Int32)) ↔ b = false := by cases b <;> decide
theorem b1if {α : Type} (b : Bool) (A B : α) : (if b1 b = (0 : Int32) then A else B) = if b = true then B else A := by cases b <;> rfl
def SX (σ : Sg) (ns : Nat) (S : Nat → Nat) (D : Nat → Bool) : Prop := σ 37 2 = nI ns ∧ ∀ i, i < ns → σ 38 i = nI (S i) ∧ σ 39 i = b1 (D i)
def SM (σ : Sg) (ns : Nat) (S : Nat → Nat) (D : Nat → Bool) : Prop := σ 0 24 = nI ns ∧ ∀ i, i < ns → σ 8 (2 * i) = nI (S i) ∧ σ 8 (2 * i + 1) = b1 (D i)
theorem fits_l {σ : Sg} {a ns : Nat} {q : Rm} {S : Nat → Nat} {D : Nat → Bool} (hx : RX σ a q) (v : RV q) (h : SX σ ns S D) (hn : ns ≤ 6) (hS : ∀ i, i < ns → S i < 16) : ∀ k n i, i + k = ns → k < n → fX6_fits_l2 σ a n (nI i) = some (b1 (fitF q S D k i)) := by
  intro k
  induction k with
  | zero =>
    intro n i h1 h2
    obtain ⟨n, rfl⟩ := Nat.exists_eq_succ_of_ne_zero (show n ≠ 0 by omega)
    rw [fX6_fits_l2, h.1, if_pos (nI_le (by omega) (by omega))]; rfl
  | succ k ih =>
    intro n i h1 h2
    obtain ⟨n, rfl⟩ := Nat.exists_eq_succ_of_ne_zero (show n ≠ 0 by omega)
    have hs := hS i (by omega)
    rw [fX6_fits_l2, h.1, if_neg (nI_ge (by omega) (by omega)), rdN (by omega) (by omega), bnd, (h.2 i (by omega)).1, eX_car hx v (by omega), bnd, rdN (by omega) (by omega), bnd, (h.2 i (by omega)).2, nI_1, ih n (i + 1) (by omega) (by omega), fitF]
    cases e1 : carR q (S i) <;> cases e2 : D i
    · exact if_pos rfl
    · exact if_neg (by decide)
    · exact if_neg (by decide)
    · exact if_pos rfl
theorem eX_fits {σ : Sg} {a ns : Nat} {q : Rm} {S : Nat → Nat} {D : Nat → Bool} (hx : RX σ a q) (v : RV q) (h : SX σ ns S D) (hn : ns ≤ 6) (hS : ∀ i, i < ns → S i < 16) : fX6_fits σ a = some (b1 (fitF q S D ns 0)) := by
  have := fits_l hx v h hn hS ns 2000 0 (by omega) (by omega)
  rw [nI_0] at this
  exact this
theorem seen_0 {σ : Sg} {ns : Nat} (h : σ 0 24 = nI ns) (hn : ns ≤ 6) : ∀ k n i, i + k = ns → k < n → fX8_isAsSeen_l4 σ n 0 (nI i) = some 0 := by
  intro k
  induction k with
  | zero =>
    intro n i h1 h2
    obtain ⟨n, rfl⟩ := Nat.exists_eq_succ_of_ne_zero (show n ≠ 0 by omega)
    rw [fX8_isAsSeen_l4, h, if_pos (nI_le (by omega) (by omega))]; rfl
  | succ k ih =>
    intro n i h1 h2
    obtain ⟨n, rfl⟩ := Nat.exists_eq_succ_of_ne_zero (show n ≠ 0 by omega)
    rw [fX8_isAsSeen_l4, h, if_neg (nI_ge (by omega) (by omega)), if_pos rfl, nI_1]
    exact ih n (i + 1) (by omega) (by omega)
theorem seen_l {σ : Sg} {ns : Nat} {q : Rm} {S : Nat → Nat} {D : Nat → Bool} (hy : MM σ q) (v : RV q) (h : SM σ ns S D) (hn : ns ≤ 6) (hS : ∀ i, i < ns → S i < 16) : ∀ k n i, i + k = ns → k < n → fX8_isAsSeen_l4 σ n 1 (nI i) = some (b1 (fitF q S D k i)) := by
  intro k
  induction k with
  | zero =>
    intro n i h1 h2
    obtain ⟨n, rfl⟩ := Nat.exists_eq_succ_of_ne_zero (show n ≠ 0 by omega)
    rw [fX8_isAsSeen_l4, h.1, if_pos (nI_le (by omega) (by omega))]; rfl
  | succ k ih =>
    intro n i h1 h2
    obtain ⟨n, rfl⟩ := Nat.exists_eq_succ_of_ne_zero (show n ≠ 0 by omega)
    have hs := hS i (by omega)
    have z := seen_0 h.1 hn k n (i + 1) (by omega) (by omega)
    have w := ih n (i + 1) (by omega) (by omega)
    rw [fX8_isAsSeen_l4, h.1, if_neg (nI_ge (by omega) (by omega)), i1, show (2 : Int32) = nI 2 from rfl, nI_mul, rdN (by omega) (by omega), bnd, (h.2 i (by omega)).1, eM_car hy v (by omega), bnd, nI_1, rdN (by omega) (by omega), bnd, (h.2 i (by omega)).2, fitF]
    unfold fX8_isAsSeen_b47
    rw [nI_1]
    cases e1 : carR q (S i) <;> cases e2 : D i
    · rw [if_neg (by decide), if_pos (by decide)]; exact w
    · rw [if_pos (by decide), if_neg (by decide)]; exact z
    · rw [if_neg (by decide), if_neg (by decide)]; exact z
    · rw [if_pos (by decide), if_pos (by decide)]; exact w
theorem eM_seen {σ : Sg} {ns : Nat} {q : Rm} {S : Nat → Nat} {D : Nat → Bool} (hy : MM σ q) (v : RV q) (h : SM σ ns S D) (hn : ns ≤ 6) (hS : ∀ i, i < ns → S i < 16) : fX8_isAsSeen σ = some (b1 (fitF q S D ns 0)) := by
  have := seen_l hy v h hn hS ns 2000 0 (by omega) (by omega)
  rw [nI_0] at this
  exact this
theorem InvS.get {r : Rm} {x y : Sg} (v : RV r) (h : InvS r x y) : ∃ (ns : Nat) (S : Nat → Nat) (D : Nat → Bool), ns ≤ 6 ∧ SX x ns S D ∧ SM y ns S D ∧ ∀ i, i < ns → S i < 16 := by
  obtain ⟨ns, h1, h2, h3, h4⟩ := h
  have hl := v.1
  have hp : 2 ^ nl r ≤ 2 ^ 4 := Nat.pow_le_pow_right (by decide) hl
  refine ⟨ns, fun i => (x 38 i).toNatClampNeg, fun i => decide (x 39 i = 1), h1, ⟨h2, fun i hi => ?_⟩, ⟨h3, fun i hi => ?_⟩, fun i hi => ?_⟩
  all_goals
    obtain ⟨s, s1, s2, s3, s4, s5⟩ := h4 i hi
    dsimp only
    rw [s2, nI_clamp (by omega)]
  · refine ⟨rfl, ?_⟩
    rcases s4 with q | q <;> rw [s5, q] <;> decide
  · refine ⟨s3, ?_⟩
    rcases s4 with q | q <;> rw [s5, q] <;> decide
  · omega
theorem setSe_set (r : Rm) (b s t : Nat) : setSe (setSe r b s) b t = setSe r b t := by
  show (nl r, nb r, pr r, gu r, kd r, ho r, (fun j => if j = b then t else if j = b then s else se r j), ow r) = (nl r, nb r, pr r, gu r, kd r, ho r, (fun j => if j = b then t else se r j), ow r)
  congr
  funext j
  by_cases q : j = b
  · rw [if_pos q, if_pos q]
  · rw [if_neg q, if_neg q, if_neg q]
theorem setSe_id (r : Rm) (b : Nat) : setSe r b (se r b) = r := by
  show (nl r, nb r, pr r, gu r, kd r, ho r, (fun j => if j = b then se r b else se r j), ow r) = r
  have : (fun j => if j = b then se r b else se r j) = se r := funext fun j => by
    by_cases q : j = b
    · rw [if_pos q, q]
    · rw [if_neg q]
  rw [this]; rfl
theorem setOw_set (r : Rm) (b s t : Nat) : setOw (setOw r b s) b t = setOw r b t := by
  show (nl r, nb r, pr r, gu r, kd r, ho r, se r, (fun j => if j = b then t else if j = b then s else ow r j)) = (nl r, nb r, pr r, gu r, kd r, ho r, se r, (fun j => if j = b then t else ow r j))
  congr
  funext j
  by_cases q : j = b
  · rw [if_pos q, if_pos q]
  · rw [if_neg q, if_neg q, if_neg q]
theorem setOw_id (r : Rm) (b : Nat) : setOw r b (ow r b) = r := by
  show (nl r, nb r, pr r, gu r, kd r, ho r, se r, (fun j => if j = b then ow r b else ow r j)) = r
  have : (fun j => if j = b then ow r b else ow r j) = ow r := funext fun j => by
    by_cases q : j = b
    · rw [if_pos q, q]
    · rw [if_neg q]
  rw [this]; rfl
theorem msk_s {i : Nat} {p : Nat → Bool} : (if p i = true then nI (msk i p) ||| nI (2 ^ i) else nI (msk i p)) = nI (msk (i + 1) p) := by
  rw [msk]
  by_cases h : p i = true
  · rw [if_pos h, if_pos h, orN (msk_lt p i)]
  · rw [if_neg h, if_neg h, Nat.add_zero]
theorem seatsX_l {r : Rm} (v : RV r) {b : Nat} (hb : b < nb r) {ns : Nat} {S : Nat → Nat} {D : Nat → Bool} (hn : ns ≤ 6) (hS : ∀ i, i < ns → S i < 16) : ∀ (k n s t : Nat) (σ : Sg), s + k = 4 → k < n → SX σ ns S D → RX σ 7 (setSe r b t) → ∃ σ' : Sg, fX7_seats_l28 (nI b) n σ (nI (msk s (fun s => fitF (setSe r b s) S D ns 0))) (nI s) = some (σ', nI (msk 4 (fun s => fitF (setSe r b s) S D ns 0))) ∧ ∀ c, c ≠ 11 → σ' c = σ c := by
  have hbn := v.2.1
  intro k
  induction k with
  | zero =>
    intro n s t σ h1 h2 hs hx
    obtain ⟨n, rfl⟩ := Nat.exists_eq_succ_of_ne_zero (show n ≠ 0 by omega)
    obtain rfl : s = 4 := by omega
    exact ⟨σ, by rw [fX7_seats_l28, if_pos (by decide)], fun _ _ => rfl⟩
  | succ k ih =>
    intro n s t σ h1 h2 hs hx
    obtain ⟨n, rfl⟩ := Nat.exists_eq_succ_of_ne_zero (show n ≠ 0 by omega)
    have hx2 := RX.setSe (i := b) (x := s) hx
    rw [setSe_set] at hx2
    have hs2 : SX (up2 σ 11 b (nI s)) ns S D := ⟨by rw [up2_row (by omega)]; exact hs.1, fun i hi => by rw [up2_row (by omega), up2_row (by omega)]; exact hs.2 i hi⟩
    obtain ⟨σ', e1, e2⟩ := ih n (s + 1) s (up2 σ 11 b (nI s)) (by omega) (by omega) hs2 hx2
    refine ⟨σ', ?_, fun c hc => by rw [e2 c hc, up2_row hc]⟩
    rw [fX7_seats_l28, if_neg (show ¬ (3 : Int32) < nI s from nI_nlt (a := 3) (by omega) (by omega)), wrN (by omega) (by omega), bnd, eX_fits hx2 (RV.setSe v (by omega)) hs2 hn hS, bnd, b1if, shlN (by omega), nI_1, ← e1, ← msk_s]
    split <;> rfl
theorem seatsM_l {r : Rm} (v : RV r) {b : Nat} (hb : b < nb r) {ns : Nat} {S : Nat → Nat} {D : Nat → Bool} (hn : ns ≤ 6) (hS : ∀ i, i < ns → S i < 16) : ∀ (k n s t : Nat) (σ : Sg) (w : Int32), s + k = 4 → k < n → t ≤ 3 → SM σ ns S D → MM σ (setSe r b t) → ∃ σ' : Sg, fX8_seats_l25 (nI b) n σ (nI (msk s (fun s => fitF (setSe r b s) S D ns 0))) w (nI s) = some (up2 σ' 1 (16 + b) w, nI (msk 4 (fun s => fitF (setSe r b s) S D ns 0))) ∧ (∀ c, c ≠ 1 → σ' c = σ c) ∧ ∀ j, j ≠ 16 + b → σ' 1 j = σ 1 j := by
  have hbn := v.2.1
  intro k
  induction k with
  | zero =>
    intro n s t σ w h1 h2 ht hs hy
    obtain ⟨n, rfl⟩ := Nat.exists_eq_succ_of_ne_zero (show n ≠ 0 by omega)
    obtain rfl : s = 4 := by omega
    exact ⟨σ, by rw [fX8_seats_l25, if_pos (by decide), show (16 : Int32) = nI 16 from rfl, nI_add, wrN (by omega) (by omega), bnd], fun _ _ => rfl, fun _ _ => rfl⟩
  | succ k ih =>
    intro n s t σ w h1 h2 ht hs hy
    obtain ⟨n, rfl⟩ := Nat.exists_eq_succ_of_ne_zero (show n ≠ 0 by omega)
    have hR : RM (up2 σ 1 (0 + 16 + b) (nI s)) 0 (setSe (setSe r b t) b s) := RM.setSe (RV.setSe v ht) hy.2.2 (by omega)
    have hM : MM (up2 σ 1 (0 + 16 + b) (nI s)) (setSe (setSe r b t) b s) := MM.up hy rfl rfl hR
    rw [setSe_set, Nat.zero_add] at hM
    have hs2 : SM (up2 σ 1 (16 + b) (nI s)) ns S D := ⟨by rw [up2_row (by omega)]; exact hs.1, fun i hi => by rw [up2_row (by omega)]; exact hs.2 i hi⟩
    obtain ⟨σ', e1, e2, e3⟩ := ih n (s + 1) s (up2 σ 1 (16 + b) (nI s)) w (by omega) (by omega) (by omega) hs2 hM
    refine ⟨σ', ?_, fun c hc => by rw [e2 c hc, up2_row hc], fun j hj => by rw [e3 j hj, up2_at, if_neg (by omega)]⟩
    rw [fX8_seats_l25, if_neg (show ¬ (3 : Int32) < nI s from nI_nlt (a := 3) (by omega) (by omega)), show (16 : Int32) = nI 16 from rfl, nI_add, wrN (by omega) (by omega), bnd, eM_seen hM (RV.setSe v (by omega)) hs2 hn hS, bnd, b1if, shlN (by omega), nI_1, ← e1, ← msk_s, Int32.or_zero]
    split <;> rfl
theorem S_seats (x y : Sg) (v1 : Int32) (h : Inv x y) : StI Inv (oX7_seats x v1) (oX8_seats y v1) := by
  obtain ⟨r, ⟨v, hx, hy⟩, hrest⟩ := id h
  have hbn := v.2.1
  unfold oX7_seats oX8_seats fX7_seats fX8_seats
  rcases out_n (n := nb r) (by omega) v1 with ho | ⟨b, hb, rfl⟩
  · exact stSame h (r := -1) (by rw [eX_hasBn hx ((out_x (by omega)).mp ho), bnd, i0]) (by rw [eM_isBn hy v ho, bnd, i0])
  · rw [eX_hasB hx v hb, bnd, i1, eM_isB hy v hb, bnd, i1]
    obtain ⟨ns, S, D, hn, sx, sy, hS⟩ := InvS.get v hrest.2.2.1
    obtain ⟨x1, a1, a2, a3⟩ := eX_copy x 7 1 (by omega) v hx
    have hsv := (v.2.2.2.2 b hb).2.2.2.1
    obtain ⟨x2, c1, c2⟩ := seatsX_l v hb hn hS 4 2000 0 (se r b) x1 (by omega) (by omega) ⟨by rw [a2 37 (by omega)]; exact sx.1, fun i hi => by rw [a2 38 (by omega), a2 39 (by omega)]; exact sx.2 i hi⟩ (by rw [setSe_id]; exact a3)
    obtain ⟨y2, d1, d2, d3⟩ := seatsM_l v hb hn hS 4 2000 0 (se r b) y (nI (se r b)) (by omega) (by omega) hsv sy (by rw [setSe_id]; exact hy)
    rw [msk, nI_0] at c1 d1
    refine stOf (x' := x2) (y' := up2 y2 1 (16 + b) (nI (se r b))) (by rw [a1, bnd]; exact c1) (by rw [show (16 : Int32) = nI 16 from rfl, nI_add, rdN (by omega) (by omega), bnd, mm_se hy hb]; exact d1) ?_
    have e29 : ∀ j, (up2 y2 1 (16 + b) (nI (se r b))) 1 j = y 1 j := by
      intro j
      rw [up2_at]
      by_cases q : j = 16 + b
      · rw [if_pos ⟨rfl, q⟩, q, mm_se hy hb]
      · rw [if_neg (by omega), d3 j q]
    exact Inv.sc h ⟨by rw [c2 0 (by omega), a2 0 (by omega)], by rw [c2 31 (by omega), a2 31 (by omega)], fun c hc => by rw [c2 c (by omega), a2 c (by omega)]⟩ ⟨fun j hj => by rw [up2_row (by omega), d2 0 (by omega)], fun j _ _ => e29 j, fun c hc => by rw [up2_row (by omega), d2 c (by omega)]⟩ (fun c h1 h2 => by rw [c2 c (by omega), a2 c (by omega)]) (fun j hj => e29 j)
-- owners
def cw (i : Nat) : Nat := if i = 4 then 0 else i + 1
def cnd (r : Rm) (i : Nat) : Bool := decide (i < nl r) || decide (i = 4)
def pO (r : Rm) (b : Nat) (S : Nat → Nat) (D : Nat → Bool) (ns : Nat) : Nat → Bool := fun i => cnd r i && fitF (setOw r b (cw i)) S D ns 0
theorem cw_le {r : Rm} {i : Nat} (h : cnd r i = true) : cw i ≤ nl r := by
  unfold cnd at h; unfold cw
  simp at h
  split <;> omega
theorem e16 : ∀ i, i < 5 → (((1 : Int32) <<< (nI i &&& 31)) = (16 : Int32) ↔ i = 4) := by decide
theorem eX_cnd {x : Sg} {r : Rm} (hx : RX x 1 r) (v : RV r) {i : Nat} (hi : i < 5) : fX7_isCandidate x (nI i) = some (b1 (cnd r i)) := by
  have hl := v.1
  unfold fX7_isCandidate cnd
  by_cases h : i < nl r
  · rw [eX_hasL hx v h, bnd, i1]; simp [h, b1]
  · rw [eX_hasLn hx (Or.inr (nI_le (by omega) (by omega))), bnd, i0]
    by_cases h4 : i = 4
    · rw [if_pos ((e16 i hi).mpr h4)]; simp [h4, b1]
    · rw [if_neg (fun q => h4 ((e16 i hi).mp q))]; simp [h4, h, b1]
theorem eX_cand {i : Nat} (hi : i < 5) : fX7_candidate (nI i) = some (oX (cw i)) := by
  unfold fX7_candidate cw
  by_cases h4 : i = 4
  · rw [if_pos ((e16 i hi).mpr h4), if_pos h4]; rfl
  · rw [if_neg (fun q => h4 ((e16 i hi).mp q)), if_neg h4, oX_pos (by omega)]; rfl
theorem ownX_l {r : Rm} (v : RV r) {b : Nat} (hb : b < nb r) {ns : Nat} {S : Nat → Nat} {D : Nat → Bool} (hn : ns ≤ 6) (hS : ∀ i, i < ns → S i < 16) : ∀ (k n i t : Nat) (σ : Sg), i + k = 5 → k < n → SX σ ns S D → RX σ 1 r → RX σ 7 (setOw r b t) → ∃ σ' : Sg, fX7_possibleOwners_l15 (nI b) n σ (nI (msk i (pO r b S D ns))) (nI i) = some (σ', nI (msk 5 (pO r b S D ns))) ∧ ∀ c, c ≠ 12 → σ' c = σ c := by
  have hbn := v.2.1
  intro k
  induction k with
  | zero =>
    intro n i t σ h1 h2 hs h1x hx
    obtain ⟨n, rfl⟩ := Nat.exists_eq_succ_of_ne_zero (show n ≠ 0 by omega)
    obtain rfl : i = 5 := by omega
    exact ⟨σ, by rw [fX7_possibleOwners_l15, if_pos (by decide)], fun _ _ => rfl⟩
  | succ k ih =>
    intro n i t σ h1 h2 hs h1x hx
    obtain ⟨n, rfl⟩ := Nat.exists_eq_succ_of_ne_zero (show n ≠ 0 by omega)
    rw [fX7_possibleOwners_l15, if_neg (show ¬ (4 : Int32) < nI i from nI_nlt (a := 4) (by omega) (by omega)), eX_cnd h1x v (by omega), bnd, b1if, nI_1]
    by_cases hc : cnd r i = true
    · have hx2 := RX.setOw (i := b) (x := cw i) hx
      rw [setOw_set] at hx2
      have hs2 : SX (up2 σ 12 b (oX (cw i))) ns S D := ⟨by rw [up2_row (by omega)]; exact hs.1, fun i hi => by rw [up2_row (by omega), up2_row (by omega)]; exact hs.2 i hi⟩
      obtain ⟨σ', e1, e2⟩ := ih n (i + 1) (cw i) (up2 σ 12 b (oX (cw i))) (by omega) (by omega) hs2 (h1x.cg (fun c c1 c2 => up2_row (by omega))) hx2
      refine ⟨σ', ?_, fun c hc => by rw [e2 c hc, up2_row hc]⟩
      rw [if_pos hc, eX_cand (by omega), bnd, wrN (by omega) (by omega), bnd, eX_fits hx2 (RV.setOw v (cw_le hc)) hs2 hn hS, bnd, b1if, shlN (by omega), ← e1, ← msk_s]
      have hp : pO r b S D ns i = fitF (setOw r b (cw i)) S D ns 0 := by unfold pO; rw [hc]; rfl
      rw [hp]
      split <;> rfl
    · have hp : pO r b S D ns i = false := by unfold pO; simp at hc; rw [hc]; rfl
      obtain ⟨σ', e1, e2⟩ := ih n (i + 1) t σ (by omega) (by omega) hs h1x hx
      refine ⟨σ', ?_, e2⟩
      rw [if_neg hc, ← e1, ← msk_s, hp]; rfl
theorem eX_pos {r : Rm} (v : RV r) {b : Nat} (hb : b < nb r) {ns : Nat} {S : Nat → Nat} {D : Nat → Bool} (hn : ns ≤ 6) (hS : ∀ i, i < ns → S i < 16) {x : Sg} (hx : RX x 1 r) (sx : SX x ns S D) : ∃ x' : Sg, fX7_possibleOwners x (nI b) = some (x', nI (msk 5 (pO r b S D ns))) ∧ ∀ c, c < 7 ∨ 12 < c → x' c = x c := by
  obtain ⟨x1, a1, a2, a3⟩ := eX_copy x 7 1 (by omega) v hx
  obtain ⟨x2, c1, c2⟩ := ownX_l v hb hn hS 5 2000 0 (ow r b) x1 (by omega) (by omega) ⟨by rw [a2 37 (by omega)]; exact sx.1, fun i hi => by rw [a2 38 (by omega), a2 39 (by omega)]; exact sx.2 i hi⟩ (hx.cg (fun c c1 c2 => a2 c (by omega))) (by rw [setOw_id]; exact a3)
  rw [msk, nI_0] at c1
  exact ⟨x2, by unfold fX7_possibleOwners; rw [a1, bnd]; exact c1, fun c hc => by rw [c2 c (by omega), a2 c (by omega)]⟩
def cbN (r : Rm) (b i : Nat) : Nat := msk (2 ^ nl r) (fun s => carR (setOw r b (cw i)) s)
theorem own88 {r : Rm} (v : RV r) {q : Rm} (vq : RV q) (hq : nl q = nl r) {i : Nat} (hi : i < 5) (w1 w2 w3 : Int32) (k15 : Sg → Int32 → Int32 → Int32 → Option (Sg × Int32)) : ∀ (k n s : Nat) (σ : Sg), s + k = 2 ^ nl r → k < n → MM σ q → σ 9 i = nI (msk s (fun s => carR q s)) → ∃ σ' : Sg, fX8_ownersOf_l88 w1 k15 n σ w2 w3 (nI i) (nI s) = k15 σ' w2 w3 (nI (i + 1)) ∧ σ' 9 i = nI (msk (2 ^ nl r) (fun s => carR q s)) ∧ (∀ c, c ≠ 9 → σ' c = σ c) ∧ ∀ j, j ≠ i → σ' 9 j = σ 9 j := by
  have hl := v.1
  have hp : 2 ^ nl r ≤ 2 ^ 4 := Nat.pow_le_pow_right (by decide) hl
  intro k
  induction k with
  | zero =>
    intro n s σ h1 h2 hy h9
    obtain ⟨n, rfl⟩ := Nat.exists_eq_succ_of_ne_zero (show n ≠ 0 by omega)
    obtain rfl : s = 2 ^ nl r := by omega
    exact ⟨σ, by rw [fX8_ownersOf_l88, hy.1, hq, shlN (by omega), if_pos (nI_le (by omega) (by omega)), nI_1], h9, fun _ _ => rfl, fun _ _ => rfl⟩
  | succ k ih =>
    intro n s σ h1 h2 hy h9
    obtain ⟨n, rfl⟩ := Nat.exists_eq_succ_of_ne_zero (show n ≠ 0 by omega)
    have mup : ∀ w : Int32, MM (up2 σ 9 i w) q := fun w => ⟨by rw [up2_row (by omega)]; exact hy.1, by rw [up2_row (by omega)]; exact hy.2.1, RM.cg vq hy.2.2 (fun j _ _ => by rw [up2_row (by omega)])⟩
    obtain ⟨σ', e1, e2, e3, e4⟩ := ih n (s + 1) (up2 σ 9 i (nI (msk (s + 1) (fun s => carR q s)))) (by omega) (by omega) (mup _) (by rw [up2_at, if_pos ⟨rfl, rfl⟩])
    refine ⟨σ', ?_, e2, fun c hc => by rw [e3 c hc, up2_row hc], fun j hj => by rw [e4 j hj, up2_at, if_neg (by omega)]⟩
    rw [fX8_ownersOf_l88, hy.1, hq, shlN (by omega), if_neg (nI_ge (by omega) (by omega)), rdN (by omega) (by omega), bnd, h9, eM_car hy vq (by omega), bnd, shlN (by omega), nI_1, Int32.or_zero, wrN (by omega) (by omega), bnd, wrN (by omega) (by omega), bnd, ← e1, ← msk_s]
    cases e : carR q s
    · exact if_pos rfl
    · exact if_neg (by decide)
theorem ownM_l {r : Rm} (v : RV r) {b : Nat} (hb : b < nb r) {ns : Nat} {S : Nat → Nat} {D : Nat → Bool} (hn : ns ≤ 6) (hS : ∀ i, i < ns → S i < 16) : ∀ (k n i t : Nat) (σ : Sg) (w : Int32), i + k = 5 → k < n → t ≤ nl r → SM σ ns S D → MM σ (setOw r b t) → (∀ j, j < i → cnd r j = true → σ 9 j = nI (cbN r b j)) → ∃ σ' : Sg, fX8_ownersOf_l15 (nI b) n σ (nI (msk i (pO r b S D ns))) w (nI i) = some (up2 σ' 1 (22 + b) w, nI (msk 5 (pO r b S D ns))) ∧ (∀ c, c ≠ 1 → c ≠ 9 → σ' c = σ c) ∧ (∀ j, j ≠ 22 + b → σ' 1 j = σ 1 j) ∧ ∀ j, j < 5 → cnd r j = true → σ' 9 j = nI (cbN r b j) := by
  have hbn := v.2.1
  have hln := v.1
  intro k
  induction k with
  | zero =>
    intro n i t σ w h1 h2 ht hs hy h9
    obtain ⟨n, rfl⟩ := Nat.exists_eq_succ_of_ne_zero (show n ≠ 0 by omega)
    obtain rfl : i = 5 := by omega
    exact ⟨σ, by rw [fX8_ownersOf_l15, if_pos (by decide), show (22 : Int32) = nI 22 from rfl, nI_add, wrN (by omega) (by omega), bnd], fun _ _ _ => rfl, fun _ _ => rfl, h9⟩
  | succ k ih =>
    intro n i t σ w h1 h2 ht hs hy h9
    obtain ⟨n, rfl⟩ := Nat.exists_eq_succ_of_ne_zero (show n ≠ 0 by omega)
    by_cases hc : cnd r i = true
    · have vq : RV (setOw r b (cw i)) := RV.setOw v (cw_le hc)
      have hR : RM (up2 σ 1 (0 + 22 + b) (nI (cw i))) 0 (setOw (setOw r b t) b (cw i)) := RM.setOw (RV.setOw v ht) hy.2.2 (by omega)
      have hM : MM (up2 σ 1 (0 + 22 + b) (nI (cw i))) (setOw (setOw r b t) b (cw i)) := MM.up hy rfl rfl hR
      rw [setOw_set, Nat.zero_add] at hM
      have hs2 : SM (up2 σ 1 (22 + b) (nI (cw i))) ns S D := ⟨by rw [up2_row (by omega)]; exact hs.1, fun i hi => by rw [up2_row (by omega)]; exact hs.2 i hi⟩
      have hM2 : MM (up2 (up2 σ 1 (22 + b) (nI (cw i))) 9 i 0) (setOw r b (cw i)) := ⟨by rw [up2_row (by omega)]; exact hM.1, by rw [up2_row (by omega)]; exact hM.2.1, RM.cg vq hM.2.2 (fun j _ _ => by rw [up2_row (by omega)])⟩
      obtain ⟨σ3, f1, f2, f3, f4⟩ := own88 v vq rfl (show i < 5 by omega) (nI b) (nI (msk (i + 1) (pO r b S D ns))) w (fun σ v2 v3 v4 => fX8_ownersOf_l15 (nI b) n σ v2 v3 v4) (2 ^ nl r) 2000 0 _ (by omega) (by have : 2 ^ nl r ≤ 2 ^ 4 := Nat.pow_le_pow_right (by decide) hln; omega) hM2 (by rw [up2_at, if_pos ⟨rfl, rfl⟩]; rfl)
      obtain ⟨σ', e1, e2, e3, e4⟩ := ih n (i + 1) (cw i) σ3 w (by omega) (by omega) (cw_le hc) ⟨by rw [f3 0 (by omega), up2_row (by omega)]; exact hs2.1, fun i hi => by rw [f3 8 (by omega), up2_row (by omega)]; exact hs2.2 i hi⟩ ⟨by rw [f3 0 (by omega)]; exact hM2.1, by rw [f3 0 (by omega)]; exact hM2.2.1, RM.cg vq hM2.2.2 (fun j _ _ => by rw [f3 1 (by omega)])⟩ (fun j hj hcj => by
        by_cases q : j = i
        · subst q; exact f2
        · rw [f4 j q, up2_at, if_neg (by omega), up2_row (by omega)]; exact h9 j (by omega) hcj)
      refine ⟨σ', ?_, fun c c1 c2 => by rw [e2 c c1 c2, f3 c c2, up2_row c2, up2_row c1], fun j hj => by rw [e3 j hj, f3 1 (by omega), up2_row (by omega), up2_at, if_neg (by omega)], e4⟩
      have hb36 : fX8_ownersOf_b36 (nI b) (fun σ v2 v3 v4 => fX8_ownersOf_l15 (nI b) n σ v2 v3 v4) σ (nI (msk i (pO r b S D ns))) w (nI i) = some (up2 σ' 1 (22 + b) w, nI (msk 5 (pO r b S D ns))) := by
        have hp : pO r b S D ns i = fitF (setOw r b (cw i)) S D ns 0 := by unfold pO; rw [hc]; rfl
        have g : fX8_ownersOf_b58 (nI b) (fun σ v2 v3 v4 => fX8_ownersOf_l15 (nI b) n σ v2 v3 v4) σ (nI (msk i (pO r b S D ns))) w (nI i) (nI (22 + b)) (nI (cw i)) = some (up2 σ' 1 (22 + b) w, nI (msk 5 (pO r b S D ns))) := by
          unfold fX8_ownersOf_b58 fX8_ownersOf_b75
          rw [wrN (by omega) (by omega), bnd, eM_seen hM vq hs2 hn hS, bnd, b1if, wrN (by omega) (by omega), bnd, bnd, shlN (by omega), Int32.or_zero, ← hp]
          have g2 : (if pO r b S D ns i = true then nI (msk i (pO r b S D ns)) ||| nI (2 ^ i) else nI (msk i (pO r b S D ns))) = nI (msk (i + 1) (pO r b S D ns)) := msk_s
          rw [← e1, ← f1, nI_0, ← g2]
          split <;> rfl
        unfold fX8_ownersOf_b36
        rw [show (22 : Int32) = nI 22 from rfl, nI_add]
        unfold cw at g
        by_cases h4 : i = 4
        · rw [if_pos h4] at g
          rw [if_pos (show nI i = (4 : Int32) by rw [h4]; rfl)]
          exact g
        · rw [if_neg h4] at g
          rw [if_neg (show ¬ nI i = (4 : Int32) from fun q => h4 ((nI_eq (b := 4) (by omega) (by omega)).mp q)), nI_1]
          exact g
      rw [fX8_ownersOf_l15, if_neg (show ¬ (4 : Int32) < nI i from nI_nlt (a := 4) (by omega) (by omega)), hb36]
      by_cases h4 : i = 4
      · rw [if_pos (show nI i = (4 : Int32) by rw [h4]; rfl)]
      · have hi : i < nl r := by unfold cnd at hc; simp at hc; omega
        rw [if_neg (show ¬ nI i = (4 : Int32) from fun q => h4 ((nI_eq (b := 4) (by omega) (by omega)).mp q)), eM_isL hy (RV.setOw v ht) hi, bnd, i1]
    · have hp : pO r b S D ns i = false := by unfold pO; simp at hc; rw [hc]; rfl
      obtain ⟨σ', e1, e2, e3, e4⟩ := ih n (i + 1) t σ w (by omega) (by omega) ht hs hy (fun j hj hcj => by
        by_cases q : j = i
        · subst q; exact absurd hcj hc
        · exact h9 j (by omega) hcj)
      refine ⟨σ', ?_, e2, e3, e4⟩
      have hi : ¬ i < nl r ∧ ¬ i = 4 := by unfold cnd at hc; simp at hc; omega
      have hnl : nl (setOw r b t) = nl r := rfl
      rw [fX8_ownersOf_l15, if_neg (show ¬ (4 : Int32) < nI i from nI_nlt (a := 4) (by omega) (by omega)), if_neg (show ¬ nI i = (4 : Int32) from fun q => hi.2 ((nI_eq (b := 4) (by omega) (by omega)).mp q)), eM_isLn hy (RV.setOw v ht) (by rw [hnl]; exact (out_x (by omega)).mpr (Or.inr (nI_le (by omega) (by omega)))), bnd, i0, nI_1, ← e1, ← msk_s, hp]; rfl
theorem eM_own {r : Rm} (v : RV r) {b : Nat} (hb : b < nb r) {ns : Nat} {S : Nat → Nat} {D : Nat → Bool} (hn : ns ≤ 6) (hS : ∀ i, i < ns → S i < 16) {y : Sg} (hy : MM y r) (sy : SM y ns S D) : ∃ y' : Sg, fX8_ownersOf y (nI b) = some (y', nI (msk 5 (pO r b S D ns))) ∧ (∀ c, c ≠ 9 → y' c = y c) ∧ ∀ j, j < 5 → cnd r j = true → y' 9 j = nI (cbN r b j) := by
  have hbn := v.2.1
  obtain ⟨y2, d1, d2, d3, d4⟩ := ownM_l v hb hn hS 5 2000 0 (ow r b) y (nI (ow r b)) (by omega) (by omega) (v.2.2.2.2 b hb).2.2.2.2 sy (by rw [setOw_id]; exact hy) (fun j hj => by omega)
  rw [msk, nI_0] at d1
  refine ⟨up2 y2 1 (22 + b) (nI (ow r b)), by unfold fX8_ownersOf; rw [show (22 : Int32) = nI 22 from rfl, nI_add, rdN (by omega) (by omega), bnd, mm_ow hy hb]; exact d1, fun c hc => ?_, fun j h1 h2 => by rw [up2_row (by omega)]; exact d4 j h1 h2⟩
  by_cases q : c = 1
  · subst q
    funext j
    rw [up2_at]
    by_cases q : j = 22 + b
    · rw [if_pos ⟨rfl, q⟩, q, mm_ow hy hb]
    · rw [if_neg (by omega), d3 j q]
  · rw [up2_row q, d2 c q hc]
theorem S_owners (x y : Sg) (v1 : Int32) (h : Inv x y) : StI Inv (oX7_owners x v1) (oX8_owners y v1) := by
  obtain ⟨r, ⟨v, hx, hy⟩, hrest⟩ := id h
  have hbn := v.2.1
  unfold oX7_owners oX8_owners fX7_owners fX8_owners
  rcases out_n (n := nb r) (by omega) v1 with ho | ⟨b, hb, rfl⟩
  · exact stSame h (r := -1) (by rw [eX_hasBn hx ((out_x (by omega)).mp ho), bnd, i0]) (by rw [eM_isBn hy v ho, bnd, i0])
  · rw [eX_hasB hx v hb, bnd, i1, eM_isB hy v hb, bnd, i1]
    obtain ⟨ns, S, D, hn, sx, sy, hS⟩ := InvS.get v hrest.2.2.1
    obtain ⟨x', a1, a2⟩ := eX_pos v hb hn hS hx sx
    obtain ⟨y', c1, c2, c3⟩ := eM_own v hb hn hS hy sy
    refine stOf (x' := x') (y' := y') (by rw [a1, bnd]) (by rw [c1, bnd]) ?_
    exact Inv.sc h ⟨by rw [a2 0 (by omega)], by rw [a2 31 (by omega)], fun c hc => a2 c (by omega)⟩ ⟨fun j hj => by rw [c2 0 (by omega)], fun j _ _ => by rw [c2 1 (by omega)], fun c hc => c2 c (by omega)⟩ (fun c h1 h2 => a2 c (by omega)) (fun j hj => by rw [c2 1 (by omega)])
