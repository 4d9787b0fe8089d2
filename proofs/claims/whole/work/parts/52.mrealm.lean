-- bounds checks of both sides
def out (x : Int32) (lo hi : Int) : Prop := x.toInt < lo ∨ hi < x.toInt
theorem lgl (x y : Int64) : lg_cmp x y < 0 ↔ x < y := by
  have e1 : x < y ↔ x.toInt < y.toInt := Int64.lt_iff_toInt_lt
  have e2 : y < x ↔ y.toInt < x.toInt := Int64.lt_iff_toInt_lt
  have e3 : x = y ↔ x.toInt = y.toInt := ⟨fun h => by rw [h], fun h => Int64.toInt_inj.mp h⟩
  unfold lg_cmp
  by_cases h1 : y < x
  · rw [if_pos h1]
    exact ⟨fun h => absurd h (by decide), fun h => absurd (e1.mp h) (by have := e2.mp h1; omega)⟩
  · rw [if_neg h1]
    by_cases h2 : x = y
    · rw [if_pos h2]
      exact ⟨fun h => absurd h (by decide), fun h => absurd (e1.mp h) (by have := e3.mp h2; omega)⟩
    · rw [if_neg h2]
      refine ⟨fun _ => e1.mpr ?_, fun _ => by decide⟩
      have h3 : ¬ y.toInt < x.toInt := fun q => h1 (e2.mpr q)
      have h4 : ¬ x.toInt = y.toInt := fun q => h2 (e3.mpr q)
      omega
theorem lgg (x y : Int64) : 0 < lg_cmp x y ↔ y < x := by
  unfold lg_cmp
  by_cases h1 : y < x
  · rw [if_pos h1]; exact ⟨fun _ => h1, fun _ => by decide⟩
  · rw [if_neg h1]
    by_cases h2 : x = y
    · rw [if_pos h2]; exact ⟨fun h => absurd h (by decide), fun h => absurd h h1⟩
    · rw [if_neg h2]; exact ⟨fun h => absurd h (by decide), fun h => absurd h h1⟩
theorem inI (x : Int32) (lo hi : Int64) (L H : Int) (hL : lo.toInt = L) (hH : hi.toInt = H) : (out x L H → fX8_in x.toInt64 lo hi = some 0) ∧ (¬ out x L H → fX8_in x.toInt64 lo hi = some 1) := by
  have h1 : x.toInt64.toInt = x.toInt := Int32.toInt_toInt64 x
  unfold fX8_in out
  constructor
  · intro h
    by_cases h2 : x.toInt < L
    · rw [if_pos ((lgl _ _).mpr (Int64.lt_iff_toInt_lt.mpr (by omega)))]
    · rw [if_neg (fun q => h2 (by have := Int64.lt_iff_toInt_lt.mp ((lgl _ _).mp q); omega)), if_pos ((lgg _ _).mpr (Int64.lt_iff_toInt_lt.mpr (by omega)))]
  · intro h
    rw [if_neg (fun q => h (Or.inl (by have := Int64.lt_iff_toInt_lt.mp ((lgl _ _).mp q); omega))), if_neg (fun q => h (Or.inr (by have := Int64.lt_iff_toInt_lt.mp ((lgg _ _).mp q); omega)))]
theorem wiI (x lo hi : Int32) (L H : Int) (hL : lo.toInt = L) (hH : hi.toInt = H) : (out x L H → fX7_within x lo hi = some 0) ∧ (¬ out x L H → fX7_within x lo hi = some 1) := by
  unfold fX7_within out
  constructor
  · intro h
    by_cases h2 : x.toInt < L
    · rw [if_pos (Int32.lt_iff_toInt_lt.mpr (by omega))]
    · rw [if_neg (fun q => h2 (by have := Int32.lt_iff_toInt_lt.mp q; omega)), if_pos (Int32.lt_iff_toInt_lt.mpr (by omega))]
  · intro h
    rw [if_neg (fun q => h (Or.inl (by have := Int32.lt_iff_toInt_lt.mp q; omega))), if_neg (fun q => h (Or.inr (by have := Int32.lt_iff_toInt_lt.mp q; omega)))]
theorem out_n {n : Nat} (hn : n < 2 ^ 31) (x : Int32) : out x 0 ((n : Int) - 1) ∨ ∃ i, i < n ∧ x = nI i := by
  by_cases h : out x 0 ((n : Int) - 1)
  · exact Or.inl h
  · unfold out at h
    refine Or.inr ⟨x.toInt.toNat, by omega, Int32.toInt_inj.mp ?_⟩
    rw [nI_toInt (by omega)]; omega
theorem out_x {n : Nat} (hn : n < 2 ^ 31) {x : Int32} : out x 0 ((n : Int) - 1) ↔ (x < 0 ∨ nI n ≤ x) := by
  unfold out
  constructor
  · rintro (h | h)
    · exact Or.inl (Int32.lt_iff_toInt_lt.mpr h)
    · exact Or.inr (Int32.le_iff_toInt_le.mpr (by rw [nI_toInt hn]; omega))
  · rintro (h | h)
    · exact Or.inl (Int32.lt_iff_toInt_lt.mp h)
    · have := Int32.le_iff_toInt_le.mp h
      rw [nI_toInt hn] at this
      exact Or.inr (by omega)
theorem nout {n i : Nat} (hn : n < 2 ^ 31) (hi : i < n) : ¬ out (nI i) 0 ((n : Int) - 1) := by
  unfold out; rw [nI_toInt (by omega)]; omega
theorem pred_ti {n : Nat} (hn : n < 2 ^ 30) : (nI n - 1).toInt = (n : Int) - 1 := pk_sub_toInt (a := n) (b := 1) hn (by decide)
theorem ti64 (x : Int32) : x.toInt64.toInt = x.toInt := Int32.toInt_toInt64 x
def andn (a b : Nat) : Nat := msk 31 (fun i => a.testBit i && !b.testBit i)
theorem andn_lt (a b : Nat) : andn a b < 2 ^ 31 := msk_lt _ _
theorem andn_bit {a b i : Nat} (ha : a < 2 ^ 31) : (andn a b).testBit i = (a.testBit i && !b.testBit i) := by
  unfold andn
  rw [msk_bit]
  by_cases h : i < 31
  · simp [h]
  · have : a.testBit i = false := Nat.testBit_lt_two_pow (Nat.lt_of_lt_of_le ha (Nat.pow_le_pow_right (by decide) (by omega)))
    simp [h, this]
theorem m1b : (-1 : Int32).toBitVec = BitVec.allOnes 32 := by decide
theorem andnN {a b : Nat} (ha : a < 2 ^ 31) : nI a &&& (nI b ^^^ (-1 : Int32)) = nI (andn a b) := by
  apply nI_inj
  rw [Int32.toBitVec_and, Int32.toBitVec_xor, m1b, n32, n32, n32]
  apply BitVec.eq_of_getLsbD_eq
  intro i hi
  rw [BitVec.getLsbD_and, BitVec.getLsbD_xor, BitVec.getLsbD_ofNat, BitVec.getLsbD_ofNat, BitVec.getLsbD_ofNat, BitVec.getLsbD_allOnes, andn_bit ha]
  simp [hi]
section MR
variable {σ : Sg} {r : Rm}
theorem mm_gu (h : MM σ r) {i : Nat} (hi : i < nl r) : σ 1 i = nI (gu r i) := by have := h.2.2.1 i hi; rwa [Nat.zero_add] at this
theorem mm_kd (h : MM σ r) {b : Nat} (hb : b < nb r) : σ 1 (4 + b) = nI (kd r b) := by have := (h.2.2.2.1 b hb).1; rwa [Nat.zero_add] at this
theorem mm_ho (h : MM σ r) {b : Nat} (hb : b < nb r) : σ 1 (10 + b) = nI (ho r b) := by have := (h.2.2.2.1 b hb).2.1; rwa [Nat.zero_add] at this
theorem mm_se (h : MM σ r) {b : Nat} (hb : b < nb r) : σ 1 (16 + b) = nI (se r b) := by have := (h.2.2.2.1 b hb).2.2.1; rwa [Nat.zero_add] at this
theorem mm_ow (h : MM σ r) {b : Nat} (hb : b < nb r) : σ 1 (22 + b) = nI (ow r b) := by have := (h.2.2.2.1 b hb).2.2.2; rwa [Nat.zero_add] at this
theorem mm_pr (h : MM σ r) : σ 1 28 = nI (pr r) - 3 := by have := h.2.2.2.2; rwa [Nat.zero_add] at this
theorem eM_isL (h : MM σ r) (v : RV r) {i : Nat} (hi : i < nl r) : fX8_isLord σ (nI i) = some 1 := by
  have := v.1
  unfold fX8_isLord
  rw [h.1, (inI (nI i) 0 _ 0 ((nl r : Int) - 1) (by decide) (by rw [ti64]; exact pred_ti (by omega))).2 (nout (by omega) hi), bnd]; decide
theorem eM_isLn (h : MM σ r) (v : RV r) {x : Int32} (hx : out x 0 ((nl r : Int) - 1)) : fX8_isLord σ x = some 0 := by
  have := v.1
  unfold fX8_isLord
  rw [h.1, (inI x 0 _ 0 ((nl r : Int) - 1) (by decide) (by rw [ti64]; exact pred_ti (by omega))).1 hx, bnd]; decide
theorem eM_isB (h : MM σ r) (v : RV r) {i : Nat} (hi : i < nb r) : fX8_isBorough σ (nI i) = some 1 := by
  have := v.2.1
  unfold fX8_isBorough
  rw [h.2.1, (inI (nI i) 0 _ 0 ((nb r : Int) - 1) (by decide) (by rw [ti64]; exact pred_ti (by omega))).2 (nout (by omega) hi), bnd]; decide
theorem eM_isBn (h : MM σ r) (v : RV r) {x : Int32} (hx : out x 0 ((nb r : Int) - 1)) : fX8_isBorough σ x = some 0 := by
  have := v.2.1
  unfold fX8_isBorough
  rw [h.2.1, (inI x 0 _ 0 ((nb r : Int) - 1) (by decide) (by rw [ti64]; exact pred_ti (by omega))).1 hx, bnd]; decide
theorem om_lt {w : Nat} (h : w ≤ 4) : (nI w - 1 < 0) ↔ w = 0 := by
  rcases (show w = 0 ∨ w = 1 ∨ w = 2 ∨ w = 3 ∨ w = 4 by omega) with rfl | rfl | rfl | rfl | rfl <;> decide
theorem om_pos {w : Nat} (h : w ≠ 0) : nI w - 1 = nI (w - 1) := by
  obtain ⟨k, rfl⟩ := Nat.exists_eq_succ_of_ne_zero h
  exact nI_pred k
theorem eM_ow (h : MM σ r) (v : RV r) {i : Nat} (hi : i < nb r) : fX8_ownerOf σ (nI i) = some (nI (ow r i) - 1) := by
  have := v.2.1
  unfold fX8_ownerOf
  rw [show (22 : Int32) = nI 22 from rfl, nI_add, rdN (by omega) (by omega), bnd, mm_ow h hi]
theorem eM_vot (h : MM σ r) (v : RV r) {i : Nat} (hi : i < nb r) : fX8_votesOf σ (nI i) = some (nI (votR r i)) := by
  have hb := v.2.1
  have hv := v.2.2.2.2 i hi
  unfold fX8_votesOf
  rw [show (10 : Int32) = nI 10 from rfl, show (4 : Int32) = nI 4 from rfl, nI_add, nI_add, rdN (by omega) (by omega), bnd, mm_ho h hi, nI_1, dvN (by omega), bnd, rdN (by omega) (by omega), bnd, mm_kd h hi]
  unfold votR
  by_cases h0 : kd r i = 0
  · rw [h0, if_pos (show nI 0 = 0 from rfl), if_pos rfl]
  · rw [if_neg (nI_ne0 (by omega) (by omega)), if_neg h0]
    by_cases h1 : kd r i = 1
    · rw [h1, if_pos (show nI 1 = 1 from rfl), if_pos rfl]
    · rw [if_neg (fun q => h1 ((nI_eq (by omega) (by omega)).mp (q.trans (show (1 : Int32) = nI 1 from rfl)))), if_neg h1]
      by_cases h2 : kd r i = 2
      · rw [h2, if_pos (show nI 2 = 2 from rfl), if_pos rfl, nI_1]
      · rw [if_neg (fun q => h2 ((nI_eq (by omega) (by omega)).mp (q.trans (show (2 : Int32) = nI 2 from rfl)))), if_neg h2, nI_add]
theorem m3 : ∀ n, n < 10 → nI n - 3 + 3 = nI n := by decide
theorem eM_cos (h : MM σ r) (v : RV r) {i : Nat} (hi : i < nb r) : fX8_costOf σ (nI i) = some (nI (cosR r i)) := by
  have := v.2.2.1
  unfold fX8_costOf
  rw [show (28 : Int32) = nI 28 from rfl, rdN (by omega) (by omega), bnd, mm_pr h, eM_vot h v hi, bnd, m3 _ (by omega), nI_mul]; rfl
theorem eM_seats_l (h : MM σ r) (v : RV r) {s : Nat} (hs : s < 2 ^ 31) : ∀ k n i, i + k = nb r → k < n → fX8_seatsOf_l4 σ (nI s) n (nI (sm i (seatsF r s))) (nI i) = some (nI (seatsR r s)) := by
  have hb := v.2.1
  intro k
  induction k with
  | zero =>
    intro n i h1 h2
    obtain ⟨n, rfl⟩ := Nat.exists_eq_succ_of_ne_zero (show n ≠ 0 by omega)
    rw [fX8_seatsOf_l4, h.2.1, if_pos (nI_le (by omega) (by omega)), show i = nb r by omega]; rfl
  | succ k ih =>
    intro n i h1 h2
    obtain ⟨n, rfl⟩ := Nat.exists_eq_succ_of_ne_zero (show n ≠ 0 by omega)
    have hi := ih n (i + 1) (by omega) (by omega)
    rw [fX8_seatsOf_l4, h.2.1, if_neg (nI_ge (by omega) (by omega))]
    rw [sm, seatsF] at hi
    by_cases hc : s.testBit i = true
    · rw [if_pos ((bitP hs (by omega)).mpr hc), show (16 : Int32) = nI 16 from rfl, nI_add, rdN (by omega) (by omega), bnd, mm_se h (by omega), nI_add, nI_1]
      rw [if_pos hc] at hi; exact hi
    · rw [if_neg (fun q => hc ((bitP hs (by omega)).mp q)), Int32.add_zero, nI_1]
      rw [if_neg hc] at hi; exact hi
theorem eM_seats (h : MM σ r) (v : RV r) {s : Nat} (hs : s < 2 ^ 31) : fX8_seatsOf σ (nI s) = some (nI (seatsR r s)) :=
  eM_seats_l h v hs (nb r) 2000 0 (by omega) (by have := v.2.1; omega)
theorem eM_all (h : MM σ r) (v : RV r) : fX8_all σ = some (nI (allR r)) := by
  unfold fX8_all
  rw [h.2.1, shl1 _ (by have := v.2.1; omega)]; rfl
theorem eM_held_l (h : MM σ r) (v : RV r) {s : Nat} (hs : s < 2 ^ 31) : ∀ k n i, i + k = nb r → k < n → fX8_boroughsOf_l4 σ (nI s) n (nI (msk i (heldP r s))) (nI i) = some (nI (heldR r s)) := by
  have hb := v.2.1
  have hl := v.1
  intro k
  induction k with
  | zero =>
    intro n i h1 h2
    obtain ⟨n, rfl⟩ := Nat.exists_eq_succ_of_ne_zero (show n ≠ 0 by omega)
    rw [fX8_boroughsOf_l4, h.2.1, if_pos (nI_le (by omega) (by omega)), show i = nb r by omega]; rfl
  | succ k ih =>
    intro n i h1 h2
    obtain ⟨n, rfl⟩ := Nat.exists_eq_succ_of_ne_zero (show n ≠ 0 by omega)
    have hi := ih n (i + 1) (by omega) (by omega)
    have ho := (v.2.2.2.2 i (by omega)).2.2.2.2
    rw [fX8_boroughsOf_l4, h.2.1, if_neg (nI_ge (by omega) (by omega)), eM_ow h v (by omega), bnd, bnd]
    unfold fX8_boroughsOf_b40
    rw [msk] at hi
    by_cases hw : ow r i = 0
    · rw [if_pos ((om_lt (by omega)).mpr hw), Int32.or_zero, nI_1]
      rw [if_neg (by simp [heldP, hw])] at hi; exact hi
    · rw [if_neg (fun q => hw ((om_lt (by omega)).mp q)), om_pos hw]
      by_cases hc : s.testBit (ow r i - 1) = true
      · rw [if_pos ((bitP hs (by omega)).mpr hc), shlN (by omega), orN (msk_lt _ i), nI_1]
        rw [if_pos (by simp [heldP, hw, hc])] at hi; exact hi
      · rw [if_neg (fun q => hc ((bitP hs (by omega)).mp q)), Int32.or_zero, nI_1]
        rw [if_neg (by simp [heldP, hw]; simpa using hc)] at hi; exact hi
theorem eM_held (h : MM σ r) (v : RV r) {s : Nat} (hs : s < 2 ^ 31) : fX8_boroughsOf σ (nI s) = some (nI (heldR r s)) :=
  eM_held_l h v hs (nb r) 2000 0 (by omega) (by have := v.2.1; omega)
theorem all_bit (r : Rm) (i : Nat) : (allR r).testBit i = decide (i < nb r) := by unfold allR; exact Nat.testBit_two_pow_sub_one _ _
theorem nob_eq (v : RV r) : andn (allR r) (heldR r 15) = nobR r := by
  have hl := v.1
  apply Nat.eq_of_testBit_eq
  intro i
  rw [andn_bit (by have := allR_lt v; omega), all_bit]
  unfold heldR nobR
  rw [msk_bit, msk_bit]
  by_cases hi : i < nb r
  · have ho := (v.2.2.2.2 i hi).2.2.2.2
    simp only [hi, decide_true, Bool.true_and, heldP, noP]
    rcases (show ow r i = 0 ∨ ow r i = 1 ∨ ow r i = 2 ∨ ow r i = 3 ∨ ow r i = 4 by omega) with h | h | h | h | h <;> rw [h] <;> decide
  · simp [hi]
theorem eM_nob (h : MM σ r) (v : RV r) : fX8_nobodys σ = some (nI (nobR r)) := by
  unfold fX8_nobodys
  rw [eM_all h v, bnd, show (15 : Int32) = nI 15 from rfl, eM_held h v (by omega), bnd, andnN (by have := allR_lt v; omega), nob_eq v]
theorem eM_gui_l (h : MM σ r) (v : RV r) : ∀ k n i, i + k = nl r → k < n → fX8_guineas_l4 σ n (nI (sm i (gu r))) (nI i) = some (nI (guiR r)) := by
  have hb := v.1
  intro k
  induction k with
  | zero =>
    intro n i h1 h2
    obtain ⟨n, rfl⟩ := Nat.exists_eq_succ_of_ne_zero (show n ≠ 0 by omega)
    rw [fX8_guineas_l4, h.1, if_pos (nI_le (by omega) (by omega)), show i = nl r by omega]; rfl
  | succ k ih =>
    intro n i h1 h2
    obtain ⟨n, rfl⟩ := Nat.exists_eq_succ_of_ne_zero (show n ≠ 0 by omega)
    have hi := ih n (i + 1) (by omega) (by omega)
    rw [fX8_guineas_l4, h.1, if_neg (nI_ge (by omega) (by omega)), rdN (by omega) (by omega), bnd, mm_gu h (by omega), nI_add, nI_1]
    exact hi
theorem eM_gui (h : MM σ r) (v : RV r) : fX8_guineas σ = some (nI (guiR r)) :=
  eM_gui_l h v (nl r) 2000 0 (by omega) (by have := v.1; omega)
theorem eM_sl_l (h : MM σ r) (v : RV r) : ∀ k n i, i + k = nb r → k < n → fX8_seatless_l4 σ n (nI (msk i (slP r))) (nI i) = some (nI (slR r)) := by
  have hb := v.2.1
  intro k
  induction k with
  | zero =>
    intro n i h1 h2
    obtain ⟨n, rfl⟩ := Nat.exists_eq_succ_of_ne_zero (show n ≠ 0 by omega)
    rw [fX8_seatless_l4, h.2.1, if_pos (nI_le (by omega) (by omega)), show i = nb r by omega]; rfl
  | succ k ih =>
    intro n i h1 h2
    obtain ⟨n, rfl⟩ := Nat.exists_eq_succ_of_ne_zero (show n ≠ 0 by omega)
    have hi := ih n (i + 1) (by omega) (by omega)
    have ho := (v.2.2.2.2 i (by omega)).2.2.2.1
    rw [fX8_seatless_l4, h.2.1, if_neg (nI_ge (by omega) (by omega)), show (16 : Int32) = nI 16 from rfl, nI_add, rdN (by omega) (by omega), bnd, mm_se h (by omega)]
    rw [msk] at hi
    by_cases hw : se r i = 0
    · rw [if_pos (by rw [hw]; rfl), shlN (by omega), orN (msk_lt _ i), nI_1]
      rw [if_pos (by simp [slP, hw])] at hi; exact hi
    · rw [if_neg (nI_ne0 (by omega) (by omega)), Int32.or_zero, nI_1]
      rw [if_neg (by simp [slP, hw])] at hi; exact hi
theorem eM_sl (h : MM σ r) (v : RV r) : fX8_seatless σ = some (nI (slR r)) :=
  eM_sl_l h v (nb r) 2000 0 (by omega) (by have := v.2.1; omega)
theorem eM_car (h : MM σ r) (v : RV r) {s : Nat} (hs : s < 2 ^ 31) : fX8_carries σ (nI s) = some (if carR r s = true then 1 else 0) := by
  have h1 := seatsR_le v (heldR r s)
  have h2 := seatsR_le v (allR r)
  unfold fX8_carries
  rw [eM_held h v hs, bnd, eM_seats h v (by have := heldR_lt v s; omega), bnd, eM_all h v, bnd, eM_seats h v (by have := allR_lt v; omega), bnd, show (2 : Int32) = nI 2 from rfl, nI_mul]
  unfold carR
  by_cases hc : seatsR r (allR r) < 2 * seatsR r (heldR r s)
  · rw [if_neg (nI_ge hc (by omega)), if_pos (by simpa using hc)]
  · rw [if_pos (nI_le (by omega) (by omega)), if_neg (by simpa using hc)]
theorem om_eq {w l : Nat} (hw : w ≤ 4) (hl : l < 4) : (nI w - 1 = nI l) ↔ w = l + 1 := by
  rcases (show w = 0 ∨ w = 1 ∨ w = 2 ∨ w = 3 ∨ w = 4 by omega) with rfl | rfl | rfl | rfl | rfl <;> rcases (show l = 0 ∨ l = 1 ∨ l = 2 ∨ l = 3 by omega) with rfl | rfl | rfl | rfl <;> decide
theorem eM_can (h : MM σ r) (v : RV r) {l i : Nat} (hl : l < nl r) (hi : i < nb r) : fX8_canBuy σ (nI l) (nI i) = some (if canR r l i = true then 1 else 0) := by
  have h1 := v.1
  have h2 := v.2.1
  have h3 := (v.2.2.2.2 i hi).2.2.2.2
  have h4 := cosR_le v hi
  have h5 := v.2.2.2.1 l hl
  unfold fX8_canBuy
  rw [eM_ow h v hi, bnd]
  unfold canR
  by_cases hw : ow r i = l + 1
  · rw [if_pos ((om_eq (by omega) (by omega)).mpr hw), if_neg (by simp [hw])]
  · rw [if_neg (fun q => hw ((om_eq (by omega) (by omega)).mp q)), rdN (by omega) (by omega), bnd, mm_gu h hl, eM_cos h v hi, bnd]
    by_cases hc : cosR r i ≤ gu r l
    · rw [if_neg (nI_nlt hc (by omega)), if_pos (by simp [hw, hc])]
    · rw [if_pos (nI_lt (by omega) (by omega)), if_neg (by simp [hc])]
theorem eM_costs_l (h : MM σ r) (v : RV r) {s : Nat} (hs : s < 2 ^ 31) : ∀ k n i, i + k = nb r → k < n → fX8_costsOf_l4 σ (nI s) n (nI (sm i (fun b => if s.testBit b = true then cosR r b else 0))) (nI i) = some (nI (costsR r s)) := by
  have hb := v.2.1
  intro k
  induction k with
  | zero =>
    intro n i h1 h2
    obtain ⟨n, rfl⟩ := Nat.exists_eq_succ_of_ne_zero (show n ≠ 0 by omega)
    rw [fX8_costsOf_l4, h.2.1, if_pos (nI_le (by omega) (by omega)), show i = nb r by omega]; rfl
  | succ k ih =>
    intro n i h1 h2
    obtain ⟨n, rfl⟩ := Nat.exists_eq_succ_of_ne_zero (show n ≠ 0 by omega)
    have hi := ih n (i + 1) (by omega) (by omega)
    rw [fX8_costsOf_l4, h.2.1, if_neg (nI_ge (by omega) (by omega))]
    rw [sm] at hi
    by_cases hc : s.testBit i = true
    · rw [if_pos ((bitP hs (by omega)).mpr hc), eM_cos h v (by omega), bnd, nI_add, nI_1]
      rw [if_pos hc] at hi; exact hi
    · rw [if_neg (fun q => hc ((bitP hs (by omega)).mp q)), Int32.add_zero, nI_1]
      rw [if_neg hc] at hi; exact hi
theorem eM_costs (h : MM σ r) (v : RV r) {s : Nat} (hs : s < 2 ^ 31) : fX8_costsOf σ (nI s) = some (nI (costsR r s)) :=
  eM_costs_l h v hs (nb r) 2000 0 (by omega) (by have := v.2.1; omega)
end MR
