def swQ (q : Rm) (p : Nat) (f : Nat → Nat) : Nat → Nat := fun S => if S.testBit p = false then (if 2 * mt (pg q) (np q) S ≤ seatsR q (allR q) ∧ seatsR q (allR q) < 2 * (mt (pg q) (np q) S + pg q p) then f (cnt (np q) S) else 0) else 0
def swN (q : Rm) (p : Nat) (f : Nat → Nat) : Nat := sm (2 ^ np q) (swQ q p f)
theorem pg_le {q : Rm} (v : RV q) (i : Nat) : pg q i ≤ 18 := plB_w v (nb q) (Nat.le_refl _) i
theorem dec_sum {q : Rm} (v : RV q) {p : Nat} (hp : p < np q) (f : Nat → Nat) : sm (np q) (fun k => dec (cN (pg q) p (np q)) (seatsR q (allR q)) (pg q p) k * f k) = swN q p f := by
  have hT := seatsR_le v (allR q)
  have e := cN_sum (pg q) p (np q) (np q) (fun k s => if 2 * s ≤ seatsR q (allR q) ∧ seatsR q (allR q) < 2 * (s + pg q p) then f k else 0) (fun S _ hb => ⟨cnt_lt hb (np q) hp, by have := mt_le (pg q) (np q) S; rw [pg_sum v] at this; omega⟩)
  unfold swN swQ
  rw [← e]
  refine sm_congr (fun k _ => ?_)
  unfold dec
  rw [← sm_mulr]
  refine sm_congr (fun s _ => ?_)
  by_cases c : 2 * s ≤ seatsR q (allR q) ∧ seatsR q (allR q) < 2 * (s + pg q p)
  · rw [if_pos c, if_pos c]
  · rw [if_neg c, if_neg c, Nat.zero_mul, Nat.mul_zero]
/-- a gathered world -/
def GX (σ : Sg) (q : Rm) : Prop := σ 34 2 = nI (np q) ∧ σ 34 3 = nI (seatsR q (allR q)) ∧ ∀ i, i < np q → σ 35 i = nI (pg q i)
def GM (σ : Sg) (q : Rm) : Prop := σ 0 22 = nI (np q) ∧ ∀ i, i < np q → σ 7 i = nI (pg q i)
theorem sw25 {q : Rm} (v : RV q) {p : Nat} (hp : p < np q) {σ : Sg} (h : GX σ q) (ht : TB σ (cN (pg q) p (np q))) : ∀ k n i, i + k = np q → k < n → fX0_swingsOf_l25 (nI p) n σ (nI (sm i (fun k => dec (cN (pg q) p (np q)) (seatsR q (allR q)) (pg q p) k * 1))) (nI i) = some (σ, nI (swN q p (fun _ => 1))) := by
  have hn := (np_le v).2
  have hT := seatsR_le v (allR q)
  intro k
  induction k with
  | zero =>
    intro n i h1 h2
    obtain ⟨n, rfl⟩ := Nat.exists_eq_succ_of_ne_zero (show n ≠ 0 by omega)
    obtain rfl : i = np q := by omega
    rw [fX0_swingsOf_l25, h.1, if_pos (nI_le (by omega) (by omega)), ← dec_sum v hp]
  | succ k ih =>
    intro n i h1 h2
    obtain ⟨n, rfl⟩ := Nat.exists_eq_succ_of_ne_zero (show n ≠ 0 by omega)
    rw [fX0_swingsOf_l25, h.1, if_neg (nI_ge (by omega) (by omega)), decidedX hn hT hp (pg_le v p) (by omega) ht h.2.1 (h.2.2 p hp), bnd, nI_add, nI_1, ← ih n (i + 1) (by omega) (by omega), sm, Nat.mul_one]
theorem wip {q : Rm} (v : RV q) {p : Nat} (hp : p < np q) : fX7_within (nI p) 0 (nI (np q) - 1) = some 1 := by
  have hn := (np_le v).2
  exact (wiI (nI p) 0 (nI (np q) - 1) 0 ((np q : Int) - 1) rfl (pred_ti (by omega))).2 (nout (by omega) hp)
theorem swX {q : Rm} (v : RV q) {p : Nat} (hp : p < np q) {σ : Sg} (h : GX σ q) : ∃ σ' : Sg, fX0_swingsOf σ (nI p) = some (σ', nI (swN q p (fun _ => 1))) ∧ ∀ c, c ≠ 36 → σ' c = σ c := by
  have hn := (np_le v).2
  obtain ⟨σ1, e1, e2, e3⟩ := csX (g := pg q) (p := p) hn (pg_le v) h.1 h.2.2 (by omega)
  have e := sw25 v hp (σ := σ1) ⟨by rw [e3 34 (by omega)]; exact h.1, by rw [e3 34 (by omega)]; exact h.2.1, by rw [e3 35 (by omega)]; exact h.2.2⟩ e2 (np q) 2000 0 (by omega) (by omega)
  rw [sm, nI_0] at e
  refine ⟨σ1, ?_, e3⟩
  unfold fX0_swingsOf
  rw [h.1, wip v hp, bnd, i1, e1, bnd]
  exact e
def og (n k : Nat) : Nat := fac k * fac (n - 1 - k)
def ordQ (q : Rm) (p : Nat) : Nat := swN q p (og (np q))
def shQ (q : Rm) (p : Nat) : Nat := ordQ q p * (3628800 / fac (np q))
theorem fac_pos : ∀ n, 0 < fac n
  | 0 => by decide
  | n + 1 => Nat.mul_pos (by omega) (fac_pos n)
theorem fac_lt : ∀ n, n < 11 → fac n ≤ 3628800 := by decide
theorem facW : ∀ n, n < 11 → fac n * (3628800 / fac n) = 3628800 := by decide
theorem sh25 {q : Rm} (v : RV q) {p : Nat} (hp : p < np q) {σ : Sg} (h : GX σ q) (ht : TB σ (cN (pg q) p (np q))) : ∀ k n i, i + k = np q → k < n → fX0_shareOf_l25 (nI p) n σ (nI (sm i (fun k => dec (cN (pg q) p (np q)) (seatsR q (allR q)) (pg q p) k * og (np q) k))) (nI i) = some (σ, nI (shQ q p)) := by
  have hn := (np_le v).2
  have hT := seatsR_le v (allR q)
  intro k
  induction k with
  | zero =>
    intro n i h1 h2
    obtain ⟨n, rfl⟩ := Nat.exists_eq_succ_of_ne_zero (show n ≠ 0 by omega)
    obtain rfl : i = np q := by omega
    have hf := fac_lt (np q) (by omega)
    have hf0 := fac_pos (np q)
    rw [fX0_shareOf_l25, h.1, if_pos (nI_le (by omega) (by omega)), rdN (by omega) (by omega), bnd, prtT _ (by omega), nI_mul, dec_sum v hp]
    rfl
  | succ k ih =>
    intro n i h1 h2
    obtain ⟨n, rfl⟩ := Nat.exists_eq_succ_of_ne_zero (show n ≠ 0 by omega)
    rw [fX0_shareOf_l25, h.1, if_neg (nI_ge (by omega) (by omega)), decidedX hn hT hp (pg_le v p) (by omega) ht h.2.1 (h.2.2 p hp), bnd, rdN (by omega) (by omega), bnd, ordT _ (by omega), show nI (np q) - (1 : Int32) - nI i = nI (np q - 1 - i) by rw [show (1 : Int32) = nI 1 from rfl, pk_sub (by omega), pk_sub (by omega)], rdN (by omega) (by omega), bnd, ordT _ (by omega), nI_mul, nI_mul, nI_add, nI_1, ← ih n (i + 1) (by omega) (by omega), sm]
    unfold og
    rw [Nat.mul_assoc]
theorem shX {q : Rm} (v : RV q) {p : Nat} (hp : p < np q) {σ : Sg} (h : GX σ q) : ∃ σ' : Sg, fX0_shareOf σ (nI p) = some (σ', nI (shQ q p)) ∧ ∀ c, c ≠ 36 → σ' c = σ c := by
  have hn := (np_le v).2
  obtain ⟨σ1, e1, e2, e3⟩ := csX (g := pg q) (p := p) hn (pg_le v) h.1 h.2.2 (by omega)
  have e := sh25 v hp (σ := σ1) ⟨by rw [e3 34 (by omega)]; exact h.1, by rw [e3 34 (by omega)]; exact h.2.1, by rw [e3 35 (by omega)]; exact h.2.2⟩ e2 (np q) 2000 0 (by omega) (by omega)
  rw [sm, nI_0] at e
  refine ⟨σ1, ?_, e3⟩
  unfold fX0_shareOf
  rw [h.1, wip v hp, bnd, i1, e1, bnd]
  exact e
-- the reference
theorem mt_l {q : Rm} (v : RV q) {σ : Sg} (h : GM σ q) {S : Nat} (hS : S < 2 ^ 31) : ∀ k n i, i + k = np q → k < n → fX8_mightOf_l4 σ (nI S) n (nI (mt (pg q) i S)) (nI i) = some (nI (mt (pg q) (np q) S)) := by
  have hn := (np_le v).2
  intro k
  induction k with
  | zero =>
    intro n i h1 h2
    obtain ⟨n, rfl⟩ := Nat.exists_eq_succ_of_ne_zero (show n ≠ 0 by omega)
    obtain rfl : i = np q := by omega
    rw [fX8_mightOf_l4, h.1, if_pos (nI_le (by omega) (by omega))]
  | succ k ih =>
    intro n i h1 h2
    obtain ⟨n, rfl⟩ := Nat.exists_eq_succ_of_ne_zero (show n ≠ 0 by omega)
    rw [fX8_mightOf_l4, h.1, if_neg (nI_ge (by omega) (by omega)), ← ih n (i + 1) (by omega) (by omega), mt_s, nI_1]
    by_cases hb : S.testBit i = true
    · rw [if_pos ((bitP hS (by omega)).mpr hb), if_pos hb, rdN (by omega) (by omega), bnd, h.2 i (by omega), nI_add]
    · rw [if_neg (fun z => hb ((bitP hS (by omega)).mp z)), if_neg hb, Int32.add_zero]; rfl
theorem mtM {q : Rm} (v : RV q) {σ : Sg} (h : GM σ q) {S : Nat} (hS : S < 2 ^ 31) : fX8_mightOf σ (nI S) = some (nI (mt (pg q) (np q) S)) := by
  have := mt_l v h hS (np q) 2000 0 (by omega) (by have := (np_le v).2; omega)
  rw [show mt (pg q) 0 S = 0 from rfl, nI_0] at this
  exact this
theorem mt_all {q : Rm} (v : RV q) : mt (pg q) (np q) (2 ^ np q - 1) = seatsR q (allR q) := by
  rw [← pg_sum v]
  unfold mt
  refine sm_congr (fun i hi => ?_)
  rw [Nat.testBit_two_pow_sub_one]
  simp [hi]
theorem swbM {q : Rm} (v : RV q) {σ : Sg} (h : GM σ q) {S p : Nat} (hS : S < 2 ^ 10) (hp : p < np q) : fX8_swingsBy σ (nI p) (nI S) = some (if S.testBit p = false ∧ 2 * mt (pg q) (np q) S ≤ seatsR q (allR q) ∧ seatsR q (allR q) < 2 * (mt (pg q) (np q) S + pg q p) then 1 else 0) := by
  have hn := (np_le v).2
  have hT := seatsR_le v (allR q)
  have hm := mt_le (pg q) (np q) S
  rw [pg_sum v] at hm
  have hg := pg_le v p
  have h2 : 2 ^ np q ≤ 2 ^ 10 := Nat.pow_le_pow_right (by decide) hn
  unfold fX8_swingsBy
  rw [h.1, shl1 (np q) (by omega), mtM v h (by omega), bnd, mt_all v, mtM v h (by omega), bnd, bitN (by omega) (by omega), show (2 : Int32) = nI 2 from rfl, nI_mul, rdN (by omega) (by omega), bnd, h.2 p hp, nI_add, nI_mul]
  have t := tb S p
  by_cases hb : S.testBit p = false
  · have h0 : S / 2 ^ p % 2 = 0 := by rw [hb] at t; simp at t; omega
    rw [h0, if_pos (by decide)]
    by_cases c1 : 2 * mt (pg q) (np q) S ≤ seatsR q (allR q)
    · rw [if_neg (nI_nlt (by omega) (by omega))]
      by_cases c2 : seatsR q (allR q) < 2 * (mt (pg q) (np q) S + pg q p)
      · rw [if_neg (nI_ge (by omega) (by omega)), if_pos ⟨hb, c1, c2⟩]
      · rw [if_pos (nI_le (by omega) (by omega)), if_neg (fun z => c2 z.2.2)]
    · rw [if_pos (nI_lt (by omega) (by omega)), if_neg (fun z => c1 z.2.1)]
  · have h1 : S / 2 ^ p % 2 = 1 := by simp at hb; rw [hb] at t; simp at t; omega
    rw [h1, if_neg (by decide), if_neg (fun z => hb z.1)]
theorem swQ_y {q : Rm} {p S : Nat} {f : Nat → Nat} (h : S.testBit p = false ∧ 2 * mt (pg q) (np q) S ≤ seatsR q (allR q) ∧ seatsR q (allR q) < 2 * (mt (pg q) (np q) S + pg q p)) : swQ q p f S = f (cnt (np q) S) := by
  unfold swQ; rw [if_pos h.1, if_pos h.2]
theorem swQ_n {q : Rm} {p S : Nat} {f : Nat → Nat} (h : ¬ (S.testBit p = false ∧ 2 * mt (pg q) (np q) S ≤ seatsR q (allR q) ∧ seatsR q (allR q) < 2 * (mt (pg q) (np q) S + pg q p))) : swQ q p f S = 0 := by
  unfold swQ
  split
  · rename_i h1
    rw [if_neg (fun z => h ⟨h1, z⟩)]
  · rfl
theorem sw21 {q : Rm} (v : RV q) {σ : Sg} (h : GM σ q) {p : Nat} (hp : p < np q) : ∀ k n S, S + k = 2 ^ np q → k < n → fX8_swings_l21 (nI p) n σ (nI (sm S (swQ q p (fun _ => 1)))) (nI S) = some (σ, nI (swN q p (fun _ => 1))) := by
  have hn := (np_le v).2
  have h2 : 2 ^ np q ≤ 2 ^ 10 := Nat.pow_le_pow_right (by decide) hn
  intro k
  induction k with
  | zero =>
    intro n S h1 h3
    obtain ⟨n, rfl⟩ := Nat.exists_eq_succ_of_ne_zero (show n ≠ 0 by omega)
    obtain rfl : S = 2 ^ np q := by omega
    rw [fX8_swings_l21, h.1, shlN (by omega), if_pos (nI_le (by omega) (by omega))]; rfl
  | succ k ih =>
    intro n S h1 h3
    obtain ⟨n, rfl⟩ := Nat.exists_eq_succ_of_ne_zero (show n ≠ 0 by omega)
    rw [fX8_swings_l21, h.1, shlN (by omega), if_neg (nI_ge (by omega) (by omega)), swbM v h (by omega) hp, bnd, nI_1, nI_1, ← ih n (S + 1) (by omega) (by omega), sm, Int32.add_zero]
    by_cases c : S.testBit p = false ∧ 2 * mt (pg q) (np q) S ≤ seatsR q (allR q) ∧ seatsR q (allR q) < 2 * (mt (pg q) (np q) S + pg q p)
    · rw [if_pos c, i1, swQ_y c]
    · rw [if_neg c, i0, swQ_n c]; rfl
theorem or5 {q : Rm} (v : RV q) {σ : Sg} (h : GM σ q) {p : Nat} (hp : p < np q) : ∀ k n S, S + k = 2 ^ np q → k < n → fX8_ordersBy_l5 σ (nI p) n (lN (sm S (swQ q p (og (np q))))) (nI S) = some (lN (ordQ q p)) := by
  have hn := (np_le v).2
  have h2 : 2 ^ np q ≤ 2 ^ 10 := Nat.pow_le_pow_right (by decide) hn
  intro k
  induction k with
  | zero =>
    intro n S h1 h3
    obtain ⟨n, rfl⟩ := Nat.exists_eq_succ_of_ne_zero (show n ≠ 0 by omega)
    obtain rfl : S = 2 ^ np q := by omega
    rw [fX8_ordersBy_l5, h.1, shlN (by omega), if_pos (nI_le (by omega) (by omega))]; rfl
  | succ k ih =>
    intro n S h1 h3
    obtain ⟨n, rfl⟩ := Nat.exists_eq_succ_of_ne_zero (show n ≠ 0 by omega)
    have hc : cnt 10 S = cnt (np q) S := by
      have := cnt_cut (t := S) (n := np q) (by omega) (10 - np q)
      rw [show np q + (10 - np q) = 10 by omega] at this
      exact this
    rw [fX8_ordersBy_l5, h.1, shlN (by omega), if_neg (nI_ge (by omega) (by omega)), eM_bits (by omega), bnd, hc, swbM v h (by omega) hp, bnd, nI_1, ← ih n (S + 1) (by omega) (by omega), sm]
    by_cases c : S.testBit p = false ∧ 2 * mt (pg q) (np q) S ≤ seatsR q (allR q) ∧ seatsR q (allR q) < 2 * (mt (pg q) (np q) S + pg q p)
    · have hlt := cnt_lt c.1 (np q) hp
      rw [if_pos c, i1, swQ_y c, ordM _ (by omega), bnd, show nI (np q) - (1 : Int32) - nI (cnt (np q) S) = nI (np q - 1 - cnt (np q) S) by rw [show (1 : Int32) = nI 1 from rfl, pk_sub (by omega), pk_sub (by omega)], ordM _ (by omega), bnd, lN_mul, lN_add]
      rfl
    · rw [if_neg c, i0, swQ_n c, Int64.add_zero]; rfl
theorem orM {q : Rm} (v : RV q) {σ : Sg} (h : GM σ q) {p : Nat} (hp : p < np q) : fX8_ordersBy σ (nI p) = some (lN (ordQ q p)) := by
  have hn := (np_le v).2
  have h2 : 2 ^ np q ≤ 2 ^ 10 := Nat.pow_le_pow_right (by decide) hn
  have e := or5 v h hp (2 ^ np q) 2000 0 (by omega) (by omega)
  rw [sm, nI_0] at e
  exact e
theorem og_le : ∀ n, n < 11 → ∀ k, k < n → og n k ≤ fac (n - 1) := by decide
theorem ord_le {q : Rm} (v : RV q) {p : Nat} (hp : p < np q) : ordQ q p ≤ 2 ^ np q * fac (np q - 1) := by
  have hn := (np_le v).2
  unfold ordQ swN
  refine sm_le (fun S _ => ?_)
  by_cases c : S.testBit p = false ∧ 2 * mt (pg q) (np q) S ≤ seatsR q (allR q) ∧ seatsR q (allR q) < 2 * (mt (pg q) (np q) S + pg q p)
  · rw [swQ_y c]; exact og_le _ (by omega) _ (cnt_lt c.1 (np q) hp)
  · rw [swQ_n c]; omega
theorem W31 : ∀ n, n < 11 → 2 ^ n * fac (n - 1) < 2 ^ 29 ∧ (n ≠ 0 → 2 ^ n * fac (n - 1) * (3628800 / fac n) < 2 ^ 31) := by decide
theorem sh_lt {q : Rm} (v : RV q) {p : Nat} (hp : p < np q) : shQ q p < 2 ^ 31 := by
  have hn := (np_le v).2
  exact Nat.lt_of_le_of_lt (Nat.mul_le_mul_right _ (ord_le v hp)) ((W31 (np q) (by omega)).2 (by omega))
theorem ord_lt {q : Rm} (v : RV q) {p : Nat} (hp : p < np q) : ordQ q p < 2 ^ 29 := by
  have hn := (np_le v).2
  exact Nat.lt_of_le_of_lt (ord_le v hp) (W31 (np q) (by omega)).1
theorem frX {q : Rm} (v : RV q) {p : Nat} (hp : p < np q) (w : Int32) : fX7_fraction (nI (shQ q p)).toInt64 (3628800 : Int64) w = some (lowN (ordQ q p) (fac (np q)) w) := by
  have hn := (np_le v).2
  have h1 := sh_lt v hp
  have hW := facW (np q) (by omega)
  have h0 : 0 < 3628800 / fac (np q) := Nat.pos_of_ne_zero (fun z => by rw [z, Nat.mul_zero] at hW; omega)
  rw [nI_l h1, show (3628800 : Int64) = lN 3628800 from rfl, fracX w (by omega) (by decide) (by decide)]
  congr 1
  have e := lowN_mul (u := ordQ q p) (d := fac (np q)) h0 w
  rw [hW] at e
  exact e
theorem loM {q : Rm} (v : RV q) {p : Nat} (hp : p < np q) (w : Int32) : fX8_lowest (lN (ordQ q p)) (lN (fac (np q))) w = some (lowN (ordQ q p) (fac (np q)) w) := by
  have hn := (np_le v).2
  have := ord_lt v hp
  have := fac_lt (np q) (by omega)
  exact fracM w (by omega) (fac_pos _) (by omega)
theorem gX {q : Rm} (v : RV q) {a : Nat} (ha : a + 5 < 34) {σ : Sg} (hx : RX σ a q) : ∃ σ' : Sg, fX0_gather σ a = some σ' ∧ GX σ' q ∧ ∀ c, c ≠ 34 → c ≠ 35 → σ' c = σ c := by
  obtain ⟨σ', e1, e2, e3, e4, e5⟩ := gatX v ha hx
  exact ⟨σ', e1, ⟨e2, e3, e4⟩, e5⟩
theorem gM {q : Rm} (v : RV q) {σ : Sg} (hy : MM σ q) (w : Int32) : ∃ σ' : Sg, fX8_laysPlayers σ w = some (σ', wh q w (nb q)) ∧ GM σ' q ∧ (∀ c, c ≠ 0 → c ≠ 7 → σ' c = σ c) ∧ ∀ j, j ≠ 22 → σ' 0 j = σ 0 j := by
  obtain ⟨σ', e1, e2, e3, e4⟩ := layP v hy w
  exact ⟨σ', e1, ⟨e2, e3⟩, e4⟩
theorem scG {x y x' y' : Sg} (h : Inv x y) (hx : ∀ c, c ≠ 34 → c ≠ 35 → c ≠ 36 → (c < 7 ∨ 12 < c) → x' c = x c) (hy : ∀ c, c ≠ 0 → c ≠ 7 → y' c = y c) (hy0 : ∀ j, j ≠ 22 → y' 0 j = y 0 j) : Inv x' y' :=
  Inv.sc h ⟨by rw [hx 0 (by omega) (by omega) (by omega) (by omega)], by rw [hx 31 (by omega) (by omega) (by omega) (by omega)], fun c hc => hx c (by omega) (by omega) (by omega) (by omega)⟩ ⟨fun j hj => hy0 j (by omega), fun j _ _ => by rw [hy 1 (by omega) (by omega)], fun c hc => hy c (by omega) (by omega)⟩ (fun c h1 h2 => hx c (by omega) (by omega) (by omega) (by omega)) (fun j _ => by rw [hy 1 (by omega) (by omega)])
theorem S_swings (x y : Sg) (v1 : Int32) (h : Inv x y) : StI Inv (oX7_swings x v1) (oX8_swings y v1) := by
  obtain ⟨r, ⟨v, hx, hy⟩, hrest⟩ := id h
  have hl := v.1
  have hn := np_le v
  unfold oX7_swings oX8_swings fX7_swings fX8_swings
  rcases out_n (n := nl r) (by omega) v1 with ho | ⟨l, hl', rfl⟩
  · exact stSame h (r := -1) (by rw [eX_hasLn hx ((out_x (by omega)).mp ho), bnd, i0]) (by rw [eM_isLn hy v ho, bnd, i0])
  · rw [eX_hasL hx v hl', bnd, i1, eM_isL hy v hl', bnd, i1]
    obtain ⟨x1, a1, a2, a3⟩ := gX v (by omega) hx
    obtain ⟨y1, b1, b2, b3, b4⟩ := gM v hy (-4)
    obtain ⟨x2, c1, c2⟩ := swX v (show l < np r by omega) a2
    have h2 : 2 ^ np r ≤ 2 ^ 10 := Nat.pow_le_pow_right (by decide) hn.2
    have e := sw21 v b2 (show l < np r by omega) (2 ^ np r) 2000 0 (by omega) (by omega)
    rw [sm, nI_0] at e
    exact stOf (x' := x2) (y' := y1) (by rw [a1, bnd, c1, bnd]) (by rw [b1, bnd]; exact e) (scG h (fun c h1 h2 h3 _ => by rw [c2 c h3, a3 c h1 h2]) b3 b4)
theorem stOfL {x' y' : Sg} {a b : Option (Sg × Int64)} {r : Int64} (ha : a = some (x', r)) (hb : b = some (y', r)) (h : Inv x' y') : StL Inv a b := ⟨x', y', r, ha, hb, h⟩
theorem S_share (x y : Sg) (v1 v2 : Int32) (h : Inv x y) : StL Inv (oX7_share x v1 v2) (oX8_share y v1 v2) := by
  obtain ⟨r, ⟨v, hx, hy⟩, hrest⟩ := id h
  have hl := v.1
  have hn := np_le v
  unfold oX7_share oX8_share fX7_share fX8_share
  rcases out_n (n := nl r) (by omega) v1 with ho | ⟨l, hl', rfl⟩
  · exact stOfL (x' := x) (y' := y) (r := -1) (by rw [eX_hasLn hx ((out_x (by omega)).mp ho), bnd, i0]) (by rw [eM_isLn hy v ho, bnd, i0]) h
  · rw [eX_hasL hx v hl', bnd, i1, eM_isL hy v hl', bnd, i1]
    by_cases ho2 : out v2 0 1
    · exact stOfL (x' := x) (y' := y) (r := -1) (by rw [(wiI v2 0 1 0 1 (by decide) (by decide)).1 ho2, bnd, i0]) (by rw [(inI v2 0 1 0 1 (by decide) (by decide)).1 ho2, bnd, i0]) h
    · rw [(wiI v2 0 1 0 1 (by decide) (by decide)).2 ho2, bnd, i1, (inI v2 0 1 0 1 (by decide) (by decide)).2 ho2, bnd, i1]
      obtain ⟨x1, a1, a2, a3⟩ := gX v (by omega) hx
      obtain ⟨y1, b1, b2, b3, b4⟩ := gM v hy (-4)
      have hp : l < np r := by omega
      obtain ⟨x2, c1, c2⟩ := shX v hp a2
      refine stOfL (x' := x2) (y' := y1) (r := lowN (ordQ r l) (fac (np r)) v2) ?_ ?_ (scG h (fun c h1 h2 h3 _ => by rw [c2 c h3, a3 c h1 h2]) b3 b4)
      · rw [a1, bnd, c1, bnd]; dsimp only; rw [frX v hp, bnd]
      · rw [b1, bnd]; dsimp only; rw [orM v b2 hp, bnd, b2.1, ordM _ (by omega), bnd, loM v hp, bnd]
theorem plB_mono (r : Rm) (a : Nat) : ∀ k, (plB r a).1 ≤ (plB r (a + k)).1
  | 0 => Nat.le_refl _
  | k + 1 => by
    have := plB_mono r a k
    show _ ≤ (plB r (a + k + 1)).1
    by_cases h : ow r (a + k) = 0
    · rw [plB_y h]; dsimp only; omega
    · rw [plB_n h]; exact this
theorem plB_np {r : Rm} {b : Nat} (hb : b < nb r) (hw : ow r b = 0) : (plB r b).1 < np r := by
  have := plB_mono r (b + 1) (nb r - (b + 1))
  rw [show b + 1 + (nb r - (b + 1)) = nb r by omega, plB_y hw] at this
  unfold np
  exact this
theorem plB_cnt (r : Rm) : ∀ b, (plB r b).1 = nl r + sm b (fun c => if ow r c = 0 then 1 else 0)
  | 0 => rfl
  | b + 1 => by
    rw [sm]
    by_cases h : ow r b = 0
    · rw [plB_y h, if_pos h]; dsimp only; rw [plB_cnt r b]; omega
    · rw [plB_n h, if_neg h, plB_cnt r b]; omega
theorem ahead {r : Rm} (v : RV r) {b : Nat} (hb : b < nb r) : nl r + cnt 6 (nobR r &&& (2 ^ b - 1)) = (plB r b).1 := by
  have hbn := v.2.1
  have hlt : nobR r &&& (2 ^ b - 1) < 2 ^ b := by
    have := Nat.two_pow_pos b
    exact Nat.lt_of_le_of_lt Nat.and_le_right (by omega)
  rw [plB_cnt, cnt6 (n := b) (by omega) hlt]
  congr 1
  unfold cnt
  refine sm_congr (fun i hi => ?_)
  rw [Nat.testBit_and, Nat.testBit_two_pow_sub_one]
  have := nob_bit (r := r) (b := i) (by omega)
  by_cases q : ow r i = 0
  · rw [if_pos q, this.mpr q]; simp [hi]
  · rw [if_neg q, if_neg (fun z => q (this.mp (by simp at z; exact z.1)))]
theorem S_alone (x y : Sg) (v1 v2 : Int32) (h : Inv x y) : StL Inv (oX7_alone x v1 v2) (oX8_alone y v1 v2) := by
  obtain ⟨r, ⟨v, hx, hy⟩, hrest⟩ := id h
  have hl := v.1
  have hbn := v.2.1
  have hn := np_le v
  unfold oX7_alone oX8_alone fX7_alone fX8_alone
  rcases out_n (n := nb r) (by omega) v1 with ho | ⟨b, hb, rfl⟩
  · exact stOfL (x' := x) (y' := y) (r := -1) (by rw [eX_hasBn hx ((out_x (by omega)).mp ho), bnd, i0]) (by rw [eM_isBn hy v ho, bnd, i0]) h
  · rw [eX_hasB hx v hb, bnd, i1, eM_isB hy v hb, bnd, i1]
    by_cases ho2 : out v2 0 1
    · exact stOfL (x' := x) (y' := y) (r := -1) (by rw [(wiI v2 0 1 0 1 (by decide) (by decide)).1 ho2, bnd, i0]) (by rw [(inI v2 0 1 0 1 (by decide) (by decide)).1 ho2, bnd, i0]) h
    · rw [(wiI v2 0 1 0 1 (by decide) (by decide)).2 ho2, bnd, i1, (inI v2 0 1 0 1 (by decide) (by decide)).2 ho2, bnd, i1]
      have how := (v.2.2.2.2 b hb).2.2.2.2
      have hox : x 6 b = oX (ow r b) := (hx.2.2.2.2 b hb).2.2.2
      rw [rdN (by omega) (by omega), bnd, hox, eM_ow hy v hb, bnd]
      by_cases hw : ow r b = 0
      · rw [if_pos ((oX_ne (by omega)).mpr hw), if_pos ((om_lt (by omega)).mpr hw)]
        obtain ⟨x1, a1, a2, a3⟩ := gX v (by omega) hx
        obtain ⟨y1, b1, b2, b3, b4⟩ := gM v hy (nI b)
        have hx1 : RX x1 1 r := hx.cg (fun c c1 c2 => a3 c (by omega) (by omega))
        have hp := plB_np hb hw
        obtain ⟨x2, c1, c2⟩ := shX v hp a2
        have hno := nobR_lt v
        have hand : nobR r &&& (2 ^ b - 1) < 64 := Nat.lt_of_le_of_lt Nat.and_le_left hno
        refine stOfL (x' := x2) (y' := y1) (r := lowN (ordQ r (plB r b).1) (fac (np r)) v2) ?_ ?_ (scG h (fun c h1 h2 h3 _ => by rw [c2 c h3, a3 c h1 h2]) b3 b4)
        · rw [a1, bnd, eX_own hx1 v, bnd, shl1 b (by omega), nI_and, eJ_bc _ hand, bnd, hx1.1, nI_add, ahead v hb, c1, bnd]; dsimp only; rw [frX v hp, bnd]
        · rw [b1, bnd]; dsimp only; rw [wh_at v hw (nb r) hb (Nat.le_refl _), orM v b2 hp, bnd, b2.1, ordM _ (by omega), bnd, loM v hp, bnd]
      · exact stOfL (x' := x) (y' := y) (r := -2) (by rw [if_neg (fun z => hw ((oX_ne (by omega)).mp z))]) (by rw [if_neg (fun z => hw ((om_lt (by omega)).mp z))]) h
