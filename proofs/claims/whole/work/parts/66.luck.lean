-- fractions
theorem remL {a b : Nat} (ha : a < 2 ^ 63) (h0 : 0 < b) (hb : b < 2 ^ 63) : rmL (lN a) (lN b) = some (lN (a % b)) := by
  unfold rmL
  rw [if_neg (fun q => by have := (pk_lEQ hb (b := 0) (by omega)).mp q; omega), pk_lRem ha h0 hb]
theorem divL {a b : Nat} (ha : a < 2 ^ 63) (h0 : 0 < b) (hb : b < 2 ^ 63) : dvL (lN a) (lN b) = some (lN (a / b)) := by
  unfold dvL
  rw [if_neg (fun q => by have := (pk_lEQ hb (b := 0) (by omega)).mp q; omega), pk_lDiv ha h0 hb]
theorem cmp0 {b : Nat} (hb : b < 2 ^ 63) : (lg_cmp (lN b) (0 : Int64) = 0) ↔ b = 0 := by
  rw [lg_cmp_eq]
  exact pk_lEQ hb (b := 0) (by omega)
theorem gcd_s {a b : Nat} : Nat.gcd a b = Nat.gcd b (a % b) := by rw [Nat.gcd_comm a b, Nat.gcd_rec b a, Nat.gcd_comm]
theorem cdX (v0 v2 : Int64) : ∀ (k a b n i : Nat), b < 2 ^ k → a < 2 ^ 62 → k ≤ 40 → 2 * k < n → i + 2 * k < 100 → fX7_commonDivisor_l9 v0 v2 n (lN a) (lN b) (nI i) = some (lN (Nat.gcd a b)) := by
  have step : ∀ (a b n i : Nat), 0 < b → b < 2 ^ 62 → a < 2 ^ 62 → i < 100 → fX7_commonDivisor_l9 v0 v2 (n + 1) (lN a) (lN b) (nI i) = fX7_commonDivisor_l9 v0 v2 n (lN b) (lN (a % b)) (nI (i + 1)) := by
    intro a b n i h1 h2 h3 h4
    rw [fX7_commonDivisor_l9, if_neg (show ¬ (100 : Int32) ≤ nI i from nI_ge (b := 100) (by omega) (by omega)), if_neg (fun q => by have := (cmp0 (by omega)).mp q; omega), remL (by omega) h1 (by omega), bnd, nI_1]
  have stop : ∀ (a n i : Nat), i < 100 → fX7_commonDivisor_l9 v0 v2 (n + 1) (lN a) (lN 0) (nI i) = some (lN (Nat.gcd a 0)) := by
    intro a n i h4
    rw [fX7_commonDivisor_l9, if_neg (show ¬ (100 : Int32) ≤ nI i from nI_ge (b := 100) (by omega) (by omega)), if_pos ((cmp0 (by omega)).mpr rfl), Nat.gcd_zero_right]
  intro k
  induction k with
  | zero =>
    intro a b n i h1 h2 h3 h4 h5
    obtain ⟨n, rfl⟩ := Nat.exists_eq_succ_of_ne_zero (show n ≠ 0 by omega)
    obtain rfl : b = 0 := by omega
    exact stop a n i (by omega)
  | succ k ih =>
    intro a b n i h1 h2 h3 h4 h5
    have hk : 2 ^ (k + 1) = 2 * 2 ^ k := by rw [Nat.pow_succ]; omega
    have hk2 : 2 ^ k ≤ 2 ^ 40 := Nat.pow_le_pow_right (by decide) (by omega)
    obtain ⟨n, rfl⟩ := Nat.exists_eq_succ_of_ne_zero (show n ≠ 0 by omega)
    rcases Nat.eq_zero_or_pos b with rfl | hb
    · exact stop a n i (by omega)
    · have hr := Nat.mod_lt a hb
      rw [step a b n i hb (by omega) h2 (by omega), gcd_s]
      rcases Nat.lt_or_ge (a % b) (2 ^ k) with q | q
      · exact ih b (a % b) n (i + 1) q (by omega) (by omega) (by omega) (by omega)
      · obtain ⟨n, rfl⟩ := Nat.exists_eq_succ_of_ne_zero (show n ≠ 0 by omega)
        have hk0 := Nat.two_pow_pos k
        have hm : b % (a % b) = b - a % b := by
          rw [Nat.mod_eq_sub_mod (by omega), Nat.mod_eq_of_lt (by omega)]
        rw [step b (a % b) n (i + 1) (by omega) (by omega) (by omega) (by omega), gcd_s]
        exact ih (a % b) (b % (a % b)) n (i + 1 + 1) (by omega) (by omega) (by omega) (by omega) (by omega)
theorem cdM (v0 v2 : Int64) (v4 : Int32) : ∀ (k a b n : Nat), b < 2 ^ k → a < 2 ^ 62 → k ≤ 40 → 2 * k < n → fX8_lowest_l6 v0 v2 v4 n (lN a) (lN b) = (if v4 = 0 then (dvL v0 (lN (Nat.gcd a b))).bind fun t => some t else (dvL v2 (lN (Nat.gcd a b))).bind fun t => some t) := by
  have step : ∀ (a b n : Nat), 0 < b → b < 2 ^ 62 → a < 2 ^ 62 → fX8_lowest_l6 v0 v2 v4 (n + 1) (lN a) (lN b) = fX8_lowest_l6 v0 v2 v4 n (lN b) (lN (a % b)) := by
    intro a b n h1 h2 h3
    rw [fX8_lowest_l6, if_neg (fun q => by have := (cmp0 (by omega)).mp q; omega), remL (by omega) h1 (by omega), bnd]
  have stop : ∀ (a n : Nat), fX8_lowest_l6 v0 v2 v4 (n + 1) (lN a) (lN 0) = (if v4 = 0 then (dvL v0 (lN (Nat.gcd a 0))).bind fun t => some t else (dvL v2 (lN (Nat.gcd a 0))).bind fun t => some t) := by
    intro a n
    rw [fX8_lowest_l6, if_pos ((cmp0 (by omega)).mpr rfl), Nat.gcd_zero_right]
  intro k
  induction k with
  | zero =>
    intro a b n h1 h2 h3 h4
    obtain ⟨n, rfl⟩ := Nat.exists_eq_succ_of_ne_zero (show n ≠ 0 by omega)
    obtain rfl : b = 0 := by omega
    exact stop a n
  | succ k ih =>
    intro a b n h1 h2 h3 h4
    have hk : 2 ^ (k + 1) = 2 * 2 ^ k := by rw [Nat.pow_succ]; omega
    have hk2 : 2 ^ k ≤ 2 ^ 40 := Nat.pow_le_pow_right (by decide) (by omega)
    obtain ⟨n, rfl⟩ := Nat.exists_eq_succ_of_ne_zero (show n ≠ 0 by omega)
    rcases Nat.eq_zero_or_pos b with rfl | hb
    · exact stop a n
    · have hr := Nat.mod_lt a hb
      rw [step a b n hb (by omega) h2, gcd_s]
      rcases Nat.lt_or_ge (a % b) (2 ^ k) with q | q
      · exact ih b (a % b) n q (by omega) (by omega) (by omega)
      · obtain ⟨n, rfl⟩ := Nat.exists_eq_succ_of_ne_zero (show n ≠ 0 by omega)
        have hk0 := Nat.two_pow_pos k
        have hm : b % (a % b) = b - a % b := by
          rw [Nat.mod_eq_sub_mod (by omega), Nat.mod_eq_of_lt (by omega)]
        rw [step b (a % b) n (by omega) (by omega) (by omega), gcd_s]
        exact ih (a % b) (b % (a % b)) n (by omega) (by omega) (by omega) (by omega)
def lowN (u d : Nat) (w : Int32) : Int64 := if w = 0 then lN (u / Nat.gcd u d) else lN (d / Nat.gcd u d)
theorem fracX {u d : Nat} (w : Int32) (hu : u < 2 ^ 62) (h0 : 0 < d) (hd : d < 2 ^ 40) : fX7_fraction (lN u) (lN d) w = some (lowN u d w) := by
  have hg : 0 < Nat.gcd u d := Nat.gcd_pos_of_pos_right _ h0
  have hg2 : Nat.gcd u d ≤ d := Nat.gcd_le_right _ h0
  have e : fX7_commonDivisor (lN u) (lN d) = some (lN (Nat.gcd u d)) := by
    have := cdX (lN u) (lN d) 40 u d 2000 0 hd hu (by omega) (by omega) (by omega)
    rw [nI_0] at this
    exact this
  unfold fX7_fraction lowN
  rw [e, bnd, if_pos (show (0 : Int32) < lg_cmp (lN (Nat.gcd u d)) (0 : Int64) from (lgg _ _).mpr ((pk_lLT (a := 0) (by omega) (by omega)).mpr hg)), divL (by omega) hg (by omega), divL (by omega) hg (by omega), bnd, bnd]
  split <;> rfl
theorem fracM {u d : Nat} (w : Int32) (hu : u < 2 ^ 62) (h0 : 0 < d) (hd : d < 2 ^ 40) : fX8_lowest (lN u) (lN d) w = some (lowN u d w) := by
  have hg : 0 < Nat.gcd u d := Nat.gcd_pos_of_pos_right _ h0
  have hg2 : Nat.gcd u d ≤ d := Nat.gcd_le_right _ h0
  have e := cdM (lN u) (lN d) w 40 u d 2000 hd hu (by omega) (by omega)
  unfold fX8_lowest lowN
  rw [e, divL (by omega) hg (by omega), divL (by omega) hg (by omega), bnd, bnd]
  split <;> rfl
theorem lowN_mul {u d c : Nat} (hc : 0 < c) (w : Int32) : lowN (u * c) (d * c) w = lowN u d w := by
  unfold lowN
  rw [Nat.gcd_mul_right, Nat.mul_div_mul_right _ _ hc, Nat.mul_div_mul_right _ _ hc]
-- sums over sets
theorem sm_front (f : Nat → Nat) : ∀ n, sm (n + 1) f = f 0 + sm n (fun i => f (i + 1))
  | 0 => by rw [sm, sm, sm]; omega
  | n + 1 => by rw [sm, sm_front f n, sm]; omega
theorem sm_rev : ∀ n (f : Nat → Nat), sm n f = sm n (fun i => f (n - 1 - i))
  | 0, _ => rfl
  | n + 1, f => by
    rw [sm_front f n, sm_rev n (fun i => f (i + 1))]
    show _ = sm n (fun i => f (n + 1 - 1 - i)) + f (n + 1 - 1 - n)
    rw [show n + 1 - 1 - n = 0 by omega, Nat.add_comm]
    congr 1
    exact sm_congr (fun i hi => by rw [show n - 1 - i + 1 = n + 1 - 1 - i by omega])
theorem sm_split (f : Nat → Nat) (m : Nat) : ∀ n, sm (m + n) f = sm m f + sm n (fun i => f (m + i))
  | 0 => rfl
  | n + 1 => by rw [← Nat.add_assoc, sm, sm_split f m n, sm]; omega
theorem sm_mul (f : Nat → Nat) (c : Nat) : ∀ n, sm n (fun i => c * f i) = c * sm n f
  | 0 => by rw [sm, sm, Nat.mul_zero]
  | n + 1 => by rw [sm, sm_mul f c n, sm, Nat.mul_add]
def od (v w : Nat) : Nat → Nat → Nat
  | 0, _ => 1
  | n + 1, s => od v w n s * (if s.testBit n = true then v else w)
theorem od_cg {v w : Nat} {s t : Nat} : ∀ n, (∀ i, i < n → s.testBit i = t.testBit i) → od v w n s = od v w n t
  | 0, _ => rfl
  | n + 1, h => by rw [od, od, od_cg n (fun i hi => h i (by omega)), h n (by omega)]
theorem cnt_le (m : Nat) : ∀ n, cnt n m ≤ n
  | 0 => by unfold cnt; rw [sm]; omega
  | n + 1 => by
    have := cnt_le m n
    unfold cnt at this ⊢
    rw [sm]; split <;> omega
theorem cnt_s (n m : Nat) : cnt (n + 1) m = cnt n m + if m.testBit n = true then 1 else 0 := rfl
theorem od_rev (v w N t : Nat) (ht : t < 2 ^ N) : ∀ n, n ≤ N → od v w n (2 ^ N - 1 - t) = w ^ cnt n t * v ^ (n - cnt n t)
  | 0, _ => by
    show 1 = w ^ cnt 0 t * v ^ (0 - cnt 0 t)
    have : cnt 0 t = 0 := rfl
    rw [this, Nat.sub_self, Nat.pow_zero, Nat.pow_zero]
  | n + 1, h => by
    have hc := cnt_le t n
    have hb : (2 ^ N - 1 - t).testBit n = !t.testBit n := by
      rw [show 2 ^ N - 1 - t = 2 ^ N - (t + 1) by omega, Nat.testBit_two_pow_sub_succ ht]
      simp [show n < N by omega]
    rw [od, od_rev v w N t ht n (by omega), hb, cnt_s]
    cases e : t.testBit n
    · simp only [Bool.not_false, if_true, Bool.false_eq_true, if_false, Nat.add_zero]
      rw [show n + 1 - cnt n t = (n - cnt n t) + 1 by omega, Nat.pow_succ, Nat.mul_assoc]
    · simp only [Bool.not_true, if_true, Bool.false_eq_true, if_false]
      rw [show n + 1 - (cnt n t + 1) = n - cnt n t by omega, Nat.pow_succ, Nat.mul_right_comm]
theorem bit_hi {n s : Nat} (h : s < 2 ^ n) : (2 ^ n + s).testBit n = true := by
  rw [Nat.testBit_two_pow_add_eq, Nat.testBit_lt_two_pow h]; rfl
theorem bit_lo {n s i : Nat} (h : i < n) : (2 ^ n + s).testBit i = s.testBit i := Nat.testBit_two_pow_add_gt h s
theorem od_lo {v w n s : Nat} (h : s < 2 ^ n) : od v w (n + 1) s = od v w n s * w := by
  rw [od, Nat.testBit_lt_two_pow h]; rfl
theorem od_hi {v w n s : Nat} (h : s < 2 ^ n) : od v w (n + 1) (2 ^ n + s) = od v w n s * v := by
  rw [od, bit_hi h, od_cg n (fun i hi => bit_lo hi)]; rfl
theorem two_s (n : Nat) : 2 ^ (n + 1) = 2 ^ n + 2 ^ n := by rw [Nat.pow_succ]; omega
theorem od_sum (v w : Nat) : ∀ n, sm (2 ^ n) (od v w n) = (v + w) ^ n
  | 0 => by rw [Nat.pow_zero, Nat.pow_zero]; rfl
  | n + 1 => by
    have e1 : sm (2 ^ n) (od v w (n + 1)) = w * (v + w) ^ n := by
      rw [← od_sum v w n, ← sm_mul]
      exact sm_congr (fun i hi => by rw [od_lo hi, Nat.mul_comm])
    have e2 : sm (2 ^ n) (fun i => od v w (n + 1) (2 ^ n + i)) = v * (v + w) ^ n := by
      rw [← od_sum v w n, ← sm_mul]
      exact sm_congr (fun i hi => by rw [od_hi hi, Nat.mul_comm])
    rw [two_s, sm_split, e1, e2, Nat.pow_succ, Nat.mul_comm _ (v + w), Nat.add_mul]; omega
def awy (g : Nat → Nat) (n s : Nat) : Nat := sm n (fun b => if s.testBit b = true then 0 else g b)
theorem awy_s (g : Nat → Nat) (n s : Nat) : awy g (n + 1) s = awy g n s + if s.testBit n = true then 0 else g n := rfl
theorem awy_cg {g : Nat → Nat} {n s t : Nat} (h : ∀ i, i < n → s.testBit i = t.testBit i) : awy g n s = awy g n t := by
  unfold awy
  exact sm_congr (fun i hi => by rw [h i hi])
theorem mean_sum (v w : Nat) (g : Nat → Nat) : ∀ n, (v + w) * sm (2 ^ n) (fun s => od v w n s * awy g n s) = w * sm n g * (v + w) ^ n
  | 0 => by
    rw [Nat.pow_zero, Nat.pow_zero]
    show (v + w) * (0 + 1 * 0) = w * 0 * 1
    simp
  | n + 1 => by
    have ih := mean_sum v w g n
    have hT := od_sum v w n
    obtain ⟨M, hM⟩ : ∃ M, M = sm (2 ^ n) (fun s => od v w n s * awy g n s) := ⟨_, rfl⟩
    rw [← hM] at ih
    have e1 : sm (2 ^ n) (fun s => od v w (n + 1) s * awy g (n + 1) s) = w * M + w * g n * (v + w) ^ n := by
      rw [hM, ← hT, ← sm_mul, ← sm_mul, ← sm_add]
      refine sm_congr (fun i hi => ?_)
      rw [od_lo hi, awy_s, Nat.testBit_lt_two_pow hi]
      simp only [Bool.false_eq_true, if_false]
      rw [Nat.mul_add, Nat.mul_comm (od v w n i) w, Nat.mul_assoc, Nat.mul_assoc, Nat.mul_assoc, Nat.mul_comm (g n)]
    have e2 : sm (2 ^ n) (fun i => od v w (n + 1) (2 ^ n + i) * awy g (n + 1) (2 ^ n + i)) = v * M := by
      rw [hM, ← sm_mul]
      refine sm_congr (fun i hi => ?_)
      rw [od_hi hi, awy_s, bit_hi hi, awy_cg (fun j hj => bit_lo hj)]
      simp only [if_true, Nat.add_zero]
      rw [Nat.mul_comm (od v w n i) v, Nat.mul_assoc]
    rw [two_s, sm_split, e1, e2, sm, Nat.pow_succ]
    have e3 : (v + w) * (w * M + w * g n * (v + w) ^ n + v * M) = (v + w) * ((v + w) * M) + (v + w) * (w * g n * (v + w) ^ n) := by
      rw [← Nat.mul_add, Nat.add_mul v w M]
      congr 1; omega
    rw [e3, ih, Nat.mul_add w (sm n g) (g n), Nat.add_mul (w * sm n g) (w * g n) _, Nat.mul_comm (v + w) (w * sm n g * (v + w) ^ n), Nat.mul_comm (v + w) (w * g n * (v + w) ^ n), Nat.mul_assoc (w * sm n g), Nat.mul_assoc (w * g n)]
-- luck, mean
theorem pow_l (a e : Nat) (ha : a ≤ 10) (he : e < 100) : ∀ k n i, i + k = e → k < n → fX7_power_l5 (nI a) (nI e) n (lN (a ^ i)) (nI i) = some (lN (a ^ e)) := by
  intro k
  induction k with
  | zero =>
    intro n i h1 h2
    obtain ⟨n, rfl⟩ := Nat.exists_eq_succ_of_ne_zero (show n ≠ 0 by omega)
    obtain rfl : i = e := by omega
    rw [fX7_power_l5, if_pos (nI_le (by omega) (by omega))]
  | succ k ih =>
    intro n i h1 h2
    obtain ⟨n, rfl⟩ := Nat.exists_eq_succ_of_ne_zero (show n ≠ 0 by omega)
    rw [fX7_power_l5, if_neg (nI_ge (by omega) (by omega)), nI_l (by omega), lN_mul, nI_1, ← Nat.pow_succ]
    exact ih n (i + 1) (by omega) (by omega)
theorem powX (a e : Nat) (ha : a ≤ 10) (he : e < 100) : fX7_power (nI a) (nI e) = some (lN (a ^ e)) := by
  have := pow_l a e ha he e 2000 0 (by omega) (by omega)
  rw [Nat.pow_zero, nI_0] at this
  exact this
theorem bits_hi {s n i : Nat} (h : s < 2 ^ n) (hi : n ≤ i) : s.testBit i = false := Nat.testBit_lt_two_pow (Nat.lt_of_lt_of_le h (Nat.pow_le_pow_right (by decide) hi))
theorem cnt_cut {t n : Nat} (ht : t < 2 ^ n) : ∀ k, cnt (n + k) t = cnt n t
  | 0 => rfl
  | k + 1 => by
    show cnt (n + k + 1) t = cnt n t
    rw [cnt_s, cnt_cut ht k, bits_hi ht (by omega)]; rfl
theorem cnt6 {t n : Nat} (hn : n ≤ 6) (ht : t < 2 ^ n) : cnt 6 t = cnt n t := by
  have := cnt_cut ht (6 - n)
  rw [show n + (6 - n) = 6 by omega] at this
  exact this
def tmL (r : Rm) (own : Nat) (m : Int32) (a : Nat) : Nat := if m = 0 then (if 2 * seatsR r (andn own a) ≤ seatsR r (andn (allR r) a) then 0 else 1) else seatsR r (andn own a)
theorem tmL_le {r : Rm} (vr : RV r) (own : Nat) (m : Int32) (a : Nat) : tmL r own m a ≤ 18 := by
  have := seatsR_le vr (andn own a)
  unfold tmL
  split
  · split <;> omega
  · exact this
def tmF (r : Rm) (v own : Nat) (m : Int32) : Nat → Nat := fun a => od v (10 - v) (nb r) a * tmL r own m a
theorem by57 {y : Sg} {r : Rm} (vr : RV r) (hy : MM y r) (v own a : Nat) (hv : v ≤ 10) (ho : own < 64) (ha : a < 64) (m v2 v4 : Int32) (v6 v8 : Int64) (k42 : Int32 → Int64 → Int64 → Int32 → Option Int64) : ∀ (k n b : Nat), b + k = nb r → k < n → fX8_byAway_l57 y (nI v) v2 m v4 k42 n (nI own) v6 v8 (nI a) (lN (od v (10 - v) b a)) (nI b) = k42 (nI own) (v6 + lN (tmF r v own m a)) v8 (nI (a + 1)) := by
  have hbn := vr.2.1
  have hal := allR_lt vr
  intro k
  induction k with
  | zero =>
    intro n b h1 h2
    obtain ⟨n, rfl⟩ := Nat.exists_eq_succ_of_ne_zero (show n ≠ 0 by omega)
    obtain rfl : b = nb r := by omega
    have hs1 := seatsR_le vr (andn own a)
    have hs2 := seatsR_le vr (andn (allR r) a)
    have ho2 := andn_lt own a
    have ho3 := andn_lt (allR r) a
    rw [fX8_byAway_l57, hy.2.1, if_pos (nI_le (by omega) (by omega)), andnN (by omega), eM_seats hy vr ho2, bnd, eM_all hy vr, bnd, andnN (by omega), eM_seats hy vr ho3, bnd, show (2 : Int32) = nI 2 from rfl, nI_mul]
    unfold fX8_byAway_b149 tmF tmL
    rw [nI_1]
    by_cases hm : m = 0
    · rw [if_pos hm, if_pos hm]
      by_cases hc : 2 * seatsR r (andn own a) ≤ seatsR r (andn (allR r) a)
      · rw [if_pos (nI_le hc (by omega)), if_pos hc, show (0 : Int32).toInt64 = lN 0 from rfl, lN_mul]
      · rw [if_neg (nI_ge (by omega) (by omega)), if_neg hc, show (1 : Int32).toInt64 = lN 1 from rfl, lN_mul]
    · rw [if_neg hm, if_neg hm, nI_l (by omega), lN_mul]
  | succ k ih =>
    intro n b h1 h2
    obtain ⟨n, rfl⟩ := Nat.exists_eq_succ_of_ne_zero (show n ≠ 0 by omega)
    rw [fX8_byAway_l57, hy.2.1, if_neg (nI_ge (by omega) (by omega)), ← ih n (b + 1) (by omega) (by omega), nI_1, show (10 : Int32) = nI 10 from rfl, pk_sub hv, nI_l (by omega), nI_l (by omega), lN_mul, lN_mul, od]
    by_cases hb : a.testBit b = true
    · rw [if_pos ((bitP (by omega) (by omega)).mpr hb), if_pos hb]
    · rw [if_neg (fun q => hb ((bitP (by omega) (by omega)).mp q)), if_neg hb]
theorem by42 {y : Sg} {r : Rm} (vr : RV r) (hy : MM y r) (v own : Nat) (hv : v ≤ 10) (ho : own < 64) (m v2 v4 : Int32) (v8 : Int64) : ∀ (k n a : Nat), a + k = 2 ^ nb r → k < n → fX8_byAway_l42 y (nI v) v2 m v4 n (nI own) (lN (sm a (tmF r v own m))) v8 (nI a) = (fX8_lowest (lN (sm (2 ^ nb r) (tmF r v own m))) v8 v4).bind fun t => some t := by
  have hbn := vr.2.1
  have hp : 2 ^ nb r ≤ 2 ^ 6 := Nat.pow_le_pow_right (by decide) hbn
  have h1a := all1 r
  intro k
  induction k with
  | zero =>
    intro n a h1 h2
    obtain ⟨n, rfl⟩ := Nat.exists_eq_succ_of_ne_zero (show n ≠ 0 by omega)
    obtain rfl : a = 2 ^ nb r := by omega
    rw [fX8_byAway_l42, eM_all hy vr, bnd, if_pos (nI_lt (by omega) (by omega))]
  | succ k ih =>
    intro n a h1 h2
    obtain ⟨n, rfl⟩ := Nat.exists_eq_succ_of_ne_zero (show n ≠ 0 by omega)
    have e := by57 vr hy v own a hv ho (by omega) m v2 v4 (lN (sm a (tmF r v own m))) v8 (fun v5 v6 v8 v10 => fX8_byAway_l42 y (nI v) v2 m v4 n v5 v6 v8 v10) (nb r) 2000 0 (by omega) (by omega)
    rw [od, nI_0] at e
    rw [fX8_byAway_l42, eM_all hy vr, bnd, if_neg (nI_nlt (by omega) (by omega))]
    refine Eq.trans e ?_
    rw [lN_add]
    exact ih n (a + 1) (by omega) (by omega)
theorem by16 {y : Sg} {r : Rm} (vr : RV r) (hy : MM y r) (v own : Nat) (hv : v ≤ 10) (ho : own < 64) (m v2 v4 : Int32) : ∀ (k n b : Nat), b + k = nb r → k < n → fX8_byAway_l16 y (nI v) v2 m v4 n (nI own) 0 (lN (10 ^ b)) (nI b) = (fX8_lowest (lN (sm (2 ^ nb r) (tmF r v own m))) (lN (10 ^ nb r)) v4).bind fun t => some t := by
  have hbn := vr.2.1
  have hp : 2 ^ nb r ≤ 2 ^ 6 := Nat.pow_le_pow_right (by decide) hbn
  intro k
  induction k with
  | zero =>
    intro n b h1 h2
    obtain ⟨n, rfl⟩ := Nat.exists_eq_succ_of_ne_zero (show n ≠ 0 by omega)
    obtain rfl : b = nb r := by omega
    have e := by42 vr hy v own hv ho m v2 v4 (lN (10 ^ nb r)) (2 ^ nb r) 2000 0 (by omega) (by omega)
    rw [sm, nI_0] at e
    rw [fX8_byAway_l16, hy.2.1, if_pos (nI_le (by omega) (by omega))]
    exact e
  | succ k ih =>
    intro n b h1 h2
    obtain ⟨n, rfl⟩ := Nat.exists_eq_succ_of_ne_zero (show n ≠ 0 by omega)
    rw [fX8_byAway_l16, hy.2.1, if_neg (nI_ge (by omega) (by omega)), nI_1, show (10 : Int64) = lN 10 from rfl, lN_mul, ← Nat.pow_succ]
    exact ih n (b + 1) (by omega) (by omega)
theorem od_le (v w : Nat) (h1 : v ≤ 10) (h2 : w ≤ 10) (s : Nat) : ∀ n, od v w n s ≤ 10 ^ n
  | 0 => Nat.le_refl _
  | n + 1 => by
    rw [od, Nat.pow_succ]
    exact Nat.mul_le_mul (od_le v w h1 h2 s n) (by split <;> omega)
theorem tmF_sum_le {r : Rm} (vr : RV r) (v own : Nat) (hv : v ≤ 10) (m : Int32) : sm (2 ^ nb r) (tmF r v own m) < 2 ^ 62 := by
  have hbn := vr.2.1
  have hp : 2 ^ nb r ≤ 2 ^ 6 := Nat.pow_le_pow_right (by decide) hbn
  have h10 : 10 ^ nb r ≤ 10 ^ 6 := Nat.pow_le_pow_right (by decide) hbn
  have h := sm_le (f := tmF r v own m) (c := 10 ^ 6 * 18) (n := 2 ^ nb r) (fun i _ => Nat.mul_le_mul (Nat.le_trans (od_le v (10 - v) hv (by omega) i (nb r)) h10) (tmL_le vr own m i))
  have h3 : 2 ^ nb r * (10 ^ 6 * 18) ≤ 2 ^ 6 * (10 ^ 6 * 18) := Nat.mul_le_mul_right _ hp
  omega
theorem eM_by {y : Sg} {r : Rm} (vr : RV r) (hy : MM y r) (v s : Nat) (hv : v ≤ 10) (hs : s < 2 ^ 31) (m v4 : Int32) : fX8_byAway y (nI v) (nI s) m v4 = some (lowN (sm (2 ^ nb r) (tmF r v (heldR r s) m)) (10 ^ nb r) v4) := by
  have hbn := vr.2.1
  have h10 : 10 ^ nb r ≤ 10 ^ 6 := Nat.pow_le_pow_right (by decide) hbn
  have e := by16 vr hy v (heldR r s) hv (heldR_lt vr s) m (nI s) v4 (nb r) 2000 0 (by omega) (by omega)
  rw [Nat.pow_zero, nI_0, fracM v4 (tmF_sum_le vr v _ hv m) (Nat.pow_pos (by decide)) (by omega), bnd] at e
  unfold fX8_byAway
  rw [eM_held hy vr hs, bnd]
  exact e
def lkF (r : Rm) (v own : Nat) : Nat → Nat := fun t => if 2 * seatsR r (t &&& own) ≤ seatsR r t then 0 else (10 - v) ^ cnt (nb r) t * v ^ (nb r - cnt (nb r) t)
theorem lk_rev {r : Rm} (vr : RV r) (v s : Nat) : sm (2 ^ nb r) (tmF r v (heldR r s) 0) = sm (2 ^ nb r) (lkF r v (heldR r s)) := by
  have hbn := vr.2.1
  have hal := allR_lt vr
  have hh := heldR_lt vr s
  have h1a := all1 r
  rw [sm_rev]
  apply sm_congr
  intro t ht
  unfold tmF tmL lkF
  rw [od_rev v (10 - v) (nb r) t ht (nb r) (Nat.le_refl _), if_pos rfl]
  have hb : ∀ i, (2 ^ nb r - 1 - t).testBit i = (decide (i < nb r) && !t.testBit i) := by
    intro i
    rw [show 2 ^ nb r - 1 - t = 2 ^ nb r - (t + 1) by omega, Nat.testBit_two_pow_sub_succ ht]
  have e1 : andn (heldR r s) (2 ^ nb r - 1 - t) = t &&& heldR r s := by
    apply Nat.eq_of_testBit_eq
    intro i
    rw [andn_bit (by omega), hb, Nat.testBit_and]
    unfold heldR
    rw [msk_bit]
    by_cases q : i < nb r
    · simp only [q, decide_true, Bool.true_and, Bool.not_not]
      rw [Bool.and_comm]
    · simp [q]
  have e2 : andn (allR r) (2 ^ nb r - 1 - t) = t := by
    apply Nat.eq_of_testBit_eq
    intro i
    rw [andn_bit (by omega), hb, all_bit]
    by_cases q : i < nb r
    · simp [q]
    · simp [q, bits_hi ht (show nb r ≤ i by omega)]
  rw [e1, e2]
  split
  · rw [Nat.mul_zero]
  · rw [Nat.mul_one]
theorem lk_l {x : Sg} {r : Rm} (vr : RV r) (hx : RX x 1 r) (v own : Nat) (hv : v ≤ 10) (ho : own < 64) (v2 v3 : Int32) : ∀ (k n t : Nat), t + k = 2 ^ nb r → k < n → fX7_luck_l59 x (nI v) v2 v3 n (nI (allR r)) (nI own) (lN (sm t (lkF r v own))) (nI t) = (fX7_fraction (lN (sm (2 ^ nb r) (lkF r v own))) (lN (10 ^ nb r)) v3).bind fun t => some t := by
  have hbn := vr.2.1
  have hp : 2 ^ nb r ≤ 2 ^ 6 := Nat.pow_le_pow_right (by decide) hbn
  have h1a := all1 r
  intro k
  induction k with
  | zero =>
    intro n t h1 h2
    obtain ⟨n, rfl⟩ := Nat.exists_eq_succ_of_ne_zero (show n ≠ 0 by omega)
    obtain rfl : t = 2 ^ nb r := by omega
    rw [fX7_luck_l59, if_pos (nI_lt (by omega) (by omega)), hx.2.1, show (10 : Int32) = nI 10 from rfl, powX 10 (nb r) (by omega) (by omega), bnd]
  | succ k ih =>
    intro n t h1 h2
    obtain ⟨n, rfl⟩ := Nat.exists_eq_succ_of_ne_zero (show n ≠ 0 by omega)
    have hand : t &&& own < 2 ^ 31 := Nat.lt_of_le_of_lt Nat.and_le_right (by omega)
    have hs1 := seatsR_le vr (t &&& own)
    have hs2 := seatsR_le vr t
    have hc := cnt_le t (nb r)
    rw [fX7_luck_l59, if_neg (nI_nlt (by omega) (by omega)), nI_and, eX_seats hx vr hand, bnd, eX_seats hx vr (by omega), bnd, ← ih n (t + 1) (by omega) (by omega), sm, show (2 : Int32) = nI 2 from rfl, nI_mul, nI_1]
    by_cases hc2 : 2 * seatsR r (t &&& own) ≤ seatsR r t
    · have e0 : lkF r v own t = 0 := by unfold lkF; rw [if_pos hc2]
      rw [if_pos (nI_le hc2 (by omega)), e0]; rfl
    · have e0 : lkF r v own t = (10 - v) ^ cnt (nb r) t * v ^ (nb r - cnt (nb r) t) := by unfold lkF; rw [if_neg hc2]
      rw [if_neg (nI_ge (by omega) (by omega)), eJ_bc t (by omega), bnd, cnt6 hbn (show t < 2 ^ nb r by omega), show (10 : Int32) = nI 10 from rfl, pk_sub hv, powX (10 - v) _ (by omega) (by omega), bnd, hx.2.1, pk_sub hc, powX v _ hv (by omega), bnd, lN_mul, lN_add, e0]
theorem stROL {x y : Sg} (h : Inv x y) {a b : Option Int64} {r : Int64} (ha : a = some r) (hb : b = some r) : StL Inv (a.map (fun r => (x, r))) (b.map (fun r => (y, r))) := ⟨x, y, r, by rw [ha]; rfl, by rw [hb]; rfl, h⟩
theorem bsome {α : Type} (o : Option α) : (o.bind fun t => some t) = o := by cases o <;> rfl
