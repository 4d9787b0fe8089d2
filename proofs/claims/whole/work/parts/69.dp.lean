def mt (g : Nat → Nat) (n S : Nat) : Nat := sm n (fun i => if S.testBit i = true then g i else 0)
def cN (g : Nat → Nat) (p n k s : Nat) : Nat := sm (2 ^ n) (fun S => if S.testBit p = false ∧ cnt n S = k ∧ mt g n S = s then 1 else 0)
theorem mt_s (g : Nat → Nat) (n S : Nat) : mt g (n + 1) S = mt g n S + if S.testBit n = true then g n else 0 := rfl
theorem mt_cg {g : Nat → Nat} {n S T : Nat} (h : ∀ i, i < n → S.testBit i = T.testBit i) : mt g n S = mt g n T := by
  unfold mt
  exact sm_congr (fun i hi => by rw [h i hi])
theorem cnt_cg {n S T : Nat} (h : ∀ i, i < n → S.testBit i = T.testBit i) : cnt n S = cnt n T := by
  unfold cnt
  exact sm_congr (fun i hi => by rw [h i hi])
theorem cnt_lo {n S : Nat} (h : S < 2 ^ n) : cnt (n + 1) S = cnt n S := by rw [cnt_s, Nat.testBit_lt_two_pow h]; rfl
theorem cnt_hi {n S : Nat} (h : S < 2 ^ n) : cnt (n + 1) (2 ^ n + S) = cnt n S + 1 := by rw [cnt_s, bit_hi h, cnt_cg (fun i hi => bit_lo hi)]; rfl
theorem mt_lo {g : Nat → Nat} {n S : Nat} (h : S < 2 ^ n) : mt g (n + 1) S = mt g n S := by rw [mt_s, Nat.testBit_lt_two_pow h]; rfl
theorem mt_hi {g : Nat → Nat} {n S : Nat} (h : S < 2 ^ n) : mt g (n + 1) (2 ^ n + S) = mt g n S + g n := by rw [mt_s, bit_hi h, mt_cg (fun i hi => bit_lo hi)]; rfl
theorem sm_0 : ∀ n, sm n (fun _ => 0) = 0
  | 0 => rfl
  | n + 1 => by rw [sm, sm_0 n]
theorem cN_0 (g : Nat → Nat) (p k s : Nat) : cN g p 0 k s = if k = 0 ∧ s = 0 then 1 else 0 := by
  show 0 + (if Nat.testBit 0 p = false ∧ (0 : Nat) = k ∧ (0 : Nat) = s then 1 else 0) = _
  rw [Nat.zero_testBit]
  by_cases h : k = 0 ∧ s = 0
  · rw [if_pos h, if_pos ⟨rfl, h.1.symm, h.2.symm⟩]
  · rw [if_neg h, if_neg (fun q => h ⟨q.2.1.symm, q.2.2.symm⟩)]
theorem cN_lo (g : Nat → Nat) (p n k s : Nat) : sm (2 ^ n) (fun S => if S.testBit p = false ∧ cnt (n + 1) S = k ∧ mt g (n + 1) S = s then 1 else 0) = cN g p n k s := by
  unfold cN
  exact sm_congr (fun S hS => by rw [cnt_lo hS, mt_lo hS])
theorem cN_skip (g : Nat → Nat) (p k s : Nat) : cN g p (p + 1) k s = cN g p p k s := by
  have e : cN g p (p + 1) k s = sm (2 ^ p + 2 ^ p) (fun S => if S.testBit p = false ∧ cnt (p + 1) S = k ∧ mt g (p + 1) S = s then 1 else 0) := by rw [← two_s]; rfl
  rw [e, sm_split, cN_lo, sm_congr (g := fun _ => 0) (fun S hS => by rw [if_neg (fun q => by have := q.1; rw [bit_hi hS] at this; cases this)]), sm_0]; rfl
theorem cN_step (g : Nat → Nat) {p n : Nat} (hp : n ≠ p) (k s : Nat) : cN g p (n + 1) k s = cN g p n k s + (if 1 ≤ k ∧ g n ≤ s then cN g p n (k - 1) (s - g n) else 0) := by
  have e : cN g p (n + 1) k s = sm (2 ^ n + 2 ^ n) (fun S => if S.testBit p = false ∧ cnt (n + 1) S = k ∧ mt g (n + 1) S = s then 1 else 0) := by rw [← two_s]; rfl
  rw [e, sm_split, cN_lo]
  congr 1
  have hbit : ∀ S, S < 2 ^ n → (2 ^ n + S).testBit p = S.testBit p := by
    intro S hS
    rcases Nat.lt_or_ge p n with q | q
    · exact bit_lo q
    · rw [bits_hi hS q]
      exact bits_hi (n := n + 1) (by rw [two_s]; omega) (by omega)
  by_cases h : 1 ≤ k ∧ g n ≤ s
  · rw [if_pos h]
    unfold cN
    refine sm_congr (fun S hS => ?_)
    rw [hbit S hS, cnt_hi hS, mt_hi hS]
    by_cases q : S.testBit p = false ∧ cnt n S = k - 1 ∧ mt g n S = s - g n
    · rw [if_pos q, if_pos ⟨q.1, by omega, by omega⟩]
    · rw [if_neg q, if_neg (fun z => q ⟨z.1, by omega, by omega⟩)]
  · rw [if_neg h, sm_congr (g := fun _ => 0) (fun S hS => by rw [hbit S hS, cnt_hi hS, mt_hi hS, if_neg (fun z => h ⟨by omega, by omega⟩)]), sm_0]
/-- a sum over sets by their number and their might -/
theorem sm_mulr (f : Nat → Nat) (c : Nat) : ∀ n, sm n (fun i => f i * c) = sm n f * c
  | 0 => by rw [sm, sm, Nat.zero_mul]
  | n + 1 => by rw [sm, sm_mulr f c n, sm, Nat.add_mul]
theorem cN_sum (g : Nat → Nat) (p n K : Nat) (Φ : Nat → Nat → Nat) (hK : ∀ S, S < 2 ^ n → S.testBit p = false → cnt n S < K ∧ mt g n S < 19) : sm K (fun k => sm 19 (fun s => cN g p n k s * Φ k s)) = sm (2 ^ n) (fun S => if S.testBit p = false then Φ (cnt n S) (mt g n S) else 0) := by
  have e1 : ∀ k s, cN g p n k s * Φ k s = sm (2 ^ n) (fun S => if S.testBit p = false ∧ cnt n S = k ∧ mt g n S = s then Φ k s else 0) := by
    intro k s
    unfold cN
    rw [← sm_mulr]
    refine sm_congr (fun S _ => ?_)
    split
    · rw [Nat.one_mul]
    · rw [Nat.zero_mul]
  have e2 : sm K (fun k => sm 19 (fun s => cN g p n k s * Φ k s)) = sm K (fun k => sm (2 ^ n) (fun S => sm 19 (fun s => if S.testBit p = false ∧ cnt n S = k ∧ mt g n S = s then Φ k s else 0))) := by
    refine sm_congr (fun k _ => ?_)
    rw [← sm_swap]
    exact sm_congr (fun s _ => e1 k s)
  rw [e2, sm_swap]
  refine sm_congr (fun S hS => ?_)
  by_cases h : S.testBit p = false
  · rw [if_pos h]
    obtain ⟨h1, h2⟩ := hK S hS h
    have e3 : ∀ k, sm 19 (fun s => if S.testBit p = false ∧ cnt n S = k ∧ mt g n S = s then Φ k s else 0) = if cnt n S = k then Φ (cnt n S) (mt g n S) else 0 := by
      intro k
      by_cases q : cnt n S = k
      · rw [if_pos q, sm_congr (g := fun s => if mt g n S = s then Φ (cnt n S) (mt g n S) else 0) (fun s _ => by
          by_cases q2 : mt g n S = s
          · rw [if_pos ⟨h, q, q2⟩, if_pos q2, q, q2]
          · rw [if_neg (fun z => q2 z.2.2), if_neg q2]), sm_one, if_pos h2]
      · rw [if_neg q, sm_congr (g := fun _ => 0) (fun s _ => by rw [if_neg (fun z => q z.2.1)]), sm_0]
    rw [sm_congr (g := fun k => if cnt n S = k then Φ (cnt n S) (mt g n S) else 0) (fun k _ => e3 k), sm_one, if_pos h1]
  · rw [if_neg h, sm_congr (g := fun _ => 0) (fun k _ => by rw [sm_congr (g := fun _ => 0) (fun s _ => by rw [if_neg (fun z => h z.1)]), sm_0]), sm_0]
theorem cnt_lt {p S : Nat} (h : S.testBit p = false) : ∀ n, p < n → cnt n S < n
  | 0, hp => by omega
  | n + 1, hp => by
    rw [cnt_s]
    rcases Nat.lt_or_ge p n with q | q
    · have := cnt_lt h n q
      split <;> omega
    · obtain rfl : p = n := by omega
      have := cnt_le S p
      rw [h]; simp; omega
theorem mt_le (g : Nat → Nat) (n S : Nat) : mt g n S ≤ sm n g := sm_mono (fun i _ => by split <;> omega)
-- the class's table
def TB (σ : Sg) (D : Nat → Nat → Nat) : Prop := ∀ k t, k < 10 → t < 19 → σ 36 (19 * k + t) = nI (D k t)
def Dw (D : Nat → Nat → Nat) (w k t : Nat) : Nat := D k t + (if 1 ≤ k ∧ w ≤ t then D (k - 1) (t - w) else 0)
theorem wid9 (D : Nat → Nat → Nat) {w o : Nat} (hw : w ≤ 18) (ho : o ≤ 8) (k3 : Sg → Int32 → Option Sg) : ∀ (k n s : Nat) (σ : Sg), s + k + w = 19 → k < n → (∀ K t, K < 10 → t < 19 → σ 36 (19 * K + t) = nI (if o + 2 ≤ K ∨ (K = o + 1 ∧ t < s + w) then Dw D w K t else D K t)) → ∃ σ' : Sg, fX0_widenBy_l9 (nI w) k3 n σ (nI o) (nI s) = k3 σ' (nI o + (-1)) ∧ (∀ K t, K < 10 → t < 19 → σ' 36 (19 * K + t) = nI (if o + 1 ≤ K then Dw D w K t else D K t)) ∧ ∀ c, c ≠ 36 → σ' c = σ c := by
  intro k
  induction k with
  | zero =>
    intro n s σ h1 h2 h3
    obtain ⟨n, rfl⟩ := Nat.exists_eq_succ_of_ne_zero (show n ≠ 0 by omega)
    refine ⟨σ, ?_, fun K t hK ht => ?_, fun _ _ => rfl⟩
    · rw [fX0_widenBy_l9, nI_add, if_pos (show (18 : Int32) < nI (s + w) from nI_lt (a := 18) (by omega) (by omega))]
    · rw [h3 K t hK ht]
      by_cases q : o + 1 ≤ K
      · rw [if_pos q, if_pos (by omega)]
      · rw [if_neg q, if_neg (by omega)]
  | succ k ih =>
    intro n s σ h1 h2 h3
    obtain ⟨n, rfl⟩ := Nat.exists_eq_succ_of_ne_zero (show n ≠ 0 by omega)
    obtain ⟨σ', e1, e2, e3⟩ := ih n (s + 1) (up2 σ 36 (19 * (o + 1) + (s + w)) (nI (D (o + 1) (s + w) + D o s))) (by omega) (by omega) (fun K t hK ht => by
      rw [up2_at]
      by_cases q : K = o + 1 ∧ t = s + w
      · obtain ⟨rfl, rfl⟩ := q
        rw [if_pos ⟨rfl, rfl⟩, if_pos (by omega)]
        unfold Dw
        rw [if_pos (by omega), show o + 1 - 1 = o by omega, show s + w - w = s by omega]
      · rw [if_neg (by omega), h3 K t hK ht]
        by_cases q2 : o + 2 ≤ K ∨ (K = o + 1 ∧ t < s + w)
        · rw [if_pos q2, if_pos (by omega)]
        · rw [if_neg q2, if_neg (by omega)])
    refine ⟨σ', ?_, e2, fun c hc => by rw [e3 c hc, up2_row hc]⟩
    have a1 := h3 (o + 1) (s + w) (by omega) (by omega)
    rw [if_neg (by omega)] at a1
    have a2 := h3 o s (by omega) (by omega)
    rw [if_neg (by omega)] at a2
    rw [fX0_widenBy_l9, nI_add, if_neg (show ¬ (18 : Int32) < nI (s + w) from nI_nlt (a := 18) (by omega) (by omega)), nI_1, show (19 : Int32) = nI 19 from rfl, nI_mul, nI_mul, nI_add, nI_add, nI_add, show (o + 1) * 19 + s + w = 19 * (o + 1) + (s + w) by omega, show o * 19 + s = 19 * o + s by omega, rdN (by omega) (by omega), bnd, rdN (by omega) (by omega), bnd, a1, a2, nI_add, wrN (by omega) (by omega), bnd, nI_1]
    exact e1
theorem wid3 (D : Nat → Nat → Nat) {w : Nat} (hw : w ≤ 18) : ∀ (m n : Nat) (σ : Sg), m ≤ 9 → m < n → (∀ K t, K < 10 → t < 19 → σ 36 (19 * K + t) = nI (if m + 1 ≤ K then Dw D w K t else D K t)) → ∃ σ' : Sg, fX0_widenBy_l3 (nI w) n σ (nI m + (-1)) = some σ' ∧ TB σ' (Dw D w) ∧ ∀ c, c ≠ 36 → σ' c = σ c := by
  intro m
  induction m with
  | zero =>
    intro n σ h1 h2 h3
    obtain ⟨n, rfl⟩ := Nat.exists_eq_succ_of_ne_zero (show n ≠ 0 by omega)
    refine ⟨σ, ?_, fun K t hK ht => ?_, fun _ _ => rfl⟩
    · rw [fX0_widenBy_l3, if_pos (by decide)]
    · rw [h3 K t hK ht]
      by_cases q : 0 + 1 ≤ K
      · rw [if_pos q]
      · rw [if_neg q]; unfold Dw; rw [if_neg (by omega)]; rfl
  | succ m ih =>
    intro n σ h1 h2 h3
    obtain ⟨n, rfl⟩ := Nat.exists_eq_succ_of_ne_zero (show n ≠ 0 by omega)
    obtain ⟨σ1, e1, e2, e3⟩ := wid9 D hw (show m ≤ 8 by omega) (fun σ v2 => fX0_widenBy_l3 (nI w) n σ v2) (19 - w) 2000 0 σ (by omega) (by omega) (fun K t hK ht => by
      rw [h3 K t hK ht]
      by_cases q : m + 1 + 1 ≤ K
      · rw [if_pos q, if_pos (by omega)]
      · rw [if_neg q]
        by_cases q2 : m + 2 ≤ K ∨ (K = m + 1 ∧ t < 0 + w)
        · rw [if_pos q2]; unfold Dw; rw [if_neg (by omega)]; rfl
        · rw [if_neg q2])
    obtain ⟨σ', f1, f2, f3⟩ := ih n σ1 (by omega) (by omega) e2
    refine ⟨σ', ?_, f2, fun c hc => by rw [f3 c hc, e3 c hc]⟩
    rw [nI_0] at e1
    rw [pk_m1, fX0_widenBy_l3, if_neg (nI_pos (by omega)), e1]
    exact f1
theorem widX {D : Nat → Nat → Nat} {w : Nat} (hw : w ≤ 18) {σ : Sg} (h : TB σ D) : ∃ σ' : Sg, fX0_widenBy σ (nI w) = some σ' ∧ TB σ' (Dw D w) ∧ ∀ c, c ≠ 36 → σ' c = σ c := by
  obtain ⟨σ', f1, f2, f3⟩ := wid3 D hw 9 2000 σ (by omega) (by omega) (fun K t hK ht => by rw [if_neg (by omega)]; exact h K t hK ht)
  exact ⟨σ', f1, f2, f3⟩
theorem TB.cg {σ : Sg} {D E : Nat → Nat → Nat} (h : TB σ D) (e : ∀ k t, D k t = E k t) : TB σ E := fun k t hk ht => by rw [h k t hk ht, e k t]
theorem cs31 {g : Nat → Nat} {p n0 : Nat} (hn : n0 ≤ 10) (hg : ∀ i, g i ≤ 18) : ∀ (k n q : Nat) (σ : Sg), q + k = n0 → k < n → σ 34 2 = nI n0 → (∀ i, i < n0 → σ 35 i = nI (g i)) → p < 100 → TB σ (cN g p q) → ∃ σ' : Sg, fX0_countSetsWithout_l31 (nI p) n σ (nI q) = some σ' ∧ TB σ' (cN g p n0) ∧ ∀ c, c ≠ 36 → σ' c = σ c := by
  intro k
  induction k with
  | zero =>
    intro n q σ h1 h2 h3 h4 hp h5
    obtain ⟨n, rfl⟩ := Nat.exists_eq_succ_of_ne_zero (show n ≠ 0 by omega)
    obtain rfl : q = n0 := by omega
    exact ⟨σ, by rw [fX0_countSetsWithout_l31, h3, if_pos (nI_le (by omega) (by omega))], h5, fun _ _ => rfl⟩
  | succ k ih =>
    intro n q σ h1 h2 h3 h4 hp h5
    obtain ⟨n, rfl⟩ := Nat.exists_eq_succ_of_ne_zero (show n ≠ 0 by omega)
    rw [fX0_countSetsWithout_l31, h3, if_neg (nI_ge (by omega) (by omega)), nI_1]
    by_cases hq : q = p
    · rw [if_pos (by rw [hq])]
      refine ih n (q + 1) σ (by omega) (by omega) h3 h4 hp (h5.cg (fun k t => ?_))
      rw [hq]; exact (cN_skip g p k t).symm
    · obtain ⟨σ1, e1, e2, e3⟩ := widX (hg q) h5
      obtain ⟨σ', f1, f2, f3⟩ := ih n (q + 1) σ1 (by omega) (by omega) (by rw [e3 34 (by omega)]; exact h3) (fun i hi => by rw [e3 35 (by omega)]; exact h4 i hi) hp (e2.cg (fun k t => (cN_step g hq k t).symm))
      refine ⟨σ', ?_, f2, fun c hc => by rw [f3 c hc, e3 c hc]⟩
      rw [if_neg (fun z => hq ((nI_eq (by omega) (by omega)).mp z)), rdN (by omega) (by omega), bnd, h4 q (by omega), e1, bnd]
      exact f1
theorem cs2 (p : Int32) : ∀ (k n i : Nat) (σ : Sg), i + k = 190 → k < n → (∀ j, j < i → σ 36 j = 0) → ∃ σ' : Sg, fX0_countSetsWithout_l2 p n σ (nI i) = fX0_countSetsWithout_l31 p 2000 σ' 0 ∧ σ' 36 0 = 1 ∧ (∀ j, 0 < j → j < 190 → σ' 36 j = 0) ∧ ∀ c, c ≠ 36 → σ' c = σ c := by
  intro k
  induction k with
  | zero =>
    intro n i σ h1 h2 h3
    obtain ⟨n, rfl⟩ := Nat.exists_eq_succ_of_ne_zero (show n ≠ 0 by omega)
    obtain rfl : i = 190 := by omega
    refine ⟨up2 σ 36 0 1, ?_, by rw [up2_at, if_pos ⟨rfl, rfl⟩], fun j h4 h5 => by rw [up2_at, if_neg (by omega)]; exact h3 j h5, fun c hc => up2_row hc⟩
    rw [fX0_countSetsWithout_l2, if_pos (by decide), show wr σ 36 190 (0 : Int32) 1 = some (up2 σ 36 0 1) from wrN (i := 0) (by omega) (by omega), bnd]
  | succ k ih =>
    intro n i σ h1 h2 h3
    obtain ⟨n, rfl⟩ := Nat.exists_eq_succ_of_ne_zero (show n ≠ 0 by omega)
    obtain ⟨σ', e1, e2, e3, e4⟩ := ih n (i + 1) (up2 σ 36 i 0) (by omega) (by omega) (fun j hj => by
      rw [up2_at]
      by_cases q : j = i
      · rw [if_pos ⟨rfl, q⟩]
      · rw [if_neg (by omega)]; exact h3 j (by omega))
    refine ⟨σ', ?_, e2, e3, fun c hc => by rw [e4 c hc, up2_row hc]⟩
    rw [fX0_countSetsWithout_l2, if_neg (show ¬ (190 : Int32) ≤ nI i from nI_ge (b := 190) (by omega) (by omega)), wrN (by omega) (by omega), bnd, nI_1]
    exact e1
theorem csX {g : Nat → Nat} {p n0 : Nat} (hn : n0 ≤ 10) (hg : ∀ i, g i ≤ 18) {σ : Sg} (h3 : σ 34 2 = nI n0) (h4 : ∀ i, i < n0 → σ 35 i = nI (g i)) (hp : p < 100) : ∃ σ' : Sg, fX0_countSetsWithout σ (nI p) = some σ' ∧ TB σ' (cN g p n0) ∧ ∀ c, c ≠ 36 → σ' c = σ c := by
  obtain ⟨σ1, e1, e2, e3, e4⟩ := cs2 (nI p) 190 2000 0 σ (by omega) (by omega) (fun j hj => by omega)
  obtain ⟨σ', f1, f2, f3⟩ := cs31 (g := g) hn hg n0 2000 0 σ1 (by omega) (by omega) (by rw [e4 34 (by omega)]; exact h3) (fun i hi => by rw [e4 35 (by omega)]; exact h4 i hi) hp (fun k t hk ht => by
    rw [cN_0]
    by_cases q : k = 0 ∧ t = 0
    · rw [if_pos q, q.1, q.2]; exact e2
    · rw [if_neg q]; exact e3 _ (by omega) (by omega))
  refine ⟨σ', ?_, f2, fun c hc => by rw [f3 c hc, e4 c hc]⟩
  rw [nI_0] at e1 f1
  exact e1.trans f1
def cond (T gp s : Nat) : Prop := 2 * s ≤ T ∧ T < 2 * (s + gp)
def dec (D : Nat → Nat → Nat) (T gp k : Nat) : Nat := sm 19 (fun s => if 2 * s ≤ T ∧ T < 2 * (s + gp) then D k s else 0)
theorem decX {σ : Sg} {D : Nat → Nat → Nat} {T gp p n0 k0 : Nat} (hn : n0 ≤ 10) (hT : T ≤ 18) (hp : p < n0) (hgp : gp ≤ 18) (hk : k0 < 10) (h : TB σ D) (h3 : σ 34 3 = nI T) (h4 : σ 35 p = nI gp) : ∀ k n s, s + k = 19 → k < n → fX0_decided_l5 σ (nI p) (nI k0) n (nI (sm s (fun s => if 2 * s ≤ T ∧ T < 2 * (s + gp) then D k0 s else 0))) (nI s) = some (nI (dec D T gp k0)) := by
  intro k
  induction k with
  | zero =>
    intro n s h1 h2
    obtain ⟨n, rfl⟩ := Nat.exists_eq_succ_of_ne_zero (show n ≠ 0 by omega)
    obtain rfl : s = 19 := by omega
    rw [fX0_decided_l5, if_pos (by decide)]; rfl
  | succ k ih =>
    intro n s h1 h2
    obtain ⟨n, rfl⟩ := Nat.exists_eq_succ_of_ne_zero (show n ≠ 0 by omega)
    have e := ih n (s + 1) (by omega) (by omega)
    rw [sm] at e
    rw [fX0_decided_l5, if_neg (show ¬ (18 : Int32) < nI s from nI_nlt (a := 18) (by omega) (by omega)), h3, show (2 : Int32) = nI 2 from rfl, nI_mul, rdN (by omega) (by omega), bnd, h4, nI_add, nI_mul, show (19 : Int32) = nI 19 from rfl, nI_mul, nI_add, show k0 * 19 + s = 19 * k0 + s by omega, rdN (by omega) (by omega), bnd, h k0 s hk (by omega), nI_add, nI_1, ← e]
    by_cases c1 : 2 * s ≤ T
    · rw [if_neg (nI_nlt (by omega) (by omega))]
      by_cases c2 : T < 2 * (s + gp)
      · rw [if_neg (nI_ge (by omega) (by omega)), if_pos ⟨c1, c2⟩]
      · rw [if_pos (nI_le (by omega) (by omega)), if_neg (fun z => c2 z.2)]; rfl
    · rw [if_pos (nI_lt (by omega) (by omega)), if_neg (fun z => c1 z.1)]; rfl
theorem decidedX {σ : Sg} {D : Nat → Nat → Nat} {T gp p n0 k0 : Nat} (hn : n0 ≤ 10) (hT : T ≤ 18) (hp : p < n0) (hgp : gp ≤ 18) (hk : k0 < 10) (h : TB σ D) (h3 : σ 34 3 = nI T) (h4 : σ 35 p = nI gp) : fX0_decided σ (nI p) (nI k0) = some (nI (dec D T gp k0)) := by
  have := decX hn hT hp hgp hk h h3 h4 19 2000 0 (by omega) (by omega)
  rw [sm, nI_0] at this
  exact this
def fac : Nat → Nat
  | 0 => 1
  | n + 1 => (n + 1) * fac n
theorem prtT : ∀ k, k < 11 → prtF k = nI (3628800 / fac k) := by decide +kernel
theorem ordT : ∀ k, k < 11 → ordF k = nI (fac k) := by decide +kernel
theorem ordM : ∀ n, n < 11 → fX8_ordersOf (nI n) = some (lN (fac n)) := by decide +kernel
