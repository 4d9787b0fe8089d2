def Kv (r : Rm) (c : Nat) : Nat := 8 * votR r c + c
def Rk (r : Rm) (m : Nat) (f : Nat → Nat) (P : Nat → Prop) : Prop := (∀ i, i < m → P (f i)) ∧ (∀ i j, i < j → j < m → Kv r (f i) < Kv r (f j)) ∧ ∀ c, P c → ∃ i, i < m ∧ f i = c
theorem Kv_inj {r : Rm} {c d : Nat} (hc : c < 8) (hd : d < 8) (h : Kv r c = Kv r d) : c = d := by unfold Kv at h; omega
theorem Rk.le {r : Rm} {m : Nat} {f : Nat → Nat} {P : Nat → Prop} (h : Rk r m f P) {i j : Nat} (hij : i ≤ j) (hj : j < m) : Kv r (f i) ≤ Kv r (f j) := by
  rcases Nat.lt_or_ge i j with q | q
  · exact Nat.le_of_lt (h.2.1 i j q hj)
  · rw [Nat.le_antisymm hij q]; exact Nat.le_refl _
theorem Rk.half {r : Rm} {m m' : Nat} {f f' : Nat → Nat} {P : Nat → Prop} (h : Rk r m f P) (h' : Rk r m' f' P) {i : Nat} (ih : ∀ j, j < i → (j < m ↔ j < m') ∧ (j < m → f j = f' j)) (hi : i < m) : i < m' ∧ Kv r (f' i) ≤ Kv r (f i) := by
  obtain ⟨k, hk, e⟩ := h'.2.2 (f i) (h.1 i hi)
  rcases Nat.lt_or_ge k i with q | q
  · have := (ih k q).2 (by omega)
    have h2 := h.2.1 k i q hi
    rw [this, e] at h2
    omega
  · exact ⟨by omega, by rw [← e]; exact h'.le q hk⟩
theorem Rk.uniq {r : Rm} {m m' : Nat} {f f' : Nat → Nat} {P : Nat → Prop} (hP : ∀ c, P c → c < 8) (h : Rk r m f P) (h' : Rk r m' f' P) : m = m' ∧ ∀ i, i < m → f i = f' i := by
  have key : ∀ n i, i < n → (i < m ↔ i < m') ∧ (i < m → f i = f' i) := by
    intro n
    induction n with
    | zero => intro i hi; omega
    | succ n ih =>
      intro i hi
      rcases Nat.lt_or_ge i n with q | q
      · exact ih i q
      · obtain rfl : i = n := by omega
        have ih' : ∀ j, j < i → (j < m' ↔ j < m) ∧ (j < m' → f' j = f j) := fun j hj => ⟨(ih j hj).1.symm, fun q => ((ih j hj).2 ((ih j hj).1.mpr q)).symm⟩
        refine ⟨⟨fun q => (h.half h' ih q).1, fun q => (h'.half h ih' q).1⟩, fun q => ?_⟩
        have a1 := h.half h' ih q
        have a2 := h'.half h ih' a1.1
        exact Kv_inj (hP _ (h.1 i q)) (hP _ (h'.1 i a1.1)) (Nat.le_antisymm a2.2 a1.2)
  constructor
  · rcases Nat.lt_trichotomy m m' with q | q | q
    · have := (key (m + 1) m (by omega)).1.mpr q; omega
    · exact q
    · have := (key (m' + 1) m' (by omega)).1.mp q; omega
  · intro i hi; exact (key (i + 1) i (by omega)).2 hi
theorem ins_l {r : Rm} (v : RV r) {b : Nat} (hb : b < nb r) (m : Nat) (hm : m < 6) (f : Nat → Nat) (hf : ∀ i, i < m → f i < nb r) : ∀ (p0 n : Nat) (σ : Sg), p0 < n → p0 ≤ m → RX σ 1 r → σ 40 1 = nI m → (∀ i, i < p0 → σ 41 i = nI (f i)) → (∀ i, p0 ≤ i → i < m → σ 41 (i + 1) = nI (f i)) → (∀ i, p0 ≤ i → i < m → votR r b < votR r (f i)) →
    ∃ (σ' : Sg) (p : Nat), p ≤ m ∧ fX4_insert_l15 1 (nI b) n σ (nI p0) = some σ' ∧ σ' 40 1 = nI (m + 1) ∧ (∀ i, i < p → σ' 41 i = nI (f i)) ∧ σ' 41 p = nI b ∧ (∀ i, p ≤ i → i < m → σ' 41 (i + 1) = nI (f i)) ∧ (∀ i, p ≤ i → i < m → votR r b < votR r (f i)) ∧ (p = 0 ∨ votR r (f (p - 1)) ≤ votR r b) ∧ ∀ c, c ≠ 40 → c ≠ 41 → σ' c = σ c := by
  have hbn := v.2.1
  intro p0
  have fin : ∀ (q : Nat) (σ : Sg), q ≤ m → σ 40 1 = nI m → (∀ i, i < q → σ 41 i = nI (f i)) → (∀ i, q ≤ i → i < m → σ 41 (i + 1) = nI (f i)) → ∃ σ' : Sg, fX4_insert_b59 1 (nI b) σ (nI q) = some σ' ∧ σ' 40 1 = nI (m + 1) ∧ (∀ i, i < q → σ' 41 i = nI (f i)) ∧ σ' 41 q = nI b ∧ (∀ i, q ≤ i → i < m → σ' 41 (i + 1) = nI (f i)) ∧ ∀ c, c ≠ 40 → c ≠ 41 → σ' c = σ c := by
    intro q σ hq h0 h1 h2
    refine ⟨up2 (up2 σ 41 q (nI b)) 40 1 (nI (m + 1)), ?_, ?_, fun i hi => ?_, ?_, fun i h3 h4 => ?_, fun c c1 c2 => ?_⟩
    · unfold fX4_insert_b59 pf
      rw [wrN (by omega) (by omega), bnd, bnd, up2_at, if_neg (by omega), h0, nI_1]
    · rw [up2_at, if_pos ⟨rfl, rfl⟩]
    · rw [up2_at, if_neg (by omega), up2_at, if_neg (by omega)]; exact h1 i hi
    · rw [up2_at, if_neg (by omega), up2_at, if_pos ⟨rfl, rfl⟩]
    · rw [up2_at, if_neg (by omega), up2_at, if_neg (by omega)]; exact h2 i h3 h4
    · rw [up2_row c1, up2_row c2]
  induction p0 with
  | zero =>
    intro n σ h1 h2 hx h0 ha hc hv
    obtain ⟨n, rfl⟩ := Nat.exists_eq_succ_of_ne_zero (show n ≠ 0 by omega)
    obtain ⟨σ', e1, e2, e3, e4, e5, e6⟩ := fin 0 σ (by omega) h0 ha hc
    exact ⟨σ', 0, by omega, by rw [fX4_insert_l15, if_pos (by decide)]; exact e1, e2, e3, e4, e5, hv, Or.inl rfl, e6⟩
  | succ p0 ih =>
    intro n σ h1 h2 hx h0 ha hc hv
    obtain ⟨n, rfl⟩ := Nat.exists_eq_succ_of_ne_zero (show n ≠ 0 by omega)
    have hfp := hf p0 (by omega)
    have v1 := votR_le v hfp
    have v2 := votR_le v hb
    by_cases hle : votR r (f p0) ≤ votR r b
    · obtain ⟨σ', e1, e2, e3, e4, e5, e6⟩ := fin (p0 + 1) σ (by omega) h0 ha hc
      refine ⟨σ', p0 + 1, h2, ?_, e2, e3, e4, e5, hv, Or.inr hle, e6⟩
      rw [fX4_insert_l15, if_neg (nI_nle (by omega) (by omega)), nI_pred, rdN (by omega) (by omega), bnd, ha p0 (by omega), eX_vot hx v hfp, bnd, eX_vot hx v hb, bnd, if_pos (nI_le hle (by omega))]
      exact e1
    · obtain ⟨σ', p, q1, q2, q3, q4, q5, q6, q7, q8, q9⟩ := ih n (up2 σ 41 (p0 + 1) (nI (f p0))) (by omega) (by omega) (hx.cg (fun c c1 c2 => up2_row (by omega))) (by rw [up2_at, if_neg (by omega)]; exact h0) (fun i hi => by rw [up2_at, if_neg (by omega)]; exact ha i (by omega)) (fun i i1 i2 => by
        rw [up2_at]
        rcases Nat.lt_or_ge p0 i with q | q
        · rw [if_neg (by omega)]; exact hc i (by omega) i2
        · obtain rfl : i = p0 := by omega
          rw [if_pos ⟨rfl, rfl⟩]) (fun i i1 i2 => by
        rcases Nat.lt_or_ge p0 i with q | q
        · exact hv i (by omega) i2
        · obtain rfl : i = p0 := by omega
          omega)
      refine ⟨σ', p, q1, ?_, q3, q4, q5, q6, q7, q8, fun c c1 c2 => by rw [q9 c c1 c2, up2_row c2]⟩
      rw [fX4_insert_l15, if_neg (nI_nle (by omega) (by omega)), nI_pred, rdN (by omega) (by omega), bnd, ha p0 (by omega), eX_vot hx v hfp, bnd, eX_vot hx v hb, bnd, if_neg (nI_ge (by omega) (by omega)), bnd, wrN (by omega) (by omega), bnd, pk_m1]
      exact q2
def insF (f : Nat → Nat) (p b i : Nat) : Nat := if i < p then f i else if i = p then b else f (i - 1)
theorem Rk.ins {r : Rm} {m b p : Nat} {f : Nat → Nat} (hb : b < 8) (h : Rk r m f (fun c => c < b ∧ 0 < se r c)) (hs : 0 < se r b) (hp : p ≤ m) (h1 : ∀ i, p ≤ i → i < m → votR r b < votR r (f i)) (h2 : p = 0 ∨ votR r (f (p - 1)) ≤ votR r b) : Rk r (m + 1) (insF f p b) (fun c => c < b + 1 ∧ 0 < se r c) := by
  have ea : ∀ i, i < p → insF f p b i = f i := fun i hi => by unfold insF; rw [if_pos hi]
  have eb : insF f p b p = b := by unfold insF; rw [if_neg (by omega), if_pos rfl]
  have ec : ∀ i, p < i → insF f p b i = f (i - 1) := fun i hi => by unfold insF; rw [if_neg (by omega), if_neg (by omega)]
  have K1 : ∀ i, i < p → Kv r (f i) < Kv r b := by
    intro i hi
    have a1 := h.le (show i ≤ p - 1 by omega) (by omega)
    have a2 := (h.1 (p - 1) (by omega)).1
    have a3 : votR r (f (p - 1)) ≤ votR r b := by rcases h2 with q | q; omega; exact q
    have a4 : Kv r (f (p - 1)) < Kv r b := by unfold Kv; omega
    omega
  have K2 : ∀ i, p ≤ i → i < m → Kv r b < Kv r (f i) := by
    intro i hi hm
    have := h1 i hi hm
    unfold Kv; omega
  refine ⟨fun i hi => ?_, fun i j hij hj => ?_, fun c hc => ?_⟩
  · rcases Nat.lt_trichotomy i p with q | q | q
    · rw [ea i q]; have := h.1 i (by omega); exact ⟨by omega, this.2⟩
    · rw [q, eb]; exact ⟨by omega, hs⟩
    · rw [ec i q]; have := h.1 (i - 1) (by omega); exact ⟨by omega, this.2⟩
  · rcases Nat.lt_trichotomy i p with q | q | q
    · rw [ea i q]
      rcases Nat.lt_trichotomy j p with w | w | w
      · rw [ea j w]; exact h.2.1 i j hij (by omega)
      · rw [w, eb]; exact K1 i q
      · rw [ec j w]; exact h.2.1 i (j - 1) (by omega) (by omega)
    · rw [q, eb, ec j (by omega)]; exact K2 (j - 1) (by omega) (by omega)
    · rw [ec i q, ec j (by omega)]; exact h.2.1 (i - 1) (j - 1) (by omega) (by omega)
  · rcases Nat.lt_or_ge c b with q | q
    · obtain ⟨i, i1, i2⟩ := h.2.2 c ⟨q, hc.2⟩
      rcases Nat.lt_or_ge i p with w | w
      · exact ⟨i, by omega, by rw [ea i w]; exact i2⟩
      · exact ⟨i + 1, by omega, by rw [ec (i + 1) (by omega)]; exact i2⟩
    · exact ⟨p, by omega, by rw [eb]; omega⟩
theorem rank_l {r : Rm} (v : RV r) : ∀ (k n b m : Nat) (σ : Sg) (f : Nat → Nat), b + k = nb r → k < n → m ≤ b → RX σ 1 r → σ 40 1 = nI m → (∀ i, i < m → σ 41 i = nI (f i)) → Rk r m f (fun c => c < b ∧ 0 < se r c) →
    ∃ (σ' : Sg) (m' : Nat) (f' : Nat → Nat), m' ≤ nb r ∧ fX4_rank_l7 1 n σ (nI b) = some σ' ∧ σ' 40 1 = nI m' ∧ (∀ i, i < m' → σ' 41 i = nI (f' i)) ∧ Rk r m' f' (fun c => c < nb r ∧ 0 < se r c) ∧ ∀ c, c ≠ 40 → c ≠ 41 → σ' c = σ c := by
  have hbn := v.2.1
  intro k
  induction k with
  | zero =>
    intro n b m σ f h1 h2 h3 hx h0 h4 h5
    obtain ⟨n, rfl⟩ := Nat.exists_eq_succ_of_ne_zero (show n ≠ 0 by omega)
    obtain rfl : b = nb r := by omega
    exact ⟨σ, m, f, h3, by rw [fX4_rank_l7, hx.2.1, if_pos (nI_le (by omega) (by omega))], h0, h4, h5, fun _ _ _ => rfl⟩
  | succ k ih =>
    intro n b m σ f h1 h2 h3 hx h0 h4 h5
    obtain ⟨n, rfl⟩ := Nat.exists_eq_succ_of_ne_zero (show n ≠ 0 by omega)
    have hse := (hx.2.2.2.2 b (by omega)).2.2.1
    have hsv := (v.2.2.2.2 b (by omega)).2.2.2.1
    by_cases hz : se r b = 0
    · obtain ⟨σ', m', f', q1, q2, q3⟩ := ih n (b + 1) m σ f (by omega) (by omega) (by omega) hx h0 h4 ⟨fun i hi => ⟨by have := (h5.1 i hi).1; omega, (h5.1 i hi).2⟩, h5.2.1, fun c hc => h5.2.2 c ⟨by
        rcases Nat.lt_or_ge c b with q | q
        · exact q
        · obtain rfl : c = b := by omega
          omega, hc.2⟩⟩
      refine ⟨σ', m', f', q1, ?_, q3⟩
      rw [fX4_rank_l7, hx.2.1, if_neg (nI_ge (by omega) (by omega)), rdN (by omega) (by omega), bnd, hse, hz, if_pos (by decide), nI_1]
      exact q2
    · obtain ⟨σ1, p, e1, e2, e3, e4, e5, e6, e7, e8, e9⟩ := ins_l v (show b < nb r by omega) m (by omega) f (fun i hi => by have := (h5.1 i hi).1; omega) m 2000 σ (by omega) (by omega) hx h0 h4 (fun i i1 i2 => by omega) (fun i i1 i2 => by omega)
      have hR := h5.ins (by omega) (by omega) e1 e7 e8
      obtain ⟨σ', m', f', q1, q2, q3, q4, q5, q6⟩ := ih n (b + 1) (m + 1) σ1 (insF f p b) (by omega) (by omega) (by omega) (hx.cg (fun c c1 c2 => e9 c (by omega) (by omega))) e3 (fun i hi => by
        unfold insF
        rcases Nat.lt_trichotomy i p with q | q | q
        · rw [if_pos q]; exact e4 i q
        · rw [if_neg (by omega), if_pos q, q]; exact e5
        · rw [if_neg (by omega), if_neg (by omega)]
          have := e6 (i - 1) (by omega) (by omega)
          rw [show i - 1 + 1 = i by omega] at this
          exact this) hR
      refine ⟨σ', m', f', q1, ?_, q3, q4, q5, fun c c1 c2 => by rw [q6 c c1 c2, e9 c c1 c2]⟩
      rw [fX4_rank_l7, hx.2.1, if_neg (nI_ge (by omega) (by omega)), rdN (by omega) (by omega), bnd, hse, if_neg (nI_nle (by omega) (by omega))]
      unfold fX4_insert
      rw [h0, if_pos (show nI m < (6 : Int32) from nI_lt (b := 6) (by omega) (by omega)), e2, bnd, nI_1]
      exact q2
theorem eX_rank {x : Sg} {r : Rm} (v : RV r) (hx : RX x 1 r) : ∃ (x' : Sg) (m : Nat) (f : Nat → Nat), m ≤ nb r ∧ fX4_rank x 1 = some x' ∧ x' 40 1 = nI m ∧ (∀ i, i < m → x' 41 i = nI (f i)) ∧ Rk r m f (fun c => c < nb r ∧ 0 < se r c) ∧ ∀ c, c ≠ 40 → c ≠ 41 → x' c = x c := by
  have hbn := v.2.1
  obtain ⟨σ', m', f', q1, q2, q3, q4, q5, q6⟩ := rank_l v (nb r) 2000 0 0 (up2 x 40 1 0) (fun _ => 0) (by omega) (by omega) (by omega) (hx.cg (fun c c1 c2 => up2_row (by omega))) (by rw [up2_at, if_pos ⟨rfl, rfl⟩]; rfl) (fun i hi => by omega) ⟨fun i hi => by omega, fun i j h1 h2 => by omega, fun c hc => by omega⟩
  exact ⟨σ', m', f', q1, by unfold fX4_rank pf; rw [bnd]; rw [nI_0] at q2; exact q2, q3, q4, q5, fun c c1 c2 => by rw [q6 c c1 c2, up2_row c1]⟩
-- the reference's row
theorem sm_pt {f g : Nat → Nat} {b : Nat} : ∀ {n}, b < n → (∀ i, i < n → i ≠ b → g i = f i) → g b = f b + 1 → sm n g = sm n f + 1
  | 0, h, _, _ => by omega
  | n + 1, h, h1, h2 => by
    rw [sm, sm]
    rcases Nat.lt_or_ge b n with q | q
    · rw [sm_pt q (fun i hi hn => h1 i (by omega) hn) h2, h1 n (by omega) (by omega)]; omega
    · obtain rfl : b = n := by omega
      rw [sm_congr (fun i hi => h1 i (by omega) (by omega)), h2]; omega
def ind (r : Rm) (t : Nat) : Nat → Nat := fun c => if 0 < se r c ∧ Kv r c < t then 1 else 0
theorem ind_le (r : Rm) (t : Nat) : sm (nb r) (ind r t) ≤ nb r := by
  have := sm_le (f := ind r t) (c := 1) (n := nb r) (fun i _ => by unfold ind; split <;> omega)
  omega
def Pt (r : Rm) (t : Nat) : Nat → Prop := fun c => c < nb r ∧ 0 < se r c ∧ Kv r c < t
theorem ind_s {r : Rm} (v : RV r) {w b : Nat} (hb : b < nb r) (hs : 0 < se r b) (hw : votR r b = w) : sm (nb r) (ind r (8 * w + (b + 1))) = sm (nb r) (ind r (8 * w + b)) + 1 := by
  have hbn := v.2.1
  have e : Kv r b = 8 * w + b := by unfold Kv; omega
  refine sm_pt hb (fun i hi hn => ?_) ?_
  · unfold ind
    have : Kv r i ≠ 8 * w + b := by unfold Kv; omega
    by_cases q : 0 < se r i ∧ Kv r i < 8 * w + b
    · rw [if_pos q, if_pos ⟨q.1, by omega⟩]
    · rw [if_neg q, if_neg (fun p => q ⟨p.1, by omega⟩)]
  · unfold ind
    rw [if_pos ⟨hs, by omega⟩, if_neg (by omega)]
theorem lays_in {r : Rm} (v : RV r) (w : Nat) (hw : w < 20) (k7 : Sg → Int32 → Option Sg) : ∀ (k n b m : Nat) (σ : Sg) (f : Nat → Nat), b + k = nb r → k < n → MM σ r → m = sm (nb r) (ind r (8 * w + b)) → σ 0 20 = nI m → (∀ i, i < m → σ 6 i = nI (f i)) → Rk r m f (Pt r (8 * w + b)) →
    ∃ (σ' : Sg) (m' : Nat) (f' : Nat → Nat), m' = sm (nb r) (ind r (8 * (w + 1))) ∧ fX8_laysRow_l15 k7 n σ (nI w) (nI b) = k7 σ' (nI (w + 1)) ∧ MM σ' r ∧ σ' 0 20 = nI m' ∧ (∀ i, i < m' → σ' 6 i = nI (f' i)) ∧ Rk r m' f' (Pt r (8 * (w + 1))) ∧ (∀ c, c ≠ 0 → c ≠ 6 → σ' c = σ c) ∧ ∀ j, j ≠ 20 → σ' 0 j = σ 0 j := by
  have hbn := v.2.1
  intro k
  induction k with
  | zero =>
    intro n b m σ f h1 h2 hy hm h0 h4 h5
    obtain ⟨n, rfl⟩ := Nat.exists_eq_succ_of_ne_zero (show n ≠ 0 by omega)
    obtain rfl : b = nb r := by omega
    have hK : ∀ c, c < nb r → (Kv r c < 8 * w + nb r ↔ Kv r c < 8 * (w + 1)) := fun c hc => by unfold Kv; omega
    refine ⟨σ, m, f, ?_, by rw [fX8_laysRow_l15, hy.2.1, if_pos (nI_le (by omega) (by omega)), nI_1], hy, h0, h4, ⟨fun i hi => ⟨(h5.1 i hi).1, (h5.1 i hi).2.1, (hK _ (h5.1 i hi).1).mp (h5.1 i hi).2.2⟩, h5.2.1, fun c hc => h5.2.2 c ⟨hc.1, hc.2.1, (hK c hc.1).mpr hc.2.2⟩⟩, fun _ _ _ => rfl, fun _ _ => rfl⟩
    rw [hm]
    apply sm_congr
    intro i hi
    unfold ind
    have := hK i hi
    by_cases q : 0 < se r i ∧ Kv r i < 8 * w + nb r
    · rw [if_pos q, if_pos ⟨q.1, this.mp q.2⟩]
    · rw [if_neg q, if_neg (fun p => q ⟨p.1, this.mpr p.2⟩)]
  | succ k ih =>
    intro n b m σ f h1 h2 hy hm h0 h4 h5
    obtain ⟨n, rfl⟩ := Nat.exists_eq_succ_of_ne_zero (show n ≠ 0 by omega)
    have hse := mm_se hy (show b < nb r by omega)
    have hsv := (v.2.2.2.2 b (by omega)).2.2.2.1
    have hvv := votR_le v (show b < nb r by omega)
    have skip : ¬ (votR r b = w ∧ 0 < se r b) → m = sm (nb r) (ind r (8 * w + (b + 1))) ∧ Rk r m f (Pt r (8 * w + (b + 1))) := by
      intro hq
      have hK : ∀ c, c < nb r → 0 < se r c → (Kv r c < 8 * w + b ↔ Kv r c < 8 * w + (b + 1)) := by
        intro c hc hs
        have : Kv r c ≠ 8 * w + b := by
          intro q
          unfold Kv at q
          have e1 : c = b := by omega
          subst e1
          exact hq ⟨by omega, hs⟩
        omega
      constructor
      · rw [hm]
        apply sm_congr
        intro i hi
        unfold ind
        by_cases q : 0 < se r i
        · have := hK i hi q
          by_cases q2 : Kv r i < 8 * w + b
          · rw [if_pos ⟨q, q2⟩, if_pos ⟨q, this.mp q2⟩]
          · rw [if_neg (fun p => q2 p.2), if_neg (fun p => q2 (this.mpr p.2))]
        · rw [if_neg (fun p => q p.1), if_neg (fun p => q p.1)]
      · exact ⟨fun i hi => ⟨(h5.1 i hi).1, (h5.1 i hi).2.1, (hK _ (h5.1 i hi).1 (h5.1 i hi).2.1).mp (h5.1 i hi).2.2⟩, h5.2.1, fun c hc => h5.2.2 c ⟨hc.1, hc.2.1, (hK c hc.1 hc.2.1).mpr hc.2.2⟩⟩
    rw [fX8_laysRow_l15, hy.2.1, if_neg (nI_ge (by omega) (by omega)), eM_vot hy v (by omega), bnd]
    by_cases hv : votR r b = w
    · rw [if_pos (by rw [hv]), show (16 : Int32) = nI 16 from rfl, nI_add, rdN (by omega) (by omega), bnd, hse]
      by_cases hz : se r b = 0
      · rw [hz, if_pos (by decide), nI_1]
        obtain ⟨s1, s2⟩ := skip (by omega)
        exact ih n (b + 1) m σ f (by omega) (by omega) hy s1 h0 h4 s2
      · have hi := ind_s v (show b < nb r by omega) (by omega) hv
        have hle := ind_le r (8 * w + (b + 1))
        have eK : Kv r b = 8 * w + b := by unfold Kv; omega
        have up0 : MM (up2 (up2 σ 6 m (nI b)) 0 20 (nI (m + 1))) r := ⟨by rw [up2_at, if_neg (by omega), up2_at, if_neg (by omega)]; exact hy.1, by rw [up2_at, if_neg (by omega), up2_at, if_neg (by omega)]; exact hy.2.1, RM.cg v hy.2.2 (fun j _ _ => by rw [up2_row (by omega), up2_row (by omega)])⟩
        obtain ⟨σ', m', f', q1, q2, q3, q4, q5, q6, q7, q8⟩ := ih n (b + 1) (m + 1) (up2 (up2 σ 6 m (nI b)) 0 20 (nI (m + 1))) (fun i => if i = m then b else f i) (by omega) (by omega) up0 (by rw [hi, hm]) (by rw [up2_at, if_pos ⟨rfl, rfl⟩]) (fun i hi => by
          rw [up2_at, if_neg (by omega), up2_at]
          by_cases q : i = m
          · subst q; rw [if_pos ⟨rfl, rfl⟩, if_pos rfl]
          · rw [if_neg (by omega), if_neg q]; exact h4 i (by omega)) ⟨fun i hi => by
            dsimp only
            by_cases q : i = m
            · rw [if_pos q]; exact ⟨by omega, by omega, by omega⟩
            · rw [if_neg q]; have := h5.1 i (by omega); exact ⟨this.1, this.2.1, by have := this.2.2; omega⟩, fun i j hij hj => by
            dsimp only
            rw [if_neg (show i ≠ m by omega)]
            by_cases q : j = m
            · rw [if_pos q, eK]; exact (h5.1 i (by omega)).2.2
            · rw [if_neg q]; exact h5.2.1 i j hij (by omega), fun c hc => by
            dsimp only
            by_cases q : c = b
            · exact ⟨m, by omega, by rw [if_pos rfl, q]⟩
            · obtain ⟨i, i1, i2⟩ := h5.2.2 c ⟨hc.1, hc.2.1, by
                have h8 := hc.2.2
                have h9 := hc.1
                have h10 : Kv r c ≠ 8 * w + b := by unfold Kv; omega
                omega⟩
              exact ⟨i, by omega, by rw [if_neg (by omega)]; exact i2⟩⟩
        refine ⟨σ', m', f', q1, ?_, q3, q4, q5, q6, fun c c1 c2 => by rw [q7 c c1 c2, up2_row c1, up2_row c2], fun j hj => by rw [q8 j hj, up2_at, if_neg (by omega), up2_at, if_neg (by omega)]⟩
        unfold pf
        rw [if_neg (nI_nle (by omega) (by omega)), h0, wrN (by omega) (by omega), bnd, bnd, up2_at, if_neg (by omega), h0, nI_1, nI_1]
        exact q2
    · rw [if_neg (fun q => hv ((nI_eq (by omega) (by omega)).mp q)), nI_1]
      obtain ⟨s1, s2⟩ := skip (fun q => hv q.1)
      exact ih n (b + 1) m σ f (by omega) (by omega) hy s1 h0 h4 s2
theorem lays_l {r : Rm} (v : RV r) : ∀ (k n w m : Nat) (σ : Sg) (f : Nat → Nat), w + k = 20 → k < n → MM σ r → m = sm (nb r) (ind r (8 * w)) → σ 0 20 = nI m → (∀ i, i < m → σ 6 i = nI (f i)) → Rk r m f (Pt r (8 * w)) →
    ∃ (σ' : Sg) (m' : Nat) (f' : Nat → Nat), fX8_laysRow_l7 n σ (nI w) = some σ' ∧ σ' 0 20 = nI m' ∧ (∀ i, i < m' → σ' 6 i = nI (f' i)) ∧ Rk r m' f' (Pt r (8 * 20)) ∧ (∀ c, c ≠ 0 → c ≠ 6 → σ' c = σ c) ∧ ∀ j, j ≠ 20 → σ' 0 j = σ 0 j := by
  have hbn := v.2.1
  intro k
  induction k with
  | zero =>
    intro n w m σ f h1 h2 hy hm h0 h4 h5
    obtain ⟨n, rfl⟩ := Nat.exists_eq_succ_of_ne_zero (show n ≠ 0 by omega)
    obtain rfl : w = 20 := by omega
    exact ⟨σ, m, f, by rw [fX8_laysRow_l7, if_pos (by decide)], h0, h4, h5, fun _ _ _ => rfl, fun _ _ => rfl⟩
  | succ k ih =>
    intro n w m σ f h1 h2 hy hm h0 h4 h5
    obtain ⟨n, rfl⟩ := Nat.exists_eq_succ_of_ne_zero (show n ≠ 0 by omega)
    obtain ⟨σ1, m1, f1, q1, q2, q3, q4, q5, q6, q7, q8⟩ := lays_in v w (by omega) (fun σ v1 => fX8_laysRow_l7 n σ v1) (nb r) 2000 0 m σ f (by omega) (by omega) hy hm h0 h4 h5
    obtain ⟨σ', m', f', p1, p2, p3, p4, p5, p6⟩ := ih n (w + 1) m1 σ1 f1 (by omega) (by omega) q3 q1 q4 q5 q6
    refine ⟨σ', m', f', ?_, p2, p3, p4, fun c c1 c2 => by rw [p5 c c1 c2, q7 c c1 c2], fun j hj => by rw [p6 j hj, q8 j hj]⟩
    rw [fX8_laysRow_l7, if_neg (show ¬ (20 : Int32) ≤ nI w from nI_ge (b := 20) (by omega) (by omega))]
    rw [nI_0] at q2
    rw [q2]
    exact p1
theorem eM_lays {y : Sg} {r : Rm} (v : RV r) (hy : MM y r) : ∃ (y' : Sg) (m : Nat) (f : Nat → Nat), fX8_laysRow y = some y' ∧ y' 0 20 = nI m ∧ (∀ i, i < m → y' 6 i = nI (f i)) ∧ Rk r m f (fun c => c < nb r ∧ 0 < se r c) ∧ (∀ c, c ≠ 0 → c ≠ 6 → y' c = y c) ∧ ∀ j, j ≠ 20 → y' 0 j = y 0 j := by
  have hbn := v.2.1
  have z0 : sm (nb r) (ind r (8 * 0)) = 0 := by
    have : ∀ n, sm n (ind r (8 * 0)) = 0 := by
      intro n
      induction n with
      | zero => rfl
      | succ n ih => rw [sm, ih]; unfold ind; rw [if_neg (by omega)]
    exact this _
  obtain ⟨σ', m', f', p1, p2, p3, p4, p5, p6⟩ := lays_l v 20 2000 0 0 (up2 y 0 20 0) (fun _ => 0) (by omega) (by omega) ⟨by rw [up2_at, if_neg (by omega)]; exact hy.1, by rw [up2_at, if_neg (by omega)]; exact hy.2.1, RM.cg v hy.2.2 (fun j _ _ => by rw [up2_row (by omega)])⟩ z0.symm (by rw [up2_at, if_pos ⟨rfl, rfl⟩]; rfl) (fun i hi => by omega) ⟨fun i hi => by omega, fun i j h1 h2 => by omega, fun c hc => by have := hc.2.2; omega⟩
  refine ⟨σ', m', f', by unfold fX8_laysRow pf; rw [bnd]; rw [nI_0] at p1; exact p1, p2, p3, ⟨fun i hi => ⟨(p4.1 i hi).1, (p4.1 i hi).2.1⟩, p4.2.1, fun c hc => p4.2.2 c ⟨hc.1, hc.2, ?_⟩⟩, fun c c1 c2 => by rw [p5 c c1 c2, up2_row c1], fun j hj => by rw [p6 j hj, up2_at, if_neg (by omega)]⟩
  have := votR_le v hc.1
  have := hc.1
  unfold Kv; omega
/-- both rows, alike -/
theorem rows {x y : Sg} {r : Rm} (v : RV r) (hx : RX x 1 r) (hy : MM y r) : ∃ (x' y' : Sg) (m : Nat) (f : Nat → Nat), m ≤ nb r ∧ fX4_rank x 1 = some x' ∧ fX8_laysRow y = some y' ∧ x' 40 1 = nI m ∧ y' 0 20 = nI m ∧ (∀ i, i < m → x' 41 i = nI (f i) ∧ y' 6 i = nI (f i) ∧ f i < nb r) ∧ RX x' 1 r ∧ MM y' r ∧ AX x x' ∧ AM y y' ∧ (∀ c, c ≠ 40 → c ≠ 41 → x' c = x c) ∧ (∀ c, c ≠ 0 → c ≠ 6 → y' c = y c) := by
  have hbn := v.2.1
  obtain ⟨x', m, f, a1, a2, a3, a4, a5, a6⟩ := eX_rank v hx
  obtain ⟨y', m', f', b1, b2, b3, b4, b5, b6⟩ := eM_lays v hy
  obtain ⟨e, ef⟩ := a5.uniq (fun c hc => by have := hc.1; omega) b4
  subst e
  refine ⟨x', y', m, f, a1, a2, b1, a3, b2, fun i hi => ⟨a4 i hi, by rw [ef i hi]; exact b3 i hi, (a5.1 i hi).1⟩, hx.cg (fun c c1 c2 => a6 c (by omega) (by omega)), ⟨by rw [b6 1 (by omega)]; exact hy.1, by rw [b6 2 (by omega)]; exact hy.2.1, RM.cg v hy.2.2 (fun j _ _ => by rw [b5 1 (by omega) (by omega)])⟩, ⟨by rw [a6 0 (by omega) (by omega)], by rw [a6 31 (by omega) (by omega)], fun c hc => a6 c (by omega) (by omega)⟩, ⟨fun j hj => b6 j (by omega), fun j _ _ => by rw [b5 1 (by omega) (by omega)], fun c hc => b5 c (by omega) (by omega)⟩, a6, b5⟩
