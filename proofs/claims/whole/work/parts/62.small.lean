def orF (f : Nat → Nat) : Nat → Nat
  | 0 => 0
  | n + 1 => orF f n ||| 2 ^ f n
theorem orF_bit (f : Nat → Nat) (b : Nat) : ∀ n, ((orF f n).testBit b = true ↔ ∃ i, i < n ∧ f i = b)
  | 0 => by
    rw [orF, Nat.zero_testBit]
    constructor
    · intro h; cases h
    · rintro ⟨i, hi, _⟩; omega
  | n + 1 => by
    rw [orF, Nat.testBit_or, Nat.testBit_two_pow, Bool.or_eq_true, orF_bit f b n]
    constructor
    · rintro (⟨i, hi, e⟩ | h)
      · exact ⟨i, by omega, e⟩
      · exact ⟨n, by omega, by simpa using h⟩
    · rintro ⟨i, hi, e⟩
      rcases Nat.lt_or_ge i n with q | q
      · exact Or.inl ⟨i, q, e⟩
      · obtain rfl : i = n := by omega
        exact Or.inr (by simp [e])
theorem orF_lt {f : Nat → Nat} : ∀ n, (∀ i, i < n → f i < 6) → orF f n < 64
  | 0, _ => by rw [orF]; omega
  | n + 1, h => by
    rw [orF]
    exact or64 (orF_lt n (fun i hi => h i (by omega))) (show 2 ^ f n < 2 ^ 6 from Nat.pow_lt_pow_right (by decide) (h n (by omega)))
theorem firstX {x : Sg} {m N : Nat} {f : Nat → Nat} (h0 : x 40 1 = nI m) (hm : m ≤ 6) (hN : N ≤ m) (hf : ∀ i, i < m → x 41 i = nI (f i) ∧ f i < 6) : ∀ k n i, i + k = N → k < n → fX4_first_l4 x (nI N) n (nI (orF f i)) (nI i) = some (nI (orF f N)) := by
  intro k
  induction k with
  | zero =>
    intro n i h1 h2
    obtain ⟨n, rfl⟩ := Nat.exists_eq_succ_of_ne_zero (show n ≠ 0 by omega)
    obtain rfl : i = N := by omega
    rw [fX4_first_l4, if_pos (nI_le (by omega) (by omega))]
  | succ k ih =>
    intro n i h1 h2
    obtain ⟨n, rfl⟩ := Nat.exists_eq_succ_of_ne_zero (show n ≠ 0 by omega)
    have hf6 := (hf i (by omega)).2
    rw [fX4_first_l4, if_neg (nI_ge (by omega) (by omega)), h0, if_neg (nI_ge (by omega) (by omega)), rdN (by omega) (by omega), bnd, (hf i (by omega)).1, shlN (by omega), nI_or, nI_1]
    exact ih n (i + 1) (by omega) (by omega)
theorem firstM {y : Sg} {m N : Nat} {f : Nat → Nat} (hm : m ≤ 6) (hN : N ≤ m) (hf : ∀ i, i < m → y 6 i = nI (f i) ∧ f i < 6) : ∀ k n i, i + k = N → k < n → fX8_firstOf_l4 y (nI N) n (nI (orF f i)) (nI i) = some (nI (orF f N)) := by
  intro k
  induction k with
  | zero =>
    intro n i h1 h2
    obtain ⟨n, rfl⟩ := Nat.exists_eq_succ_of_ne_zero (show n ≠ 0 by omega)
    obtain rfl : i = N := by omega
    rw [fX8_firstOf_l4, if_pos (nI_le (by omega) (by omega))]
  | succ k ih =>
    intro n i h1 h2
    obtain ⟨n, rfl⟩ := Nat.exists_eq_succ_of_ne_zero (show n ≠ 0 by omega)
    have hf6 := (hf i (by omega)).2
    rw [fX8_firstOf_l4, if_neg (nI_ge (by omega) (by omega)), rdN (by omega) (by omega), bnd, (hf i (by omega)).1, shlN (by omega), nI_or, nI_1]
    exact ih n (i + 1) (by omega) (by omega)
theorem eX_first {x : Sg} {m N : Nat} {f : Nat → Nat} (h0 : x 40 1 = nI m) (hm : m ≤ 6) (hN : N ≤ m) (hf : ∀ i, i < m → x 41 i = nI (f i) ∧ f i < 6) : fX4_first x (nI N) = some (nI (orF f N)) := by
  have := firstX h0 hm hN hf N 2000 0 (by omega) (by omega)
  rw [orF, nI_0] at this
  exact this
theorem eM_first {y : Sg} {m N : Nat} {f : Nat → Nat} (hm : m ≤ 6) (hN : N ≤ m) (hf : ∀ i, i < m → y 6 i = nI (f i) ∧ f i < 6) : fX8_firstOf y (nI N) = some (nI (orF f N)) := by
  have := firstM hm hN hf N 2000 0 (by omega) (by omega)
  rw [orF, nI_0] at this
  exact this
theorem S_small (x y : Sg) (v1 : Int32) (h : Inv x y) : StI Inv (oX7_small x v1) (oX8_small y v1) := by
  obtain ⟨r, ⟨v, hx, hy⟩, hrest⟩ := id h
  have hbn := v.2.1
  unfold oX7_small oX8_small fX7_small fX8_small
  by_cases ho : out v1 0 5
  · exact stSame h (r := -1) (by rw [(wiI v1 0 5 0 5 (by decide) (by decide)).1 ho, bnd, i0]) (by rw [(inI v1 0 5 0 5 (by decide) (by decide)).1 ho, bnd, i0])
  · rw [(wiI v1 0 5 0 5 (by decide) (by decide)).2 ho, bnd, i1, (inI v1 0 5 0 5 (by decide) (by decide)).2 ho, bnd, i1]
    obtain ⟨N, hN, rfl⟩ := of_in ho (by decide)
    have hN1 : N ≤ 5 := by unfold out at ho; omega
    obtain ⟨x', y', m, f, c1, c2, c3, c4, c5, c6, c7, c8, c9, c10, -, -⟩ := rows v hx hy
    have hI : Inv x' y' := Inv.tr (r := r) (r' := r) hrest rfl rfl c9 c10 ⟨v, c7, c8⟩
    rw [c2, bnd, c3, bnd, c4, c5]
    by_cases hm : m ≤ N
    · exact stOf (x' := x') (y' := y') (r := -4) (by rw [if_pos (nI_le hm (by omega))]) (by rw [if_pos (nI_le hm (by omega))]) hI
    · have hc := c6 N (by omega)
      exact stOf (x' := x') (y' := y') (r := nI (f N)) (by rw [if_neg (nI_ge (by omega) (by omega)), rdN (by omega) (by omega), bnd, hc.1]) (by rw [if_neg (nI_ge (by omega) (by omega)), rdN (by omega) (by omega), bnd, hc.2.1]) hI
theorem S_line (x y : Sg) (v1 : Int32) (h : Inv x y) : StI Inv (oX7_line x v1) (oX8_line y v1) := by
  obtain ⟨r, ⟨v, hx, hy⟩, hrest⟩ := id h
  have hbn := v.2.1
  unfold oX7_line oX8_line fX7_line fX8_line
  by_cases ho : out v1 1 5
  · exact stSame h (r := -1) (by rw [(wiI v1 1 5 1 5 (by decide) (by decide)).1 ho, bnd, i0]) (by rw [(inI v1 1 5 1 5 (by decide) (by decide)).1 ho, bnd, i0])
  · rw [(wiI v1 1 5 1 5 (by decide) (by decide)).2 ho, bnd, i1, (inI v1 1 5 1 5 (by decide) (by decide)).2 ho, bnd, i1]
    obtain ⟨N, hN, rfl⟩ := of_in ho (by decide)
    have hN1 : 1 ≤ N ∧ N ≤ 5 := by unfold out at ho; omega
    obtain ⟨N, rfl⟩ := Nat.exists_eq_succ_of_ne_zero (show N ≠ 0 by omega)
    obtain ⟨x', y', m, f, c1, c2, c3, c4, c5, c6, c7, c8, c9, c10, -, -⟩ := rows v hx hy
    have hI : Inv x' y' := Inv.tr (r := r) (r' := r) hrest rfl rfl c9 c10 ⟨v, c7, c8⟩
    rw [c2, bnd, c3, bnd, c4, c5]
    by_cases hm : N + 1 < m
    · have hc := c6 N (by omega)
      have hc' := c6 (N + 1) (by omega)
      have h1 := votR_le v hc.2.2
      have h2 := votR_le v hc'.2.2
      have e1 : ∀ A B : Option (Sg × Int32), (if nI (N + 1) < nI m then A else B) = A := fun A B => if_pos (nI_lt hm (by omega))
      rw [show nI N.succ = nI (N + 1) from rfl, e1, e1, nI_pred, rdN (by omega) (by omega), bnd, hc.1, eX_vot c7 v hc.2.2, bnd, rdN (by omega) (by omega), bnd, hc'.1, eX_vot c7 v hc'.2.2, bnd, rdN (by omega) (by omega), bnd, hc.2.1, eM_vot c8 v hc.2.2, bnd, rdN (by omega) (by omega), bnd, hc'.2.1, eM_vot c8 v hc'.2.2, bnd]
      by_cases he : nI (votR r (f N)) = nI (votR r (f (N + 1)))
      · exact stOf (x' := x') (y' := y') (r := 0) (by rw [if_pos he]) (by rw [if_pos he]) hI
      · exact stOf (x' := x') (y' := y') (r := 1) (by rw [if_neg he]) (by rw [if_neg he]) hI
    · have e1 : ∀ A B : Option (Sg × Int32), (if nI (N + 1) < nI m then A else B) = B := fun A B => if_neg (nI_nlt (by omega) (by omega))
      exact stOf (x' := x') (y' := y') (r := -4) (by rw [show nI N.succ = nI (N + 1) from rfl, e1]) (by rw [show nI N.succ = nI (N + 1) from rfl, e1]) hI
theorem S_bribe (x y : Sg) (v1 v2 : Int32) (h : Inv x y) : StI Inv (oX7_bribe x v1 v2) (oX8_bribe y v1 v2) := by
  obtain ⟨r, ⟨v, hx, hy⟩, hrest⟩ := id h
  have hbn := v.2.1
  unfold oX7_bribe oX8_bribe fX7_bribe fX8_bribe
  by_cases ho : out v1 0 6
  · exact stSame h (r := -1) (by rw [(wiI v1 0 6 0 6 (by decide) (by decide)).1 ho, bnd, i0]) (by rw [(inI v1 0 6 0 6 (by decide) (by decide)).1 ho, bnd, i0])
  · rw [(wiI v1 0 6 0 6 (by decide) (by decide)).2 ho, bnd, i1, (inI v1 0 6 0 6 (by decide) (by decide)).2 ho, bnd, i1]
    obtain ⟨N, hN, rfl⟩ := of_in ho (by decide)
    have hN1 : N ≤ 6 := by unfold out at ho; omega
    by_cases ho2 : out v2 0 1
    · exact stSame h (r := -1) (by rw [(wiI v2 0 1 0 1 (by decide) (by decide)).1 ho2, bnd, i0]) (by rw [(inI v2 0 1 0 1 (by decide) (by decide)).1 ho2, bnd, i0])
    · rw [(wiI v2 0 1 0 1 (by decide) (by decide)).2 ho2, bnd, i1, (inI v2 0 1 0 1 (by decide) (by decide)).2 ho2, bnd, i1]
      obtain ⟨x', y', m, f, c1, c2, c3, c4, c5, c6, c7, c8, c9, c10, -, -⟩ := rows v hx hy
      have hI : Inv x' y' := Inv.tr (r := r) (r' := r) hrest rfl rfl c9 c10 ⟨v, c7, c8⟩
      rw [c2, bnd, c3, bnd, c4, c5]
      have hal := allR_lt v
      by_cases hm : N ≤ m
      · have hT := orF_lt (f := f) N (fun i hi => by have := (c6 i (by omega)).2.2; omega)
        have hA := andn_all v (orF f N)
        obtain ⟨z, z1, z2⟩ := cheap_eq c7 c8 v (andn (allR r) (orF f N)) (seatsR r (andn (allR r) (orF f N))) hA (nI (orF f N)) v2 rfl (in01 ho2) (orF f N) rfl hT (fun i q => by
          have q2 := q.1
          rw [andn_bit (by omega), q.2] at q2
          simp at q2)
        have z1' : ((fX2_cheapestMajority x' 1 (nI (orF f N)) (nI (seatsR r (andn (allR r) (orF f N))))).bind fun t7 => (fX7_costOrSet x' t7 v2).bind fun t8 => some (x', t8)) = some (x', z) := by
          cases e : fX2_cheapestMajority x' 1 (nI (orF f N)) (nI (seatsR r (andn (allR r) (orF f N)))) with
          | none => rw [e] at z1; cases z1
          | some t => rw [e, bnd] at z1; rw [bnd, z1, bnd]
        exact stOf (x' := x') (y' := y') (r := z) (by rw [if_pos (nI_le hm (by omega)), eX_first c4 (by omega) hm (fun i hi => ⟨(c6 i hi).1, by have := (c6 i hi).2.2; omega⟩), bnd, eX_every c7 v, bnd, andnN (by omega), eX_seats c7 v (by omega), bnd]; exact z1') (by rw [if_pos (nI_le hm (by omega)), eM_first (m := m) (f := f) (by omega) hm (fun i hi => ⟨(c6 i hi).2.1, by have := (c6 i hi).2.2; omega⟩), bnd, eM_all c8 v, bnd, andnN (by omega), z2, bnd]) hI
      · exact stOf (x' := x') (y' := y') (r := -4) (by rw [if_neg (nI_ge (by omega) (by omega))]) (by rw [if_neg (nI_ge (by omega) (by omega))]) hI
-- take
def zR (r : Rm) (P : Nat → Bool) : Rm := (nl r, nb r, pr r, gu r, kd r, ho r, (fun b => if P b = true then 0 else se r b), ow r)
theorem zR_set {r : Rm} {P Q : Nat → Bool} {b : Nat} (h : ∀ c, Q c = (P c || decide (c = b))) : setSe (zR r P) b 0 = zR r Q := by
  show (nl r, nb r, pr r, gu r, kd r, ho r, (fun j => if j = b then 0 else if P j = true then 0 else se r j), ow r) = (nl r, nb r, pr r, gu r, kd r, ho r, (fun b => if Q b = true then 0 else se r b), ow r)
  congr
  funext j
  rw [h j]
  by_cases q : j = b
  · simp [q]
  · simp [q]
theorem zR_cg {r : Rm} {P Q : Nat → Bool} (h : ∀ c, Q c = P c) : zR r P = zR r Q := by rw [show P = Q from funext fun c => (h c).symm]
theorem zR_no {r : Rm} {P : Nat → Bool} (h : ∀ c, P c = false) : zR r P = r := by
  show (nl r, nb r, pr r, gu r, kd r, ho r, (fun b => if P b = true then 0 else se r b), ow r) = r
  have : (fun b => if P b = true then 0 else se r b) = se r := funext fun b => by rw [h b]; rfl
  rw [this]; rfl
theorem zR_rv {r : Rm} {P : Nat → Bool} (v : RV r) : RV (zR r P) := ⟨v.1, v.2.1, v.2.2.1, v.2.2.2.1, fun b hb => ⟨(v.2.2.2.2 b hb).1, (v.2.2.2.2 b hb).2.1, (v.2.2.2.2 b hb).2.2.1, by show (if P b = true then 0 else se r b) ≤ 3; have := (v.2.2.2.2 b hb).2.2.2.1; split <;> omega, (v.2.2.2.2 b hb).2.2.2.2⟩⟩
theorem takeX {r : Rm} (v : RV r) (T : Nat) (hT : T < 64) (w : Int32) : ∀ (k n b : Nat) (σ : Sg), b + k = nb r → k < n → RX σ 1 (zR r (fun c => decide (c < b) && T.testBit c)) → ∃ σ' : Sg, fX7_take_l48 w n σ (nI T) (nI b) = some (σ', nI T) ∧ RX σ' 1 (zR r (fun c => decide (c < nb r) && T.testBit c)) ∧ ∀ c, c ≠ 5 → σ' c = σ c := by
  have hbn := v.2.1
  intro k
  induction k with
  | zero =>
    intro n b σ h1 h2 hx
    obtain ⟨n, rfl⟩ := Nat.exists_eq_succ_of_ne_zero (show n ≠ 0 by omega)
    obtain rfl : b = nb r := by omega
    have hx1 : σ 1 1 = nI (nb r) := hx.2.1
    exact ⟨σ, by rw [fX7_take_l48, hx1, if_pos (nI_le (by omega) (by omega))], hx, fun _ _ => rfl⟩
  | succ k ih =>
    intro n b σ h1 h2 hx
    obtain ⟨n, rfl⟩ := Nat.exists_eq_succ_of_ne_zero (show n ≠ 0 by omega)
    have hx1 : σ 1 1 = nI (nb r) := hx.2.1
    rw [fX7_take_l48, hx1, if_neg (nI_ge (by omega) (by omega)), holdsN (by omega) (by omega), bnd]
    by_cases hb : T.testBit b = true
    · rw [if_pos hb, i1, wrN (by omega) (by omega), bnd, nI_1]
      have hx2 := RX.setSe (i := b) (x := 0) hx
      rw [zR_set (Q := fun c => decide (c < b + 1) && T.testBit c) (fun c => by
        by_cases q : c = b
        · subst q; simp [hb]
        · by_cases q2 : c < b
          · simp [q2, q, show c < b + 1 by omega]
          · simp [q2, q, show ¬ c < b + 1 by omega])] at hx2
      obtain ⟨σ', e1, e2, e3⟩ := ih n (b + 1) (up2 σ 5 b 0) (by omega) (by omega) hx2
      exact ⟨σ', e1, e2, fun c hc => by rw [e3 c hc, up2_row hc]⟩
    · rw [if_neg hb, i0, nI_1]
      refine ih n (b + 1) σ (by omega) (by omega) ?_
      rw [zR_cg (P := fun c => decide (c < b + 1) && T.testBit c) (Q := fun c => decide (c < b) && T.testBit c) (fun c => by
        by_cases q : c = b
        · subst q; simp at hb; simp [hb]
        · by_cases q2 : c < b
          · simp [q2, show c < b + 1 by omega]
          · simp [q2, show ¬ c < b + 1 by omega])]
      exact hx
theorem takeM {r : Rm} (v : RV r) (f : Nat → Nat) (N : Nat) (hN : N ≤ 6) (hf : ∀ i, i < N → f i < nb r) (w : Int32) : ∀ (k n i : Nat) (σ : Sg), i + k = N → k < n → (∀ i, i < N → σ 6 i = nI (f i)) → MM σ (zR r (fun c => (orF f i).testBit c)) → ∃ σ' : Sg, fX8_take_l37 (nI N) n σ w (nI i) = some (σ', w) ∧ MM σ' (zR r (fun c => (orF f N).testBit c)) ∧ (∀ c, c ≠ 1 → σ' c = σ c) ∧ ∀ j, 29 ≤ j → σ' 1 j = σ 1 j := by
  have hbn := v.2.1
  intro k
  induction k with
  | zero =>
    intro n i σ h1 h2 h6 hy
    obtain ⟨n, rfl⟩ := Nat.exists_eq_succ_of_ne_zero (show n ≠ 0 by omega)
    obtain rfl : i = N := by omega
    exact ⟨σ, by rw [fX8_take_l37, if_pos (nI_le (by omega) (by omega))], hy, fun _ _ => rfl, fun _ _ => rfl⟩
  | succ k ih =>
    intro n i σ h1 h2 h6 hy
    obtain ⟨n, rfl⟩ := Nat.exists_eq_succ_of_ne_zero (show n ≠ 0 by omega)
    have hfi := hf i (by omega)
    have hR : RM (up2 σ 1 (0 + 16 + f i) (nI 0)) 0 (setSe (zR r (fun c => (orF f i).testBit c)) (f i) 0) := RM.setSe (zR_rv v) hy.2.2 (by omega)
    have hM : MM (up2 σ 1 (0 + 16 + f i) (nI 0)) (setSe (zR r (fun c => (orF f i).testBit c)) (f i) 0) := MM.up hy rfl rfl hR
    rw [zR_set (Q := fun c => (orF f (i + 1)).testBit c) (fun c => by
      show (orF f i ||| 2 ^ f i).testBit c = _
      rw [Nat.testBit_or, Nat.testBit_two_pow]
      congr 1
      by_cases q : c = f i
      · simp [q]
      · simp [q, Ne.symm q]), Nat.zero_add] at hM
    obtain ⟨σ', e1, e2, e3, e4⟩ := ih n (i + 1) (up2 σ 1 (16 + f i) (nI 0)) (by omega) (by omega) (fun i hi => by rw [up2_row (by omega)]; exact h6 i hi) hM
    refine ⟨σ', ?_, e2, fun c hc => by rw [e3 c hc, up2_row hc], fun j hj => by rw [e4 j hj, up2_at, if_neg (by omega)]⟩
    rw [fX8_take_l37, if_neg (nI_ge (by omega) (by omega)), rdN (by omega) (by omega), bnd, h6 i (by omega), show (16 : Int32) = nI 16 from rfl, nI_add, wrN (by omega) (by omega), bnd, nI_1]
    exact e1
theorem S_take (x y : Sg) (v1 : Int32) (h : Inv x y) : StI Inv (oX7_take x v1) (oX8_take y v1) := by
  obtain ⟨r, ⟨v, hx, hy⟩, hrest⟩ := id h
  have hbn := v.2.1
  unfold oX7_take oX8_take fX7_take fX8_take
  by_cases ho : out v1 0 6
  · exact stSame h (r := -1) (by rw [(wiI v1 0 6 0 6 (by decide) (by decide)).1 ho, bnd, i0]) (by rw [(inI v1 0 6 0 6 (by decide) (by decide)).1 ho, bnd, i0])
  · rw [(wiI v1 0 6 0 6 (by decide) (by decide)).2 ho, bnd, i1, (inI v1 0 6 0 6 (by decide) (by decide)).2 ho, bnd, i1]
    obtain ⟨N, hN, rfl⟩ := of_in ho (by decide)
    have hN1 : N ≤ 6 := by unfold out at ho; omega
    obtain ⟨x', y', m, f, c1, c2, c3, c4, c5, c6, c7, c8, c9, c10, c11, c12⟩ := rows v hx hy
    have hI : Inv x' y' := Inv.tr (r := r) (r' := r) hrest rfl rfl c9 c10 ⟨v, c7, c8⟩
    rw [c2, bnd, c3, bnd, c4, c5]
    by_cases hm : N ≤ m
    · have hT := orF_lt (f := f) N (fun i hi => by have := (c6 i (by omega)).2.2; omega)
      obtain ⟨x2, d1, d2, d3⟩ := takeX v (orF f N) hT (nI N) (nb r) 2000 0 x' (by omega) (by omega) (by rw [zR_no (fun c => by simp)]; exact c7)
      obtain ⟨y2, e1, e2, e3, e4⟩ := takeM v f N hN1 (fun i hi => (c6 i (by omega)).2.2) (nI (orF f N)) N 2000 0 y' (by omega) (by omega) (fun i hi => (c6 i (by omega)).2.1) (by rw [zR_no (fun c => by rw [orF, Nat.zero_testBit])]; exact c8)
      have hQ : zR r (fun c => decide (c < nb r) && (orF f N).testBit c) = zR r (fun c => (orF f N).testBit c) := zR_cg (fun c => by
        by_cases q : (orF f N).testBit c = true
        · obtain ⟨i, i1, i2⟩ := (orF_bit f c N).mp q
          have := (c6 i (by omega)).2.2
          simp [show c < nb r by omega]
        · simp at q; simp [q])
      rw [hQ] at d2
      rw [nI_0] at d1 e1
      refine stOf (x' := x2) (y' := y2) (r := nI (orF f N)) (by rw [if_pos (nI_le hm (by omega)), eX_first c4 (by omega) hm (fun i hi => ⟨(c6 i hi).1, by have := (c6 i hi).2.2; omega⟩), bnd]; exact d1) (by rw [if_pos (nI_le hm (by omega)), eM_first (m := m) (f := f) (by omega) hm (fun i hi => ⟨(c6 i hi).2.1, by have := (c6 i hi).2.2; omega⟩), bnd]; exact e1) ?_
      exact Inv.tr (r := r) (r' := zR r (fun c => (orF f N).testBit c)) hrest rfl rfl (AX.tr c9 ⟨by rw [d3 0 (by omega)], by rw [d3 31 (by omega)], fun c hc => d3 c (by omega)⟩) (AM.tr c10 ⟨fun j hj => by rw [e3 0 (by omega)], fun j h1 h2 => e4 j h1, fun c hc => e3 c (by omega)⟩) ⟨zR_rv v, d2, e2⟩
    · exact stOf (x' := x') (y' := y') (r := -4) (by rw [if_neg (nI_ge (by omega) (by omega))]) (by rw [if_neg (nI_ge (by omega) (by omega))]) hI
