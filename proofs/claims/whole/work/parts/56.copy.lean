theorem cf26 (a b : Nat) (hab : a + 5 < b ∨ b + 5 < a) : ∀ k n i (σ : Sg), i + k = 4 → k < n → ∃ σ' : Sg, fX2_copyFrom_l26 a b n σ (nI i) = fX2_copyFrom_l51 a b 2000 σ' 0 ∧ (∀ c, c ≠ a + 1 → σ' c = σ c) ∧ (∀ j, i ≤ j → j < 4 → σ' (a + 1) j = σ (b + 1) j) ∧ (∀ j, j < i → σ' (a + 1) j = σ (a + 1) j) := by
  intro k
  induction k with
  | zero =>
    intro n i σ h1 h2
    obtain ⟨n, rfl⟩ := Nat.exists_eq_succ_of_ne_zero (show n ≠ 0 by omega)
    refine ⟨σ, ?_, fun _ _ => rfl, fun j _ _ => by omega, fun _ _ => rfl⟩
    rw [fX2_copyFrom_l26, if_pos (show (4 : Int32) ≤ nI i from nI_le (a := 4) (by omega) (by omega))]
  | succ k ih =>
    intro n i σ h1 h2
    obtain ⟨n, rfl⟩ := Nat.exists_eq_succ_of_ne_zero (show n ≠ 0 by omega)
    obtain ⟨σ', e1, e2, e3, e4⟩ := ih n (i + 1) (up2 σ (a + 1) i (σ (b + 1) i)) (by omega) (by omega)
    refine ⟨σ', ?_, fun c hc => by rw [e2 c hc, up2_row hc], fun j hj1 hj2 => ?_, fun j hj => ?_⟩
    · rw [fX2_copyFrom_l26, if_neg (show ¬ (4 : Int32) ≤ nI i from nI_ge (b := 4) (by omega) (by omega)), rdN (by omega) (by omega), bnd, wrN (by omega) (by omega), bnd, nI_1]; exact e1
    · by_cases hji : j = i
      · subst hji; rw [e4 j (by omega), up2_at, if_pos ⟨rfl, rfl⟩]
      · rw [e3 j (by omega) hj2, up2_row (by omega)]
    · rw [e4 j (by omega), up2_at, if_neg (by omega)]
theorem cf51 (a b : Nat) (hab : a + 5 < b ∨ b + 5 < a) : ∀ k n i (σ : Sg), i + k = 6 → k < n → ∃ σ' : Sg, fX2_copyFrom_l51 a b n σ (nI i) = some σ' ∧ (∀ c, c ≠ a + 2 → c ≠ a + 3 → c ≠ a + 4 → c ≠ a + 5 → σ' c = σ c) ∧ (∀ j, i ≤ j → j < 6 → σ' (a + 2) j = σ (b + 2) j ∧ σ' (a + 3) j = σ (b + 3) j ∧ σ' (a + 4) j = σ (b + 4) j ∧ σ' (a + 5) j = σ (b + 5) j) ∧ (∀ j, j < i → σ' (a + 2) j = σ (a + 2) j ∧ σ' (a + 3) j = σ (a + 3) j ∧ σ' (a + 4) j = σ (a + 4) j ∧ σ' (a + 5) j = σ (a + 5) j) := by
  intro k
  induction k with
  | zero =>
    intro n i σ h1 h2
    obtain ⟨n, rfl⟩ := Nat.exists_eq_succ_of_ne_zero (show n ≠ 0 by omega)
    refine ⟨σ, ?_, fun _ _ _ _ _ => rfl, fun j _ _ => by omega, fun _ _ => ⟨rfl, rfl, rfl, rfl⟩⟩
    rw [fX2_copyFrom_l51, if_pos (show (6 : Int32) ≤ nI i from nI_le (a := 6) (by omega) (by omega))]
  | succ k ih =>
    intro n i σ h1 h2
    obtain ⟨n, rfl⟩ := Nat.exists_eq_succ_of_ne_zero (show n ≠ 0 by omega)
    obtain ⟨τ, hτ⟩ : ∃ τ, τ = up2 (up2 (up2 (up2 σ (a + 2) i (σ (b + 2) i)) (a + 3) i (σ (b + 3) i)) (a + 4) i (σ (b + 4) i)) (a + 5) i (σ (b + 5) i) := ⟨_, rfl⟩
    obtain ⟨σ', e1, e2, e3, e4⟩ := ih n (i + 1) τ (by omega) (by omega)
    have t1 : ∀ c, c ≠ a + 2 → c ≠ a + 3 → c ≠ a + 4 → c ≠ a + 5 → τ c = σ c := fun c c2 c3 c4 c5 => by rw [hτ, up2_row c5, up2_row c4, up2_row c3, up2_row c2]
    have t2 : ∀ j, τ (a + 2) j = if j = i then σ (b + 2) i else σ (a + 2) j := fun j => by rw [hτ]; simp [up2_at]
    have t3 : ∀ j, τ (a + 3) j = if j = i then σ (b + 3) i else σ (a + 3) j := fun j => by rw [hτ]; simp [up2_at]
    have t4 : ∀ j, τ (a + 4) j = if j = i then σ (b + 4) i else σ (a + 4) j := fun j => by rw [hτ]; simp [up2_at]
    have t5 : ∀ j, τ (a + 5) j = if j = i then σ (b + 5) i else σ (a + 5) j := fun j => by rw [hτ]; simp [up2_at]
    refine ⟨σ', ?_, fun c c2 c3 c4 c5 => by rw [e2 c c2 c3 c4 c5, t1 c c2 c3 c4 c5], fun j hj1 hj2 => ?_, fun j hj => ?_⟩
    · rw [fX2_copyFrom_l51, if_neg (show ¬ (6 : Int32) ≤ nI i from nI_ge (b := 6) (by omega) (by omega)), rdN (by omega) (by omega), bnd, wrN (by omega) (by omega), bnd, rdN (by omega) (by omega), bnd, wrN (by omega) (by omega), bnd, rdN (by omega) (by omega), bnd, wrN (by omega) (by omega), bnd, rdN (by omega) (by omega), bnd, wrN (by omega) (by omega), bnd, nI_1]
      rw [up2_row (show b + 3 ≠ a + 2 by omega), up2_row (show b + 4 ≠ a + 3 by omega), up2_row (show b + 4 ≠ a + 2 by omega), up2_row (show b + 5 ≠ a + 4 by omega), up2_row (show b + 5 ≠ a + 3 by omega), up2_row (show b + 5 ≠ a + 2 by omega), ← hτ]
      exact e1
    · by_cases hji : j = i
      · subst hji
        rw [(e4 j (by omega)).1, (e4 j (by omega)).2.1, (e4 j (by omega)).2.2.1, (e4 j (by omega)).2.2.2, t2, t3, t4, t5]
        simp
      · have := e3 j (by omega) hj2
        rw [t1 (b + 2) (by omega) (by omega) (by omega) (by omega), t1 (b + 3) (by omega) (by omega) (by omega) (by omega), t1 (b + 4) (by omega) (by omega) (by omega) (by omega), t1 (b + 5) (by omega) (by omega) (by omega) (by omega)] at this
        exact this
    · rw [(e4 j (by omega)).1, (e4 j (by omega)).2.1, (e4 j (by omega)).2.2.1, (e4 j (by omega)).2.2.2, t2, t3, t4, t5, if_neg (by omega), if_neg (by omega), if_neg (by omega), if_neg (by omega)]
      exact ⟨rfl, rfl, rfl, rfl⟩
theorem eX_copy (σ : Sg) (a b : Nat) (hab : a + 5 < b ∨ b + 5 < a) {r : Rm} (v : RV r) (h : RX σ b r) : ∃ σ' : Sg, fX2_copyFrom σ a b = some σ' ∧ (∀ c, c < a ∨ a + 5 < c → σ' c = σ c) ∧ RX σ' a r := by
  have hv1 := v.1
  have hv2 := v.2.1
  unfold fX2_copyFrom pf
  rw [bnd, bnd, bnd]
  obtain ⟨τ, hτ⟩ : ∃ τ, τ = up2 (up2 (up2 σ a 0 (σ b 0)) a 1 (up2 σ a 0 (σ b 0) b 1)) a 2 (up2 (up2 σ a 0 (σ b 0)) a 1 (up2 σ a 0 (σ b 0) b 1) b 2) := ⟨_, rfl⟩
  rw [← hτ]
  have ht : ∀ c, c ≠ a → τ c = σ c := fun c hc => by rw [hτ, up2_row hc, up2_row hc, up2_row hc]
  have ha0 : τ a 0 = σ b 0 := by rw [hτ]; simp [up2_at]
  have ha1 : τ a 1 = σ b 1 := by rw [hτ]; simp [up2_at, show b ≠ a by omega]
  have ha2 : τ a 2 = σ b 2 := by rw [hτ]; simp [up2_at, show b ≠ a by omega]
  obtain ⟨σ1, e1, e2, e3, -⟩ := cf26 a b hab 4 2000 0 τ (by omega) (by omega)
  obtain ⟨σ2, g1, g2, g3, -⟩ := cf51 a b hab 6 2000 0 σ1 (by omega) (by omega)
  refine ⟨σ2, by rw [show (0 : Int32) = nI 0 from rfl, e1]; exact g1, fun c hc => by rw [g2 c (by omega) (by omega) (by omega) (by omega), e2 c (by omega), ht c (by omega)], ?_⟩
  have f : ∀ c, c ≠ a + 1 → c ≠ a + 2 → c ≠ a + 3 → c ≠ a + 4 → c ≠ a + 5 → c ≠ a → σ2 c = σ c := fun c c1 c2 c3 c4 c5 c0 => by rw [g2 c c2 c3 c4 c5, e2 c c1, ht c c0]
  have fa : σ2 a = τ a := by rw [g2 a (by omega) (by omega) (by omega) (by omega), e2 a (by omega)]
  refine ⟨by rw [fa, ha0]; exact h.1, by rw [fa, ha1]; exact h.2.1, by rw [fa, ha2]; exact h.2.2.1, fun i hi => ?_, fun q hq => ?_⟩
  · rw [g2 (a + 1) (by omega) (by omega) (by omega) (by omega), e3 i (by omega) (by omega), ht (b + 1) (by omega)]; exact h.2.2.2.1 i hi
  · have hq2 := g3 q (by omega) (by omega)
    rw [hq2.1, hq2.2.1, hq2.2.2.1, hq2.2.2.2, e2 (b + 2) (by omega), e2 (b + 3) (by omega), e2 (b + 4) (by omega), e2 (b + 5) (by omega), ht (b + 2) (by omega), ht (b + 3) (by omega), ht (b + 4) (by omega), ht (b + 5) (by omega)]
    exact h.2.2.2.2 q hq
theorem cp_l (f t : Nat) (hf : f ≤ 87) (ht : t ≤ 87) (hd : f + 29 ≤ t ∨ t + 29 ≤ f) : ∀ k n i (σ : Sg), i + k = 29 → k < n → ∃ σ' : Sg, fX8_copies_l2 (nI f) (nI t) n σ (nI i) = some σ' ∧ (∀ c, c ≠ 1 → σ' c = σ c) ∧ (∀ j, i ≤ j → j < 29 → σ' 1 (t + j) = σ 1 (f + j)) ∧ (∀ j, ¬ (t + i ≤ j ∧ j < t + 29) → σ' 1 j = σ 1 j) := by
  intro k
  induction k with
  | zero =>
    intro n i σ h1 h2
    obtain ⟨n, rfl⟩ := Nat.exists_eq_succ_of_ne_zero (show n ≠ 0 by omega)
    refine ⟨σ, ?_, fun _ _ => rfl, fun j _ _ => by omega, fun _ _ => rfl⟩
    rw [fX8_copies_l2, if_pos (show (29 : Int32) ≤ nI i from nI_le (a := 29) (by omega) (by omega))]
  | succ k ih =>
    intro n i σ h1 h2
    obtain ⟨n, rfl⟩ := Nat.exists_eq_succ_of_ne_zero (show n ≠ 0 by omega)
    obtain ⟨σ', e1, e2, e3, e4⟩ := ih n (i + 1) (up2 σ 1 (t + i) (σ 1 (f + i))) (by omega) (by omega)
    refine ⟨σ', ?_, fun c hc => by rw [e2 c hc, up2_row hc], fun j hj1 hj2 => ?_, fun j hj => ?_⟩
    · rw [fX8_copies_l2, if_neg (show ¬ (29 : Int32) ≤ nI i from nI_ge (b := 29) (by omega) (by omega)), nI_add, rdN (by omega) (by omega), bnd, nI_add, wrN (by omega) (by omega), bnd, nI_1]; exact e1
    · by_cases hji : j = i
      · subst hji; rw [e4 (t + j) (by omega), up2_at, if_pos ⟨rfl, rfl⟩]
      · rw [e3 j (by omega) hj2, up2_at, if_neg (by omega)]
    · rw [e4 j (by omega), up2_at, if_neg (by omega)]
theorem eM_copy (σ : Sg) (f t : Nat) (hf : f ≤ 87) (ht : t ≤ 87) (hd : f + 29 ≤ t ∨ t + 29 ≤ f) : ∃ σ' : Sg, fX8_copies σ (nI f) (nI t) = some σ' ∧ (∀ c, c ≠ 1 → σ' c = σ c) ∧ (∀ j, j < 29 → σ' 1 (t + j) = σ 1 (f + j)) ∧ (∀ j, ¬ (t ≤ j ∧ j < t + 29) → σ' 1 j = σ 1 j) := by
  obtain ⟨σ', e1, e2, e3, e4⟩ := cp_l f t hf ht hd 29 2000 0 σ (by omega) (by omega)
  exact ⟨σ', e1, e2, fun j hj => e3 j (by omega) hj, fun j hj => e4 j (by omega)⟩
theorem RM.of_copy {σ σ' : Sg} {f t : Nat} {r : Rm} (v : RV r) (h : RM σ f r) (hc : ∀ j, j < 29 → σ' 1 (t + j) = σ 1 (f + j)) : RM σ' t r := by
  have hv1 := v.1
  have hv2 := v.2.1
  refine ⟨fun i hi => ?_, fun b hb => ?_, ?_⟩
  · rw [hc i (by omega)]; exact h.1 i hi
  · have h4 := hc (4 + b) (by omega)
    have h10 := hc (10 + b) (by omega)
    have h16 := hc (16 + b) (by omega)
    have h22 := hc (22 + b) (by omega)
    simp only [← Nat.add_assoc] at h4 h10 h16 h22
    rw [h4, h10, h16, h22]; exact h.2.1 b hb
  · rw [hc 28 (by omega)]; exact h.2.2
theorem rxi : ∀ k, k < 2 → rx [13, 19] (nI k) = some (13 + 6 * k) := by decide
theorem rxs : ∀ k, k < 4 → rx [45, 47, 49, 51] (nI k) = some (45 + 2 * k) := by decide
theorem bo1 : vp_nar .boolean 1 = 1 := by decide
theorem m29 : ∀ k, k < 2 → (29 : Int32) * (nI k + 1) = nI (29 * (k + 1)) := by decide
theorem S_keep (x y : Sg) (v1 : Int32) (h : Inv x y) : StI Inv (oX7_keep x v1) (oX8_keep y v1) := by
  obtain ⟨r, ⟨v, hx, hy⟩, hI, hT, hSS, hH, hE⟩ := id h
  unfold oX7_keep oX8_keep fX7_keep fX8_keep fX7_keep_b25 fX8_keep_b37
  by_cases ho : out v1 0 1
  · exact stSame h (r := -1) (by rw [(wiI v1 0 1 0 1 (by decide) (by decide)).1 ho, bnd, i0]) (by rw [(inI v1 0 1 0 1 (by decide) (by decide)).1 ho, bnd, i0])
  · rw [(wiI v1 0 1 0 1 (by decide) (by decide)).2 ho, bnd, i1, (inI v1 0 1 0 1 (by decide) (by decide)).2 ho, bnd, i1]
    obtain ⟨k, hk, rfl⟩ := of_in ho (by decide)
    have hk1 : k < 2 := by unfold out at ho; omega
    obtain ⟨σ1, e1, e2, e3⟩ := eX_copy x (13 + 6 * k) 1 (by omega) v hx
    obtain ⟨σ2, g1, g2, g3, g4⟩ := eM_copy y 0 (29 * (k + 1)) (by omega) (by omega) (by omega)
    have hw : ∃ w : Int32, (w = 0 ∨ w = 1) ∧ x 43 k = w ∧ y 10 k = w := by
      rcases hI k hk1 with ⟨a1, a2⟩ | ⟨a1, a2, -⟩
      · exact ⟨0, Or.inl rfl, a1, a2⟩
      · exact ⟨1, Or.inr rfl, a1, a2⟩
    obtain ⟨w, hw1, hw2, hw3⟩ := hw
    refine stOf (x' := up2 σ1 43 k 1) (y' := up2 σ2 10 k 1) (r := w) ?_ ?_ ?_
    · rw [rdN (by omega) (by omega), bnd, hw2]
      rcases hw1 with rfl | rfl
      · rw [i0, rxi k hk1, bnd, e1, bnd, bo1, wrN (by omega) (by omega), bnd]
      · rw [i1, rxi k hk1, bnd, e1, bnd, bo1, wrN (by omega) (by omega), bnd]
    · rw [m29 k hk1, show (0 : Int32) = nI 0 from rfl, g1, bnd, rdN (by omega) (by omega), bnd, g2 10 (by omega), hw3]
      rcases hw1 with rfl | rfl
      · rw [show nI 0 = 0 from rfl, i0, bo1, wrN (by omega) (by omega), bnd]
      · rw [show nI 0 = 0 from rfl, i1, bo1, wrN (by omega) (by omega), bnd]
    · refine ⟨r, ⟨v, hx.cg (fun c _ _ => by rw [up2_row (by omega), e2 c (by omega)]), by rw [up2_row (by omega), g2 0 (by omega)]; exact hy.1, by rw [up2_row (by omega), g2 0 (by omega)]; exact hy.2.1, RM.cg v hy.2.2 (fun j _ _ => by rw [up2_row (by omega), g4 j (by omega)])⟩, ?_, hT.tr (fun c hc => by rw [up2_row (by omega), e2 c (by omega)]) (by rw [up2_row (by omega), g2 3 (by omega)]) (by rw [up2_row (by omega), g2 0 (by omega)]), hSS.tr rfl (fun c hc => by rw [up2_row (by omega), e2 c (by omega)]) (by rw [up2_row (by omega), g2 8 (by omega)]) (by rw [up2_row (by omega), g2 0 (by omega)]), hH.tr (fun c _ _ => by rw [up2_row (by omega), e2 c (by omega)]) (fun c hc => by rw [up2_row (by omega), g2 c (by omega)]), ?_, ?_, ?_, ?_⟩
      · intro q hq
        by_cases hqk : q = k
        · subst hqk
          refine Or.inr ⟨by rw [up2_at, if_pos ⟨rfl, rfl⟩], by rw [up2_at, if_pos ⟨rfl, rfl⟩], r, v, rfl, rfl, e3.cg (fun c _ _ => by rw [up2_row (by omega)]), ?_⟩
          exact RM.of_copy (σ := y) (f := 0) v hy.2.2 (fun j hj => by rw [up2_row (by omega), g3 j hj])
        · rw [up2_at, if_neg (by omega), up2_at, if_neg (by omega), e2 43 (by omega), g2 10 (by omega)]
          rcases hI q hq with a | ⟨a1, a2, p, p1, p2, p3, p4, p5⟩
          · exact Or.inl a
          · exact Or.inr ⟨a1, a2, p, p1, p2, p3, p4.cg (fun c _ _ => by rw [up2_row (by omega), e2 c (by omega)]), RM.cg p1 p5 (fun j _ _ => by rw [up2_row (by omega), g4 j (by omega)])⟩
      · rw [up2_row (by omega), up2_row (by omega), e2 31 (by omega), g2 0 (by omega)]; exact hE.1
      · rw [up2_row (by omega), up2_row (by omega), e2 0 (by omega), g2 0 (by omega)]; exact hE.2.1
      · rw [up2_row (by omega), g2 4 (by omega)]; exact hE.2.2.1
      · rw [up2_row (by omega), g2 5 (by omega)]; exact hE.2.2.2
theorem S_back (x y : Sg) (v1 : Int32) (h : Inv x y) : StI Inv (oX7_back x v1) (oX8_back y v1) := by
  obtain ⟨r, ⟨v, hx, hy⟩, hrest⟩ := id h
  have hI := hrest.1
  unfold oX7_back oX8_back fX7_back fX8_back
  by_cases ho : out v1 0 1
  · exact stSame h (r := -1) (by rw [(wiI v1 0 1 0 1 (by decide) (by decide)).1 ho, bnd, i0]) (by rw [(inI v1 0 1 0 1 (by decide) (by decide)).1 ho, bnd, i0])
  · rw [(wiI v1 0 1 0 1 (by decide) (by decide)).2 ho, bnd, i1, (inI v1 0 1 0 1 (by decide) (by decide)).2 ho, bnd, i1]
    obtain ⟨k, hk, rfl⟩ := of_in ho (by decide)
    have hk1 : k < 2 := by unfold out at ho; omega
    rcases hI k hk1 with ⟨a1, a2⟩ | ⟨a1, a2, q, q1, q2, q3, q4, q5⟩
    · exact stSame h (r := -2) (by rw [rdN (by omega) (by omega), bnd, a1, i0]) (by rw [rdN (by omega) (by omega), bnd, a2, i0])
    · obtain ⟨σ1, e1, e2, e3⟩ := eX_copy x 1 (13 + 6 * k) (by omega) q1 q4
      obtain ⟨σ2, g1, g2, g3, g4⟩ := eM_copy y (29 * (k + 1)) 0 (by omega) (by omega) (by omega)
      have hm : MM σ2 q := ⟨by rw [g2 0 (by omega), q2]; exact hy.1, by rw [g2 0 (by omega), q3]; exact hy.2.1, RM.of_copy q1 q5 g3⟩
      refine stOf (x' := σ1) (y' := σ2) (r := nI (guiR q)) ?_ ?_ ?_
      · rw [rdN (by omega) (by omega), bnd, a1, i1, rxi k hk1, bnd, e1, bnd, eX_gui e3 q1, bnd]
      · rw [rdN (by omega) (by omega), bnd, a2, i1, m29 k hk1, show (0 : Int32) = nI 0 from rfl, g1, bnd, eM_gui hm q1, bnd]
      · exact Inv.tr (r' := q) hrest q2 q3 ⟨by rw [e2 0 (by omega)], by rw [e2 31 (by omega)], fun c hc => e2 c (by omega)⟩ ⟨fun j _ => by rw [g2 0 (by omega)], fun j h1 h2 => g4 j (by omega), fun c hc => g2 c (by omega)⟩ ⟨q1, e3, hm⟩
