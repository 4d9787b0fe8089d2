-- the invariant between class and reference
def InvR (r : Rm) (x y : Sg) : Prop := RV r ∧ RX x 1 r ∧ MM y r
def InvI (r : Rm) (x y : Sg) : Prop := ∀ k, k < 2 → (x 43 k = 0 ∧ y 10 k = 0) ∨ (x 43 k = 1 ∧ y 10 k = 1 ∧ ∃ q, RV q ∧ nl q = nl r ∧ nb q = nb r ∧ RX x (13 + 6 * k) q ∧ RM y (29 * (k + 1)) q)
def InvT (x y : Sg) : Prop := ∃ tl, tl ≤ 160 ∧ x 32 1 = nI tl ∧ y 0 9 = nI tl ∧ ∀ i, i < tl → ∃ c, c < 128 ∧ x 33 i = nI c ∧ y 3 i = nI c
def InvS (r : Rm) (x y : Sg) : Prop := ∃ ns, ns ≤ 6 ∧ x 37 2 = nI ns ∧ y 0 24 = nI ns ∧ ∀ i, i < ns → ∃ s, s < 2 ^ nl r ∧ x 38 i = nI s ∧ y 8 (2 * i) = nI s ∧ (y 8 (2 * i + 1) = 0 ∨ y 8 (2 * i + 1) = 1) ∧ x 39 i = y 8 (2 * i + 1)
def InvH (x y : Sg) : Prop := ∀ k, k < 4 → (x (45 + 2 * k) 2 = -4 ∧ y 11 k = -4) ∨ ∃ la n, la ≤ 2 ∧ n ≤ 40 ∧ x (45 + 2 * k) 1 = nI la ∧ x (45 + 2 * k) 2 = nI n ∧ y 11 k = nI la ∧ y 12 k = nI n ∧ ∀ i, i < 40 → x (46 + 2 * k) i = y 13 (40 * k + i)
def InvE (x y : Sg) : Prop := x 31 2 = y 0 10 ∧ x 0 10 = y 0 31 ∧ y 4 = σM0 4 ∧ y 5 = σM0 5
def Inv (x y : Sg) : Prop := ∃ r, InvR r x y ∧ InvI r x y ∧ InvT x y ∧ InvS r x y ∧ InvH x y ∧ InvE x y
def AX (σ σ' : Sg) : Prop := σ' 0 10 = σ 0 10 ∧ σ' 31 2 = σ 31 2 ∧ ∀ c, (13 ≤ c ∧ c < 25) ∨ c = 32 ∨ c = 33 ∨ c = 37 ∨ c = 38 ∨ c = 39 ∨ c = 43 ∨ (45 ≤ c ∧ c < 53) → σ' c = σ c
def AM (σ σ' : Sg) : Prop := (∀ j, j = 1 ∨ j = 2 ∨ j = 9 ∨ j = 10 ∨ j = 24 ∨ j = 31 → σ' 0 j = σ 0 j) ∧ (∀ j, 29 ≤ j → j < 87 → σ' 1 j = σ 1 j) ∧ ∀ c, c = 3 ∨ c = 4 ∨ c = 5 ∨ c = 8 ∨ c = 10 ∨ c = 11 ∨ c = 12 ∨ c = 13 → σ' c = σ c
theorem AX.rf (σ : Sg) : AX σ σ := ⟨rfl, rfl, fun _ _ => rfl⟩
theorem AM.rf (σ : Sg) : AM σ σ := ⟨fun _ _ => rfl, fun _ _ _ => rfl, fun _ _ => rfl⟩
theorem AX.tr {a b c : Sg} (h : AX a b) (g : AX b c) : AX a c := ⟨g.1.trans h.1, g.2.1.trans h.2.1, fun k hk => (g.2.2 k hk).trans (h.2.2 k hk)⟩
theorem AM.tr {a b c : Sg} (h : AM a b) (g : AM b c) : AM a c := ⟨fun k hk => (g.1 k hk).trans (h.1 k hk), fun j h1 h2 => (g.2.1 j h1 h2).trans (h.2.1 j h1 h2), fun k hk => (g.2.2 k hk).trans (h.2.2 k hk)⟩
theorem up2_at (σ : Sg) (k j a b : Nat) (v : Int32) : up2 σ k j v a b = if a = k ∧ b = j then v else σ a b := by
  unfold up2 upd
  by_cases h : a = k
  · subst h
    by_cases h2 : b = j
    · simp [h2]
    · simp [h2]
  · simp [h]
theorem AX.up {σ : Sg} {k j : Nat} {v : Int32} (h : (1 ≤ k ∧ k < 13) ∨ (25 ≤ k ∧ k < 31) ∨ k = 34 ∨ k = 35 ∨ k = 36 ∨ k = 40 ∨ k = 41 ∨ (k = 31 ∧ j ≠ 2)) : AX σ (up2 σ k j v) := by
  refine ⟨?_, ?_, fun c hc => up2_ne (by omega)⟩
  · rw [up2_at, if_neg (by omega)]
  · rw [up2_at, if_neg (by omega)]
theorem AM.up {σ : Sg} {k j : Nat} {v : Int32} (h : (k = 0 ∧ j ≠ 1 ∧ j ≠ 2 ∧ j ≠ 9 ∧ j ≠ 10 ∧ j ≠ 24 ∧ j ≠ 31) ∨ (k = 1 ∧ (j < 29 ∨ 87 ≤ j)) ∨ k = 2 ∨ k = 6 ∨ k = 7 ∨ k = 9) : AM σ (up2 σ k j v) := by
  refine ⟨fun i hi => ?_, fun i h1 h2 => ?_, fun c hc => up2_ne (by omega)⟩
  · rw [up2_at, if_neg (by omega)]
  · rw [up2_at, if_neg (by omega)]
theorem RX.cg {σ σ' : Sg} {a : Nat} {r : Rm} (h : RX σ a r) (hc : ∀ c, a ≤ c → c ≤ a + 5 → σ' c = σ c) : RX σ' a r := by
  obtain ⟨h1, h2, h3, h4, h5⟩ := h
  refine ⟨?_, ?_, ?_, fun i hi => ?_, fun b hb => ⟨?_, ?_, ?_, ?_⟩⟩
  · rw [hc a (by omega) (by omega)]; exact h1
  · rw [hc a (by omega) (by omega)]; exact h2
  · rw [hc a (by omega) (by omega)]; exact h3
  · rw [hc (a + 1) (by omega) (by omega)]; exact h4 i hi
  · rw [hc (a + 2) (by omega) (by omega)]; exact (h5 b hb).1
  · rw [hc (a + 3) (by omega) (by omega)]; exact (h5 b hb).2.1
  · rw [hc (a + 4) (by omega) (by omega)]; exact (h5 b hb).2.2.1
  · rw [hc (a + 5) (by omega) (by omega)]; exact (h5 b hb).2.2.2
theorem RM.cg {σ σ' : Sg} {o : Nat} {r : Rm} (v : RV r) (h : RM σ o r) (hc : ∀ j, o ≤ j → j < o + 29 → σ' 1 j = σ 1 j) : RM σ' o r := by
  obtain ⟨h1, h2, h3⟩ := h
  have := v.1
  have := v.2.1
  refine ⟨fun i hi => ?_, fun b hb => ⟨?_, ?_, ?_, ?_⟩, ?_⟩
  · rw [hc _ (by omega) (by omega)]; exact h1 i hi
  · rw [hc _ (by omega) (by omega)]; exact (h2 b hb).1
  · rw [hc _ (by omega) (by omega)]; exact (h2 b hb).2.1
  · rw [hc _ (by omega) (by omega)]; exact (h2 b hb).2.2.1
  · rw [hc _ (by omega) (by omega)]; exact (h2 b hb).2.2.2
  · rw [hc _ (by omega) (by omega)]; exact h3
theorem InvI.tr {r r' : Rm} {x y x' y' : Sg} (h : InvI r x y) (hl : nl r' = nl r) (hb : nb r' = nb r) (hx : ∀ c, (13 ≤ c ∧ c < 25) ∨ c = 43 → x' c = x c) (h10 : y' 10 = y 10) (hy : ∀ j, 29 ≤ j → j < 87 → y' 1 j = y 1 j) : InvI r' x' y' := by
  intro k hk
  rw [hx 43 (by omega), h10]
  rcases h k hk with h | ⟨h1, h2, q, hv, q1, q2, q3, q4⟩
  · exact Or.inl h
  · exact Or.inr ⟨h1, h2, q, hv, q1.trans hl.symm, q2.trans hb.symm, q3.cg (fun c h1 h2 => hx c (by omega)), RM.cg hv q4 (fun j h1 h2 => hy j (by omega) (by omega))⟩
theorem InvS.tr {r r' : Rm} {x y x' y' : Sg} (h : InvS r x y) (hl : nl r' = nl r) (hx : ∀ c, c = 37 ∨ c = 38 ∨ c = 39 → x' c = x c) (h8 : y' 8 = y 8) (h24 : y' 0 24 = y 0 24) : InvS r' x' y' := by
  obtain ⟨ns, h1, h2, h3, h4⟩ := h
  exact ⟨ns, h1, by rw [hx 37 (by omega)]; exact h2, by rw [h24]; exact h3, by rw [hx 38 (by omega), hx 39 (by omega), h8, hl]; exact h4⟩
theorem InvT.tr {x y x' y' : Sg} (h : InvT x y) (hx : ∀ c, c = 32 ∨ c = 33 → x' c = x c) (h3 : y' 3 = y 3) (h9 : y' 0 9 = y 0 9) : InvT x' y' := by
  obtain ⟨tl, h1, h2, h4, h5⟩ := h
  exact ⟨tl, h1, by rw [hx 32 (by omega)]; exact h2, by rw [h9]; exact h4, by rw [hx 33 (by omega), h3]; exact h5⟩
theorem InvH.tr {x y x' y' : Sg} (h : InvH x y) (hx : ∀ c, 45 ≤ c → c < 53 → x' c = x c) (hy : ∀ c, c = 11 ∨ c = 12 ∨ c = 13 → y' c = y c) : InvH x' y' := by
  intro k hk
  rw [hx (45 + 2 * k) (by omega) (by omega), hx (46 + 2 * k) (by omega) (by omega), hy 11 (by omega), hy 12 (by omega), hy 13 (by omega)]
  exact h k hk
theorem Inv.tr {r r' : Rm} {x y x' y' : Sg} (h : InvI r x y ∧ InvT x y ∧ InvS r x y ∧ InvH x y ∧ InvE x y) (hl : nl r' = nl r) (hb : nb r' = nb r) (hx : AX x x') (hy : AM y y') (hR : InvR r' x' y') : Inv x' y' := by
  obtain ⟨h1, h2, h3, h4, h5⟩ := h
  refine ⟨r', hR, h1.tr hl hb (fun c hc => hx.2.2 c (by omega)) (hy.2.2 10 (by omega)) hy.2.1, h2.tr (fun c hc => hx.2.2 c (by omega)) (hy.2.2 3 (by omega)) (hy.1 9 (by omega)), h3.tr hl (fun c hc => hx.2.2 c (by omega)) (hy.2.2 8 (by omega)) (hy.1 24 (by omega)), h4.tr (fun c h1 h2 => hx.2.2 c (by omega)) (fun c hc => hy.2.2 c (by omega)), ?_, ?_, ?_, ?_⟩
  · rw [hx.2.1, hy.1 10 (by omega)]; exact h5.1
  · rw [hx.1, hy.1 31 (by omega)]; exact h5.2.1
  · rw [hy.2.2 4 (by omega)]; exact h5.2.2.1
  · rw [hy.2.2 5 (by omega)]; exact h5.2.2.2
/-- what only scratch cells change -/
theorem Inv.sc {x y x' y' : Sg} (h : Inv x y) (hx : AX x x') (hy : AM y y') (hx1 : ∀ c, 1 ≤ c → c < 7 → x' c = x c) (hy1 : ∀ j, j < 29 → y' 1 j = y 1 j) : Inv x' y' := by
  obtain ⟨r, ⟨v, h1, h2⟩, h3⟩ := h
  exact Inv.tr h3 rfl rfl hx hy ⟨v, h1.cg (fun c h1 h2 => hx1 c (by omega) (by omega)), by rw [hy.1 1 (by omega)]; exact h2.1, by rw [hy.1 2 (by omega)]; exact h2.2.1, RM.cg v h2.2.2 (fun j _ h => hy1 j (by omega))⟩
-- setters
def setGu (r : Rm) (i x : Nat) : Rm := (nl r, nb r, pr r, (fun j => if j = i then x else gu r j), kd r, ho r, se r, ow r)
def setKd (r : Rm) (i x : Nat) : Rm := (nl r, nb r, pr r, gu r, (fun j => if j = i then x else kd r j), ho r, se r, ow r)
def setHo (r : Rm) (i x : Nat) : Rm := (nl r, nb r, pr r, gu r, kd r, (fun j => if j = i then x else ho r j), se r, ow r)
def setSe (r : Rm) (i x : Nat) : Rm := (nl r, nb r, pr r, gu r, kd r, ho r, (fun j => if j = i then x else se r j), ow r)
def setOw (r : Rm) (i x : Nat) : Rm := (nl r, nb r, pr r, gu r, kd r, ho r, se r, (fun j => if j = i then x else ow r j))
def setPr (r : Rm) (x : Nat) : Rm := (nl r, nb r, x, gu r, kd r, ho r, se r, ow r)
theorem ite_nI {c : Prop} [Decidable c] (x y : Nat) : nI (if c then x else y) = if c then nI x else nI y := by split <;> rfl
section ST
variable {σ : Sg} {a i x : Nat} {r : Rm}
theorem RX.setGu (h : RX σ a r) : RX (up2 σ (a + 1) i (nI x)) a (setGu r i x) := by
  obtain ⟨h1, h2, h3, h4, h5⟩ := h
  refine ⟨?_, ?_, ?_, fun j hj => ?_, fun b hb => ⟨?_, ?_, ?_, ?_⟩⟩
  · rw [up2_ne (by omega)]; exact h1
  · rw [up2_ne (by omega)]; exact h2
  · rw [up2_ne (by omega)]; exact h3
  · show up2 σ (a + 1) i (nI x) (a + 1) j = nI (if j = i then x else gu r j)
    rw [up2_at, ite_nI, h4 j hj]; simp
  · rw [up2_ne (by omega)]; exact (h5 b hb).1
  · rw [up2_ne (by omega)]; exact (h5 b hb).2.1
  · rw [up2_ne (by omega)]; exact (h5 b hb).2.2.1
  · rw [up2_ne (by omega)]; exact (h5 b hb).2.2.2
theorem RX.setKd (h : RX σ a r) : RX (up2 σ (a + 2) i (nI x)) a (setKd r i x) := by
  obtain ⟨h1, h2, h3, h4, h5⟩ := h
  refine ⟨?_, ?_, ?_, fun j hj => ?_, fun b hb => ⟨?_, ?_, ?_, ?_⟩⟩
  · rw [up2_ne (by omega)]; exact h1
  · rw [up2_ne (by omega)]; exact h2
  · rw [up2_ne (by omega)]; exact h3
  · rw [up2_ne (by omega)]; exact h4 j hj
  · show up2 σ (a + 2) i (nI x) (a + 2) b = nI (if b = i then x else kd r b)
    rw [up2_at, ite_nI, (h5 b hb).1]; simp
  · rw [up2_ne (by omega)]; exact (h5 b hb).2.1
  · rw [up2_ne (by omega)]; exact (h5 b hb).2.2.1
  · rw [up2_ne (by omega)]; exact (h5 b hb).2.2.2
theorem RX.setHo (h : RX σ a r) : RX (up2 σ (a + 3) i (nI x)) a (setHo r i x) := by
  obtain ⟨h1, h2, h3, h4, h5⟩ := h
  refine ⟨?_, ?_, ?_, fun j hj => ?_, fun b hb => ⟨?_, ?_, ?_, ?_⟩⟩
  · rw [up2_ne (by omega)]; exact h1
  · rw [up2_ne (by omega)]; exact h2
  · rw [up2_ne (by omega)]; exact h3
  · rw [up2_ne (by omega)]; exact h4 j hj
  · rw [up2_ne (by omega)]; exact (h5 b hb).1
  · show up2 σ (a + 3) i (nI x) (a + 3) b = nI (if b = i then x else ho r b)
    rw [up2_at, ite_nI, (h5 b hb).2.1]; simp
  · rw [up2_ne (by omega)]; exact (h5 b hb).2.2.1
  · rw [up2_ne (by omega)]; exact (h5 b hb).2.2.2
theorem RX.setSe (h : RX σ a r) : RX (up2 σ (a + 4) i (nI x)) a (setSe r i x) := by
  obtain ⟨h1, h2, h3, h4, h5⟩ := h
  refine ⟨?_, ?_, ?_, fun j hj => ?_, fun b hb => ⟨?_, ?_, ?_, ?_⟩⟩
  · rw [up2_ne (by omega)]; exact h1
  · rw [up2_ne (by omega)]; exact h2
  · rw [up2_ne (by omega)]; exact h3
  · rw [up2_ne (by omega)]; exact h4 j hj
  · rw [up2_ne (by omega)]; exact (h5 b hb).1
  · rw [up2_ne (by omega)]; exact (h5 b hb).2.1
  · show up2 σ (a + 4) i (nI x) (a + 4) b = nI (if b = i then x else se r b)
    rw [up2_at, ite_nI, (h5 b hb).2.2.1]; simp
  · rw [up2_ne (by omega)]; exact (h5 b hb).2.2.2
theorem RX.setOw (h : RX σ a r) : RX (up2 σ (a + 5) i (oX x)) a (setOw r i x) := by
  obtain ⟨h1, h2, h3, h4, h5⟩ := h
  refine ⟨?_, ?_, ?_, fun j hj => ?_, fun b hb => ⟨?_, ?_, ?_, ?_⟩⟩
  · rw [up2_ne (by omega)]; exact h1
  · rw [up2_ne (by omega)]; exact h2
  · rw [up2_ne (by omega)]; exact h3
  · rw [up2_ne (by omega)]; exact h4 j hj
  · rw [up2_ne (by omega)]; exact (h5 b hb).1
  · rw [up2_ne (by omega)]; exact (h5 b hb).2.1
  · rw [up2_ne (by omega)]; exact (h5 b hb).2.2.1
  · show up2 σ (a + 5) i (oX x) (a + 5) b = oX (if b = i then x else ow r b)
    rw [up2_at, (h5 b hb).2.2.2]
    by_cases hb2 : b = i <;> simp [hb2]
theorem RX.setPr (h : RX σ a r) : RX (up2 σ a 2 (nI x)) a (setPr r x) := by
  obtain ⟨h1, h2, h3, h4, h5⟩ := h
  refine ⟨?_, ?_, ?_, fun j hj => ?_, fun b hb => ⟨?_, ?_, ?_, ?_⟩⟩
  · rw [up2_at, if_neg (by omega)]; exact h1
  · rw [up2_at, if_neg (by omega)]; exact h2
  · rw [up2_at, if_pos ⟨rfl, rfl⟩]; rfl
  · rw [up2_ne (by omega)]; exact h4 j hj
  · rw [up2_ne (by omega)]; exact (h5 b hb).1
  · rw [up2_ne (by omega)]; exact (h5 b hb).2.1
  · rw [up2_ne (by omega)]; exact (h5 b hb).2.2.1
  · rw [up2_ne (by omega)]; exact (h5 b hb).2.2.2
variable {o : Nat}
theorem RM.setGu (v : RV r) (h : RM σ o r) (hi : i < 4) : RM (up2 σ 1 (o + i) (nI x)) o (setGu r i x) := by
  obtain ⟨h1, h2, h3⟩ := h
  have hv1 := v.1
  have hv2 := v.2.1
  refine ⟨fun j hj => ?_, fun b hb => ?_, ?_⟩
  · show _ = nI (if j = i then x else gu r j)
    rw [up2_at, ite_nI, h1 j hj]
    by_cases hj2 : j = i
    · simp [hj2]
    · rw [if_neg (by omega), if_neg hj2]
  · have hb2 : b < nb r := hb
    rw [up2_at, up2_at, up2_at, up2_at, if_neg (by omega), if_neg (by omega), if_neg (by omega), if_neg (by omega)]; exact h2 b hb
  · rw [up2_at, if_neg (by omega)]; exact h3
theorem RM.setKd (v : RV r) (h : RM σ o r) (hi : i < 6) : RM (up2 σ 1 (o + 4 + i) (nI x)) o (setKd r i x) := by
  obtain ⟨h1, h2, h3⟩ := h
  have hv1 := v.1
  have hv2 := v.2.1
  refine ⟨fun j hj => ?_, fun b hb => ?_, ?_⟩
  · have hj2 : j < nl r := hj
    rw [up2_at, if_neg (by omega)]; exact h1 j hj
  · have hb2 : b < nb r := hb
    show _ = nI (if b = i then x else kd r b) ∧ _
    rw [up2_at, up2_at, up2_at, up2_at, ite_nI, (h2 b hb).1, if_neg (show ¬ (1 = 1 ∧ o + 10 + b = o + 4 + i) by omega), if_neg (show ¬ (1 = 1 ∧ o + 16 + b = o + 4 + i) by omega), if_neg (show ¬ (1 = 1 ∧ o + 22 + b = o + 4 + i) by omega)]
    refine ⟨?_, (h2 b hb).2⟩
    by_cases hb3 : b = i
    · simp [hb3]
    · rw [if_neg (by omega), if_neg hb3]
  · rw [up2_at, if_neg (by omega)]; exact h3
theorem RM.setHo (v : RV r) (h : RM σ o r) (hi : i < 6) : RM (up2 σ 1 (o + 10 + i) (nI x)) o (setHo r i x) := by
  obtain ⟨h1, h2, h3⟩ := h
  have hv1 := v.1
  have hv2 := v.2.1
  refine ⟨fun j hj => ?_, fun b hb => ?_, ?_⟩
  · have hj2 : j < nl r := hj
    rw [up2_at, if_neg (by omega)]; exact h1 j hj
  · have hb2 : b < nb r := hb
    show _ ∧ _ = nI (if b = i then x else ho r b) ∧ _
    rw [up2_at, up2_at, up2_at, up2_at, ite_nI, (h2 b hb).2.1, if_neg (show ¬ (1 = 1 ∧ o + 4 + b = o + 10 + i) by omega), if_neg (show ¬ (1 = 1 ∧ o + 16 + b = o + 10 + i) by omega), if_neg (show ¬ (1 = 1 ∧ o + 22 + b = o + 10 + i) by omega)]
    refine ⟨(h2 b hb).1, ?_, (h2 b hb).2.2⟩
    by_cases hb3 : b = i
    · simp [hb3]
    · rw [if_neg (by omega), if_neg hb3]
  · rw [up2_at, if_neg (by omega)]; exact h3
theorem RM.setSe (v : RV r) (h : RM σ o r) (hi : i < 6) : RM (up2 σ 1 (o + 16 + i) (nI x)) o (setSe r i x) := by
  obtain ⟨h1, h2, h3⟩ := h
  have hv1 := v.1
  have hv2 := v.2.1
  refine ⟨fun j hj => ?_, fun b hb => ?_, ?_⟩
  · have hj2 : j < nl r := hj
    rw [up2_at, if_neg (by omega)]; exact h1 j hj
  · have hb2 : b < nb r := hb
    show _ ∧ _ ∧ _ = nI (if b = i then x else se r b) ∧ _
    rw [up2_at, up2_at, up2_at, up2_at, ite_nI, (h2 b hb).2.2.1, if_neg (show ¬ (1 = 1 ∧ o + 4 + b = o + 16 + i) by omega), if_neg (show ¬ (1 = 1 ∧ o + 10 + b = o + 16 + i) by omega), if_neg (show ¬ (1 = 1 ∧ o + 22 + b = o + 16 + i) by omega)]
    refine ⟨(h2 b hb).1, (h2 b hb).2.1, ?_, (h2 b hb).2.2.2⟩
    by_cases hb3 : b = i
    · simp [hb3]
    · rw [if_neg (by omega), if_neg hb3]
  · rw [up2_at, if_neg (by omega)]; exact h3
theorem RM.setOw (v : RV r) (h : RM σ o r) (hi : i < 6) : RM (up2 σ 1 (o + 22 + i) (nI x)) o (setOw r i x) := by
  obtain ⟨h1, h2, h3⟩ := h
  have hv1 := v.1
  have hv2 := v.2.1
  refine ⟨fun j hj => ?_, fun b hb => ?_, ?_⟩
  · have hj2 : j < nl r := hj
    rw [up2_at, if_neg (by omega)]; exact h1 j hj
  · have hb2 : b < nb r := hb
    show _ ∧ _ ∧ _ ∧ _ = nI (if b = i then x else ow r b)
    rw [up2_at, up2_at, up2_at, up2_at, ite_nI, (h2 b hb).2.2.2, if_neg (show ¬ (1 = 1 ∧ o + 4 + b = o + 22 + i) by omega), if_neg (show ¬ (1 = 1 ∧ o + 10 + b = o + 22 + i) by omega), if_neg (show ¬ (1 = 1 ∧ o + 16 + b = o + 22 + i) by omega)]
    refine ⟨(h2 b hb).1, (h2 b hb).2.1, (h2 b hb).2.2.1, ?_⟩
    by_cases hb3 : b = i
    · simp [hb3]
    · rw [if_neg (by omega), if_neg hb3]
  · rw [up2_at, if_neg (by omega)]; exact h3
theorem RM.setPr (v : RV r) (h : RM σ o r) : RM (up2 σ 1 (o + 28) (nI x - 3)) o (setPr r x) := by
  obtain ⟨h1, h2, h3⟩ := h
  have hv1 := v.1
  have hv2 := v.2.1
  refine ⟨fun j hj => ?_, fun b hb => ?_, ?_⟩
  · have hj2 : j < nl r := hj
    rw [up2_at, if_neg (by omega)]; exact h1 j hj
  · have hb2 : b < nb r := hb
    rw [up2_at, up2_at, up2_at, up2_at, if_neg (by omega), if_neg (by omega), if_neg (by omega), if_neg (by omega)]; exact h2 b hb
  · rw [up2_at, if_pos ⟨rfl, rfl⟩]; rfl
theorem MM.up {j : Nat} {w : Int32} {r' : Rm} (h : MM σ r) (hl : nl r' = nl r) (hb : nb r' = nb r) (hR : RM (up2 σ 1 j w) 0 r') : MM (up2 σ 1 j w) r' := ⟨by rw [up2_at, if_neg (by omega), hl]; exact h.1, by rw [up2_at, if_neg (by omega), hb]; exact h.2.1, hR⟩
theorem RV.setGu (v : RV r) (hx : x ≤ 99) : RV (setGu r i x) := ⟨v.1, v.2.1, v.2.2.1, fun j hj => by show (if j = i then x else gu r j) ≤ 99; split; exact hx; exact v.2.2.2.1 j hj, v.2.2.2.2⟩
theorem RV.setKd (v : RV r) (hx : x ≤ 3) : RV (setKd r i x) := ⟨v.1, v.2.1, v.2.2.1, v.2.2.2.1, fun b hb => ⟨by show (if b = i then x else kd r b) ≤ 3; split; exact hx; exact (v.2.2.2.2 b hb).1, (v.2.2.2.2 b hb).2⟩⟩
theorem RV.setHo (v : RV r) (hx : 1 ≤ x ∧ x ≤ 9) : RV (setHo r i x) := ⟨v.1, v.2.1, v.2.2.1, v.2.2.2.1, fun b hb => ⟨(v.2.2.2.2 b hb).1, by show 1 ≤ (if b = i then x else ho r b); split; exact hx.1; exact (v.2.2.2.2 b hb).2.1, by show (if b = i then x else ho r b) ≤ 9; split; exact hx.2; exact (v.2.2.2.2 b hb).2.2.1, (v.2.2.2.2 b hb).2.2.2⟩⟩
theorem RV.setSe (v : RV r) (hx : x ≤ 3) : RV (setSe r i x) := ⟨v.1, v.2.1, v.2.2.1, v.2.2.2.1, fun b hb => ⟨(v.2.2.2.2 b hb).1, (v.2.2.2.2 b hb).2.1, (v.2.2.2.2 b hb).2.2.1, by show (if b = i then x else se r b) ≤ 3; split; exact hx; exact (v.2.2.2.2 b hb).2.2.2.1, (v.2.2.2.2 b hb).2.2.2.2⟩⟩
theorem RV.setOw (v : RV r) (hx : x ≤ nl r) : RV (setOw r i x) := ⟨v.1, v.2.1, v.2.2.1, v.2.2.2.1, fun b hb => ⟨(v.2.2.2.2 b hb).1, (v.2.2.2.2 b hb).2.1, (v.2.2.2.2 b hb).2.2.1, (v.2.2.2.2 b hb).2.2.2.1, by show (if b = i then x else ow r b) ≤ nl r; split; exact hx; exact (v.2.2.2.2 b hb).2.2.2.2⟩⟩
theorem RV.setPr (v : RV r) (hx : x ≤ 9) : RV (setPr r x) := ⟨v.1, v.2.1, hx, v.2.2.2⟩
end ST
