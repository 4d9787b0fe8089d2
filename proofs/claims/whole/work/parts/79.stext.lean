-- the text: from call to answer
def rmE0 : Rm := (0, 0, 3, (fun _ => 0), (fun _ => 0), (fun _ => 0), (fun _ => 0), (fun _ => 0))
def TE (x y x' y' : Sg) : Prop := FX x x' ∧ FM y y' ∧ ((∃ r H, DR r H x' y' ∧ x' 31 2 = 0 ∧ y' 0 11 = 0 ∧ ∀ b, b < nb r → ow r b ≤ nl r) ∨ BK x' y')
theorem textE {tl : Nat} {B : Nat → Nat} {x y x1 y1 : Sg} (hx : TX tl B x) {l : Nat} (h : LE tl x y x1 y1) : ∃ x' y', fX1_tellAll_b116 x1 (nI l) = some (x', nI l) ∧ fX8_text_b81 y1 (nI l) = fX8_text_b105 y' (nI l) ∧ TE x y x' y' := by
  obtain ⟨h1, h2, h3⟩ := h
  rcases h3 with ⟨r, H, d, a1, a2, a3⟩ | ⟨hB, m, hm, h25⟩
  · obtain ⟨x', y', e1, e2, k1, k2, k3⟩ := ownersL (h1.T hx) d a1 a2 a3 (nI l)
    refine ⟨x', y', e1, e2, h1.tr k1.F, h2.tr k2.F, ?_⟩
    rcases k3 with ⟨rfl, rfl, ho⟩ | q
    · exact Or.inl ⟨r, H, d, a1, a2, ho⟩
    · exact Or.inr q
  · refine ⟨x1, y1, ?_, ?_, h1, h2, Or.inr hB⟩
    · unfold fX1_tellAll_b116 fX1_checkOwners
      rw [n0, chk_b hB.bx h25 hm m 2000 0 (by omega) (by omega), bnd]
    · unfold fX8_text_b81
      rw [if_neg hB.bm]
theorem textL {tl : Nat} {B : Nat → Nat} {x y : Sg} (hx : TX tl B x) (hy : TM tl B y) (h4 : y 4 = σM0 4) (h5 : y 5 = σM0 5) : ∃ x' y' l, fX1_tellAll x = some (x', nI l) ∧ fX8_text y = fX8_text_b105 y' (nI l) ∧ TE x y x' y' := by
  have ht := hx.1
  obtain ⟨xa, hxa⟩ : ∃ xa, xa = up2 (up2 (up2 (up2 (up2 (up2 (up2 x 25 0 0) 25 1 0) 25 2 3) 31 2 0) 31 3 0) 31 5 0) 31 8 0 := ⟨_, rfl⟩
  obtain ⟨ya, hya⟩ : ∃ ya, ya = up2 (up2 (up2 (up2 (up2 (up2 y 0 11 0) 0 13 0) 0 4 0) 0 5 0) 0 6 0) 0 7 (-1) := ⟨_, rfl⟩
  obtain ⟨yb, z1, z2, z3, z4⟩ := pageZ 0 29 2000 0 ya (by omega) (by omega)
  have ex : fX1_tellAll x = (fX1_advance xa).bind fun σ6 => fX1_tellAll_l33 2000 σ6 0 := by
    unfold fX1_tellAll fX2_empty
    rw [pfb, pfb, pfb, bnd, pfb, pfb, pfb, pz0, bnd, ← hxa]
  have em : fX8_text y = (fX8_step yb).bind fun σ1 => fX8_text_l57 2000 σ1 0 := by
    unfold fX8_text
    rw [pfb, pfb, pfb, pfb, pz0, bnd, pfb, ← hya]; exact z1
  have fx : FX x xa := by
    rw [hxa]
    exact ((((((FX.up (by omega)).tr (FX.up (by omega))).tr (FX.up (by omega))).tr (FX.up (by omega))).tr (FX.up (by omega))).tr (FX.up (by omega))).tr (FX.up (by omega))
  have fy : FM y yb := fun a b p q => by
    rw [z2 a p, hya, up2_at, if_neg (by omega), up2_at, if_neg (by omega), up2_at, if_neg (by omega), up2_at, if_neg (by omega), up2_at, if_neg (by omega), up2_at, if_neg (by omega)]
  have b0 : ∀ j, yb 0 j = ya 0 j := fun j => by rw [z2 0 (by omega)]
  have d0 : DR rmE0 0 xa yb := by
    refine ⟨⟨by decide, by decide, by decide, fun i hi => ?_, fun b hb => ?_⟩, ⟨by decide, fun b hb => ?_, Or.inl rfl⟩, ⟨?_, ?_, ?_, fun i hi => ?_, fun b hb => ?_⟩, ⟨fun i hi => ?_, fun b hb => ?_, fun b h1 h2 => z3 _ (by omega) (by omega), ?_⟩, ⟨?_, ?_, ?_⟩, ?_, ?_⟩
    · exact absurd hi (Nat.not_lt_zero _)
    · exact absurd hb (Nat.not_lt_zero _)
    · exact absurd hb (Nat.not_lt_zero _)
    · rw [hxa]; simp [up2_at]; rfl
    · rw [hxa]; simp [up2_at]; rfl
    · rw [hxa]; simp [up2_at]; rfl
    · exact absurd hi (Nat.not_lt_zero _)
    · exact absurd hb (Nat.not_lt_zero _)
    · exact absurd hi (Nat.not_lt_zero _)
    · exact absurd hb (Nat.not_lt_zero _)
    · rw [z3 28 (by omega) (by omega)]; decide
    · rw [b0, hya]; simp [up2_at]; rfl
    · rw [b0, hya]; simp [up2_at]; rfl
    · rw [b0, hya]; simp [up2_at]; decide
    · rw [b0, hya, hxa]; simp [up2_at]
    · rw [b0, hya]; simp [up2_at]
  obtain ⟨x1, y1, p1, p2, p3, p4, p5⟩ := adv (i := 0) (fx.T hx) (fy.T hy) (by rw [hxa]; simp [up2_at]) (by rw [b0, hya]; simp [up2_at]) (by rw [hxa]; simp [up2_at]; rfl) (by rw [b0, hya]; simp [up2_at]; rfl) (by omega)
  rw [ex, em, p1, p2, bnd, bnd]
  have k1 := fx.tr p3.F
  have k2 := fy.tr p4.F
  have d1 := d0.K p3 p4
  rcases p5 with ⟨s, e, t, q1, q2⟩ | hB
  · obtain ⟨x2, y2, l, r1, r2, r3, r4, r5⟩ := lines (tl := tl) (B := B) (tl + 1) 2000 2000 0 x1 y1 s e t rmE0 0 (by omega) (by omega) (by omega) (by omega) (k1.T hx) (k2.T hy) (by rw [← h4]; exact funext fun j => k2 _ _ (by omega) (by omega)) (by rw [← h5]; exact funext fun j => k2 _ _ (by omega) (by omega)) q2 d1
    obtain ⟨x', y', w1, w2, w3⟩ := textE (y := y) hx (l := l) (show LE tl x y x2 y2 from ⟨k1.tr r3, k2.tr r4, r5⟩)
    refine ⟨x', y', l, ?_, ?_, w3⟩
    · rw [n0, r1, w1]
    · rw [n0, r2, w2]
  · obtain ⟨x', y', w1, w2, w3⟩ := textE (y := y) hx (l := 0) (show LE tl x y x1 y1 from ⟨k1, k2, Or.inr ⟨hB, 0, by omega, d1.2.2.1.2.1⟩⟩)
    refine ⟨x', y', 0, ?_, ?_, w3⟩
    · rw [show 2000 = 1999 + 1 from rfl, fX1_tellAll_l33, if_neg hB.bx]; exact w1
    · rw [show 2000 = 1999 + 1 from rfl, fX8_text_l57, if_neg hB.bm]; exact w2
theorem bo0 : vp_nar .boolean 0 = 0 := by decide
theorem l61_e (σ : Sg) (v : Int32) : fX7_text_l61 2000 σ v 0 = some (up2 (up2 σ 43 0 0) 43 1 0, v) := by
  have h0 : wr σ 43 2 0 (vp_nar .boolean 0) = some (up2 σ 43 0 0) := by rw [bo0]; exact wrN (i := 0) (by omega) (by omega)
  have h1 : wr (up2 σ 43 0 0) 43 2 1 (vp_nar .boolean 0) = some (up2 (up2 σ 43 0 0) 43 1 0) := by rw [bo0]; exact wrN (i := 1) (by omega) (by omega)
  rw [show 2000 = 1997 + 1 + 1 + 1 from rfl, fX7_text_l61, if_neg (by decide), h0, bnd, show (0 : Int32) + 1 = 1 by decide, fX7_text_l61, if_neg (by decide), h1, bnd, show (1 : Int32) + 1 = 2 by decide, fX7_text_l61, if_pos (by decide)]
theorem last8_e (σ : Sg) (v : Int32) : last8 σ v = some (up2 (up2 (up2 (up2 (up2 σ 0 1 (σ 0 4)) 0 2 (σ 0 5)) 0 24 0) 10 0 0) 10 1 0, v) := by
  have h0 : ∀ τ : Sg, wr τ 10 2 0 (vp_nar .boolean 0) = some (up2 τ 10 0 0) := fun τ => by rw [bo0]; exact wrN (i := 0) (by omega) (by omega)
  have h1 : ∀ τ : Sg, wr τ 10 2 1 (vp_nar .boolean 0) = some (up2 τ 10 1 0) := fun τ => by rw [bo0]; exact wrN (i := 1) (by omega) (by omega)
  unfold last8
  rw [pfb, pfb, pfb, h0, bnd, h1, bnd, up2_at (a := 0) (b := 5), if_neg (by omega)]
theorem InvT.pick {x y : Sg} (h : InvT x y) : ∃ tl B, TX tl B x ∧ TM tl B y := by
  obtain ⟨tl, h1, h2, h3, h4⟩ := h
  refine ⟨tl, fun i => (x 33 i).toInt.toNat, ⟨h1, h2, fun i hi => ?_⟩, ⟨h1, h3, fun i hi => ?_⟩⟩
  · obtain ⟨c, c1, c2, c3⟩ := h4 i hi
    show (x 33 i).toInt.toNat < 128 ∧ x 33 i = nI ((x 33 i).toInt.toNat)
    rw [c2, nI_toInt (by omega)]
    exact ⟨by omega, rfl⟩
  · obtain ⟨c, c1, c2, c3⟩ := h4 i hi
    show (x 33 i).toInt.toNat < 128 ∧ y 3 i = nI ((x 33 i).toInt.toNat)
    rw [c2, c3, nI_toInt (by omega)]
    exact ⟨by omega, rfl⟩
theorem S_text (x y : Sg) (h : Inv x y) : StI Inv (oX7_text x) (oX8_text y) := by
  obtain ⟨r0, ⟨v0, hX, hM⟩, hI, hT, hS, hH, hE⟩ := id h
  obtain ⟨tl, B, tx, tm⟩ := hT.pick
  obtain ⟨x1, y1, l, e1, e2, f1, f2, f3⟩ := textL tx tm hE.2.2.1 hE.2.2.2
  unfold oX7_text oX8_text fX7_text
  rw [e1, e2, bnd]
  dsimp only
  unfold fX8_text_b105
  rw [pfb, pfb, pfb]
  obtain ⟨x2, hx2⟩ : ∃ x2, x2 = up2 x1 32 1 0 := ⟨_, rfl⟩
  obtain ⟨y2, hy2⟩ : ∃ y2, y2 = up2 (up2 y1 0 9 0) 0 10 (up2 y1 0 9 0 0 11) := ⟨_, rfl⟩
  rw [← hx2, ← hy2]
  have gx : ∀ a b, ¬ (25 ≤ a ∧ a ≤ 32) → x2 a b = x a b := fun a b p => by rw [hx2, up2_at, if_neg (by omega), f1 a b (by omega)]
  have gx1 : ∀ b, x2 31 b = x1 31 b := fun b => by rw [hx2, up2_row (by omega)]
  have gy : ∀ a b, ¬ a = 2 → ¬ (a = 0 ∧ ((4 ≤ b ∧ b ≤ 7) ∨ (9 ≤ b ∧ b ≤ 16))) → y2 a b = y a b := fun a b p q => by rw [hy2, up2_at, if_neg (by omega), up2_at, if_neg (by omega), f2 a b p (by omega)]
  have gy1 : ∀ b, b ≠ 9 → b ≠ 10 → y2 0 b = y1 0 b := fun b p q => by rw [hy2, up2_at, if_neg (by omega), up2_at, if_neg (by omega)]
  have gx33 : x2 32 1 = nI 0 := by rw [hx2, up2_at, if_pos ⟨rfl, rfl⟩]; rfl
  have gy9 : y2 0 9 = nI 0 := by rw [hy2, up2_at, if_neg (by omega), up2_at, if_pos ⟨rfl, rfl⟩]; rfl
  have gy10 : y2 0 10 = y1 0 11 := by rw [hy2, up2_at, if_pos ⟨rfl, rfl⟩, up2_at, if_neg (by omega)]
  rw [gx1, gx1, gy1 11 (by omega) (by omega), gy1 12 (by omega) (by omega)]
  rcases f3 with ⟨r, H, d, a1, a2, ho⟩ | hB
  · rw [if_pos a1, if_pos (le00 a2)]
    have hw := d.1
    have hl := hw.1
    have hb := hw.2.1
    have v : RV r := ⟨hw.1, hw.2.1, hw.2.2.1, hw.2.2.2.1, fun b hb => ⟨(hw.2.2.2.2 b hb).1, (hw.2.2.2.2 b hb).2.1, (hw.2.2.2.2 b hb).2.2.1, (hw.2.2.2.2 b hb).2.2.2.1, ho b hb⟩⟩
    have hr : RX x2 25 r := d.2.2.1.cg (fun c _ _ => by rw [hx2, up2_row (by omega)])
    obtain ⟨x3, c1, c2, c3⟩ := eX_copy x2 1 25 (by omega) v hr
    obtain ⟨y3, p1, p2, p3, p4⟩ := pageC (nI l) 29 2000 0 y2 (by omega) (by omega)
    have p1' : fX8_text_l135 2000 y2 (nI l) 0 = last8 y3 (nI l) := p1
    rw [c1, bnd, pfb, l61_e, p1', last8_e]
    have hP := d.2.2.2.1
    have y2p : ∀ j, y2 2 j = y1 2 j := fun j => by rw [hy2, up2_row (by omega), up2_row (by omega)]
    have y30 : ∀ j, y3 0 j = y2 0 j := fun j => by rw [p2 0 (by omega)]
    refine ⟨_, _, _, rfl, rfl, r, ⟨v, ?_, ?_, ?_, ?_⟩, ?_, ?_, ?_, ?_, ?_, ?_, ?_, ?_⟩
    · exact c3.cg (fun c _ _ => by rw [up2_row (by omega), up2_row (by omega), up2_row (by omega)])
    · simp [up2_at]; rw [y30, gy1 4 (by omega) (by omega)]; exact d.2.2.2.2.1.1
    · simp [up2_at]; rw [y30, gy1 5 (by omega) (by omega)]; exact d.2.2.2.2.1.2.1
    · have q1 : ∀ j, j < 29 → up2 (up2 (up2 (up2 (up2 y3 0 1 (y3 0 4)) 0 2 (y3 0 5)) 0 24 0) 10 0 0) 10 1 0 1 j = y1 2 j := fun j hj => by
        rw [up2_row (by omega), up2_row (by omega), up2_row (by omega), up2_row (by omega), up2_row (by omega), p3 j (by omega) hj, y2p]
      refine ⟨fun i hi => ?_, fun b hb2 => ?_, ?_⟩
      · rw [Nat.zero_add, q1 i (by omega)]; exact hP.1 i hi
      · rw [Nat.zero_add, Nat.zero_add, Nat.zero_add, Nat.zero_add, q1 (4 + b) (by omega), q1 (10 + b) (by omega), q1 (16 + b) (by omega), q1 (22 + b) (by omega)]; exact hP.2.1 b hb2
      · rw [Nat.zero_add, q1 28 (by omega)]; exact hP.2.2.2
    · intro k hk
      rcases (show k = 0 ∨ k = 1 by omega) with rfl | rfl
      · exact Or.inl ⟨by simp [up2_at], by simp [up2_at]⟩
      · exact Or.inl ⟨by simp [up2_at], by simp [up2_at]⟩
    · refine ⟨0, by omega, ?_, ?_, fun i hi => by omega⟩
      · rw [up2_row (by omega), up2_row (by omega), up2_row (by omega), c2 32 (by omega)]; exact gx33
      · rw [up2_row (by omega), up2_row (by omega), up2_at, if_neg (by omega), up2_at, if_neg (by omega), up2_at, if_neg (by omega), y30]; exact gy9
    · refine ⟨0, by omega, ?_, ?_, fun i hi => by omega⟩
      · simp [up2_at]; rfl
      · simp [up2_at]; rfl
    · exact hH.tr (fun c _ _ => by rw [up2_row (by omega), up2_row (by omega), up2_row (by omega), c2 c (by omega)]; exact funext fun j => gx c j (by omega)) (fun c hc => by rw [up2_row (by omega), up2_row (by omega), up2_row (by omega), up2_row (by omega), up2_row (by omega), p2 c (by omega)]; exact funext fun j => gy c j (by omega) (by omega))
    · rw [up2_row (by omega), up2_row (by omega), up2_row (by omega), c2 31 (by omega), gx1, up2_row (by omega), up2_row (by omega), up2_at, if_neg (by omega), up2_at, if_neg (by omega), up2_at, if_neg (by omega), y30, gy10, a1, a2]
    · rw [up2_row (by omega), up2_row (by omega), up2_row (by omega), c2 0 (by omega), gx _ _ (by omega), up2_row (by omega), up2_row (by omega), up2_at, if_neg (by omega), up2_at, if_neg (by omega), up2_at, if_neg (by omega), y30, gy _ _ (by omega) (by omega)]; exact hE.2.1
    · rw [up2_row (by omega), up2_row (by omega), up2_row (by omega), up2_row (by omega), up2_row (by omega), p2 4 (by omega), ← hE.2.2.1]; exact funext fun j => gy _ _ (by omega) (by omega)
    · rw [up2_row (by omega), up2_row (by omega), up2_row (by omega), up2_row (by omega), up2_row (by omega), p2 5 (by omega), ← hE.2.2.2]; exact funext fun j => gy _ _ (by omega) (by omega)
  · rw [if_neg hB.bx, if_neg hB.yl]
    obtain ⟨f, g1, g2, g3, g4, g5⟩ := hB
    rw [g5]
    refine ⟨_, _, _, rfl, rfl, r0, ⟨v0, ?_, ?_, ?_, ?_⟩, ?_, ?_, ?_, ?_, ?_, ?_, ?_, ?_⟩
    · exact hX.cg (fun c _ _ => funext fun j => gx c j (by omega))
    · rw [gy _ _ (by omega) (by omega)]; exact hM.1
    · rw [gy _ _ (by omega) (by omega)]; exact hM.2.1
    · exact RM.cg v0 hM.2.2 (fun j _ _ => gy _ _ (by omega) (by omega))
    · exact hI.tr rfl rfl (fun c hc => funext fun j => gx c j (by omega)) (funext fun j => gy _ _ (by omega) (by omega)) (fun j _ _ => gy _ _ (by omega) (by omega))
    · exact ⟨0, by omega, gx33, gy9, fun i hi => by omega⟩
    · exact hS.tr rfl (fun c hc => funext fun j => gx c j (by omega)) (funext fun j => gy _ _ (by omega) (by omega)) (gy _ _ (by omega) (by omega))
    · exact hH.tr (fun c _ _ => funext fun j => gx c j (by omega)) (fun c hc => funext fun j => gy c j (by omega) (by omega))
    · rw [gx1, gy10, g3, g4]
    · rw [gx _ _ (by omega), gy _ _ (by omega) (by omega)]; exact hE.2.1
    · rw [← hE.2.2.1]; exact funext fun j => gy _ _ (by omega) (by omega)
    · rw [← hE.2.2.2]; exact funext fun j => gy _ _ (by omega) (by omega)
