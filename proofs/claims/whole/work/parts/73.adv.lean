-- the text: a token read by both sides
def KX (x x' : Sg) : Prop := ∀ a b, ¬ (a = 31 ∧ 2 ≤ b ∧ b ≤ 7) → x' a b = x a b
def KM (y y' : Sg) : Prop := ∀ a b, ¬ (a = 0 ∧ 11 ≤ b ∧ b ≤ 16) → y' a b = y a b
def TK (tl : Nat) (x y : Sg) (s e t : Nat) : Prop := (x 31 2 = 0 ∧ y 0 11 = 0) ∧ (x 31 4 = nI s ∧ y 0 14 = nI s) ∧ (x 31 5 = nI e ∧ y 0 13 = nI e) ∧ (x 31 6 = nI t ∧ y 0 15 = nI t) ∧ (s ≤ e ∧ e ≤ tl ∧ t ≤ 3 ∧ (t = 0 → s = tl) ∧ (t ≠ 0 → s < e)) ∧ (t = 2 → ∃ v, v ≤ 99 ∧ x 31 7 = nI v ∧ y 0 16 = nI v)
def BK (x y : Sg) : Prop := ∃ f, 0 < f ∧ f ≤ 6 ∧ x 31 2 = nI f ∧ y 0 11 = nI f ∧ x 31 3 = y 0 12
theorem KX.rf (x : Sg) : KX x x := fun _ _ _ => rfl
theorem KM.rf (y : Sg) : KM y y := fun _ _ _ => rfl
theorem KX.tr {a b c : Sg} (h : KX a b) (g : KX b c) : KX a c := fun p q k => (g p q k).trans (h p q k)
theorem KM.tr {a b c : Sg} (h : KM a b) (g : KM b c) : KM a c := fun p q k => (g p q k).trans (h p q k)
theorem KX.up {σ : Sg} {j : Nat} {v : Int32} (h : 2 ≤ j ∧ j ≤ 7) : KX σ (up2 σ 31 j v) := fun a b hab => by rw [up2_at, if_neg (by omega)]
theorem KM.up {σ : Sg} {j : Nat} {v : Int32} (h : 11 ≤ j ∧ j ≤ 16) : KM σ (up2 σ 0 j v) := fun a b hab => by rw [up2_at, if_neg (by omega)]
theorem KX.T {tl : Nat} {B : Nat → Nat} {x x' : Sg} (k : KX x x') (h : TX tl B x) : TX tl B x' := h.fr (k _ _ (by omega)) (fun j => k _ _ (by omega))
theorem KM.T {tl : Nat} {B : Nat → Nat} {y y' : Sg} (k : KM y y') (h : TM tl B y) : TM tl B y' := h.fr (k _ _ (by omega)) (fun j => k _ _ (by omega))
theorem refX {x : Sg} (h : x 31 2 = 0) (f p : Int32) : fX1_refuse x f p = some (up2 (up2 x 31 2 f) 31 3 p) := by
  unfold fX1_refuse
  rw [if_pos h, pfb, pfb]
theorem failM {y : Sg} (h : y 0 11 = 0) (f : Int32) : fX8_fails y f = some (up2 (up2 y 0 11 f) 0 12 (y 0 14)) := by
  unfold fX8_fails
  rw [if_pos h, pfb, pfb, up2_at (a := 0) (b := 14), if_neg (by omega)]
theorem BK.of {x y : Sg} {f : Nat} {p : Int32} (h1 : 0 < f) (h6 : f ≤ 6) (hp : p = y 0 14) : BK (up2 (up2 x 31 2 (nI f)) 31 3 p) (up2 (up2 y 0 11 (nI f)) 0 12 (y 0 14)) :=
  ⟨f, h1, h6, by rw [up2_at, if_neg (by omega), up2_at, if_pos ⟨rfl, rfl⟩], by rw [up2_at, if_neg (by omega), up2_at, if_pos ⟨rfl, rfl⟩], by rw [up2_at, if_pos ⟨rfl, rfl⟩, up2_at, if_pos ⟨rfl, rfl⟩, hp]⟩
theorem KX.rfs {x : Sg} {f p : Int32} : KX x (up2 (up2 x 31 2 f) 31 3 p) := (KX.up (by omega)).tr (KX.up (by omega))
theorem KM.rfs {y : Sg} {f p : Int32} : KM y (up2 (up2 y 0 11 f) 0 12 p) := (KM.up (by omega)).tr (KM.up (by omega))
def tokX (σ1 : Sg) : Option Sg := (fX5_at σ1 (σ1 31 4)).bind fun t2 => if (σ1 31 4) < (σ1 32 1) then (fX1_isLetter t2).bind fun t3 => if t3 = 0 then (fX1_isFigure t2).bind fun t4 => if t4 = 0 then if t2 = (59 : Int32) then (pf σ1 31 6 (3 : Int32)).bind fun σ7 => some σ7 else (pf σ1 31 6 (4 : Int32)).bind fun σ5 => (fX1_refuse σ5 (1 : Int32) (σ5 31 4)).bind fun σ6 => some σ6 else (fX1_readNumber σ1).bind fun σ8 => some σ8 else (pf σ1 31 6 (1 : Int32)).bind fun σ9 => (fX1_endOfLetters σ9 (σ9 31 4)).bind fun t10 => (pf σ9 31 5 t10).bind fun σ11 => some σ11 else (pf σ1 31 6 (0 : Int32)).bind fun σ12 => (pf σ12 31 5 (σ12 31 4)).bind fun σ13 => some σ13
theorem adv_b59 (σ : Sg) : fX1_advance_b59 σ = tokX (up2 σ 31 5 ((σ 31 4) + 1)) := rfl
theorem adv {tl : Nat} {B : Nat → Nat} {x y : Sg} {i : Nat} (hx : TX tl B x) (hy : TM tl B y) (bx : x 31 2 = 0) (bm : y 0 11 = 0) (ex : x 31 5 = nI i) (ey : y 0 13 = nI i) (hi : i ≤ tl) : ∃ x' y', fX1_advance x = some x' ∧ fX8_step y = some y' ∧ KX x x' ∧ KM y y' ∧ ((∃ s e t, i ≤ s ∧ TK tl x' y' s e t) ∨ BK x' y') := by
  have ht := hx.1
  obtain ⟨s, hs⟩ : ∃ s, s = rn (fun j => isB (B j)) (tl - i) i := ⟨_, rfl⟩
  have hs1 : i ≤ s := by rw [hs]; exact rn_ge _ _ _
  have hs2 : s ≤ tl := by
    have := rn_le (fun j => isB (B j)) (tl - i) i
    rw [← hs] at this; omega
  have h4 : TX tl B (up2 x 31 4 (x 31 5)) := (KX.up (by omega)).T hx
  obtain ⟨x1, e1, e2, e3⟩ := blX (tl - i) 2000 i (up2 x 31 4 (x 31 5)) (by omega) (by omega) h4 (by rw [up2_at, if_pos ⟨rfl, rfl⟩, ex])
  rw [← hs] at e2
  obtain ⟨x2, hx2⟩ : ∃ x2, x2 = up2 x1 31 5 (nI (s + 1)) := ⟨_, rfl⟩
  have e0 : fX1_advance x = tokX x2 := by
    unfold fX1_advance
    rw [if_pos bx, pfb, e1, adv_b59, e2, nI_1, ← hx2]
  have k2 : ∀ a b, ¬ (a = 31 ∧ (b = 4 ∨ b = 5)) → x2 a b = x a b := fun a b h => by rw [hx2, up2_at, if_neg (by omega), e3 a b (by omega), up2_at, if_neg (by omega)]
  have K2 : KX x x2 := fun a b h => k2 a b (by omega)
  have x24 : x2 31 4 = nI s := by rw [hx2, up2_at, if_neg (by omega), e2]
  have x25 : x2 31 5 = nI (s + 1) := by rw [hx2, up2_at, if_pos ⟨rfl, rfl⟩]
  have hxx : TX tl B x2 := K2.T hx
  have x22 : x2 31 2 = 0 := by rw [k2 _ _ (by omega), bx]
  obtain ⟨y1, f1, f2, f3⟩ := blM (tl - i) 2000 i y (by omega) (by omega) hy ey
  rw [← hs] at f2
  obtain ⟨y4, hy4⟩ : ∃ y4, y4 = up2 (up2 y1 0 14 (nI s)) 0 16 0 := ⟨_, rfl⟩
  have l4 : ∀ a b, ¬ (a = 0 ∧ (b = 13 ∨ b = 14 ∨ b = 16)) → y4 a b = y a b := fun a b h => by rw [hy4, up2_at, if_neg (by omega), up2_at, if_neg (by omega), f3 a b (by omega)]
  have K4 : KM y y4 := fun a b h => l4 a b (by omega)
  have y413 : y4 0 13 = nI s := by rw [hy4, up2_at, if_neg (by omega), up2_at, if_neg (by omega), f2]
  have y414 : y4 0 14 = nI s := by rw [hy4, up2_at, if_neg (by omega), up2_at, if_pos ⟨rfl, rfl⟩]
  have y416 : y4 0 16 = nI 0 := by rw [hy4, up2_at, if_pos ⟨rfl, rfl⟩]; rfl
  have y411 : y4 0 11 = 0 := by rw [l4 _ _ (by omega), bm]
  have hyy : TM tl B y4 := K4.T hy
  have h2y : TM tl B (up2 y1 0 14 (nI s)) := hy.fr (by rw [up2_at, if_neg (by omega), f3 _ _ (by omega)]) (fun j => by rw [up2_at, if_neg (by omega), f3 _ _ (by omega)])
  have h213 : up2 y1 0 14 (nI s) 0 13 = nI s := by rw [up2_at, if_neg (by omega), f2]
  have f0 : ∀ t3, fX8_byteAt (up2 y1 0 14 (nI s)) (nI s) = some t3 → fX8_step y = tok8 y4 t3 := by
    intro t3 ht3
    unfold fX8_step
    rw [if_pos (by rw [bm]; decide), f1, f2]
    unfold rest8
    rw [h213, ht3, bnd, ← hy4]
  rw [e0]
  by_cases hst : s = tl
  · rw [f0 _ (byM0 h2y (by omega) (by omega))]
    refine ⟨up2 (up2 x2 31 6 0) 31 5 (nI s), up2 y4 0 15 0, ?_, ?_, K2.tr ((KX.up (by omega)).tr (KX.up (by omega))), K4.tr (KM.up (by omega)), Or.inl ⟨s, s, 0, hs1, ⟨?_, ?_⟩, ⟨?_, ?_⟩, ⟨?_, ?_⟩, ⟨?_, ?_⟩, by omega, fun h => by omega⟩⟩
    · unfold tokX
      rw [x24, hxx.2.1, atX0 hxx (by omega) (by omega), bnd, if_neg (nI_nlt (by omega) (by omega)), pfb, pfb, up2_at (a := 31) (b := 4), if_neg (by omega), x24]
    · unfold tok8
      rw [if_pos rfl, pfb]
    · simp [up2_at, x22]
    · simp [up2_at, y411]
    · simp [up2_at, x24]
    · simp [up2_at, y414]
    · simp [up2_at]
    · simp [up2_at, y413]
    · simp [up2_at]; rfl
    · simp [up2_at]; rfl
  have hsl : s < tl := by omega
  have hc := (hx.2.2 s hsl).1
  rw [f0 _ (byM h2y hsl)]
  have eX : tokX x2 = (fX1_isLetter (nI (B s))).bind fun t3 => if t3 = 0 then (fX1_isFigure (nI (B s))).bind fun t4 => if t4 = 0 then if nI (B s) = (59 : Int32) then (pf x2 31 6 (3 : Int32)).bind fun σ7 => some σ7 else (pf x2 31 6 (4 : Int32)).bind fun σ5 => (fX1_refuse σ5 (1 : Int32) (σ5 31 4)).bind fun σ6 => some σ6 else (fX1_readNumber x2).bind fun σ8 => some σ8 else (pf x2 31 6 (1 : Int32)).bind fun σ9 => (fX1_endOfLetters σ9 (σ9 31 4)).bind fun t10 => (pf σ9 31 5 t10).bind fun σ11 => some σ11 := by
    have ha : fX5_at x2 (x2 31 4) = some (nI (B s)) := by rw [x24]; exact atX hxx hsl
    unfold tokX
    rw [ha, bnd, if_pos (by rw [x24, hxx.2.1]; exact nI_lt hsl (by omega))]
  have eM : tok8 y4 (nI (B s)) = (fX8_in (nI (B s)).toInt64 (97 : Int64) (122 : Int64)).bind fun t5 => if t5 = 0 then (fX8_in (nI (B s)).toInt64 (48 : Int64) (57 : Int64)).bind fun t6 => if t6 = 0 then (pf y4 0 15 (3 : Int32)).bind fun σ7 => (pf σ7 0 13 ((σ7 0 13) + (1 : Int32))).bind fun σ8 => if nI (B s) = (59 : Int32) then some σ8 else (fX8_fails σ8 (1 : Int32)).bind fun σ9 => some σ9 else fX8_step_l140 2000 y4 else fX8_step_l84 2000 y4 := by
    unfold tok8
    rw [if_neg (chr4 _ hc)]
  rw [eX, eM, letX _ hc, letM _ hc, bnd, bnd]
  by_cases hL : isL (B s) = true
  · rw [if_pos hL, if_neg (by decide), if_neg (by decide)]
    obtain ⟨y5, g1, g2, g3, g4⟩ := letsM (tl - s) 2000 s y4 (by omega) (by omega) hyy y413
    obtain ⟨e, he⟩ : ∃ e, e = rn (fun j => isL (B j)) (tl - s) s := ⟨_, rfl⟩
    have he1 : s < e := by rw [he]; exact rn_gt _ (by omega) hL
    have he2 : e ≤ tl := by
      have := rn_le (fun j => isL (B j)) (tl - s) s
      rw [← he] at this; omega
    rw [← he] at g2
    refine ⟨up2 (up2 x2 31 6 1) 31 5 (nI e), y5, ?_, g1, K2.tr ((KX.up (by omega)).tr (KX.up (by omega))), K4.tr (fun a b h => g4 a b (by omega)), Or.inl ⟨s, e, 1, hs1, ⟨?_, ?_⟩, ⟨?_, ?_⟩, ⟨?_, ?_⟩, ⟨?_, ?_⟩, by omega, fun h => by omega⟩⟩
    · rw [pfb, up2_at (a := 31) (b := 4), if_neg (by omega), x24]
      unfold fX1_endOfLetters
      rw [endX (B := B) (tl := tl) ((KX.up (by omega)).T hxx) _ (tl - s) 2000 s (by omega) (by omega), bnd, pfb, ← he]
    · simp [up2_at, x22]
    · rw [g4 _ _ (by omega), y411]
    · simp [up2_at, x24]
    · rw [g4 _ _ (by omega), y414]
    · simp [up2_at]
    · exact g2
    · simp [up2_at]; rfl
    · rw [g3]; rfl
  rw [if_neg hL, if_pos rfl, if_pos rfl, figX _ hc, figM _ hc, bnd, bnd]
  by_cases hF : isF (B s) = true
  · rw [if_pos hF, if_neg (by decide), if_neg (by decide)]
    obtain ⟨y5, g1, g2, g3, g4⟩ := numsM (B := B) (tl := tl) (s := s) (tl - s) 2000 0 y4 (by omega) (by omega) hyy y414 y413 y416
    obtain ⟨x3, hx3⟩ : ∃ x3, x3 = up2 (up2 (up2 x2 31 6 2) 31 7 0) 31 5 (nI s) := ⟨_, rfl⟩
    have K3 : KX x2 x3 := by rw [hx3]; exact ((KX.up (by omega)).tr (KX.up (by omega))).tr (KX.up (by omega))
    have x34 : x3 31 4 = nI s := by rw [hx3]; simp [up2_at, x24]
    have x32 : x3 31 2 = 0 := by rw [hx3]; simp [up2_at, x22]
    have x36 : x3 31 6 = nI 2 := by rw [hx3]; simp [up2_at]; rfl
    obtain ⟨x5, p1, p2, p3, p4⟩ := numsX (B := B) (tl := tl) (s := s) (tl - s) 2000 0 x3 (by omega) (by omega) (K3.T hxx) x34 (by rw [hx3]; simp [up2_at]) (by rw [hx3]; simp [up2_at]; rfl)
    rw [Nat.add_zero] at g2 g3 p2 p3
    obtain ⟨e, he⟩ : ∃ e, e = rn (fun j => isF (B j)) (tl - s) s := ⟨_, rfl⟩
    have he1 : s < e := by rw [he]; exact rn_gt _ (by omega) hF
    have he2 : e ≤ tl := by
      have := rn_le (fun j => isF (B j)) (tl - s) s
      rw [← he] at this; omega
    rw [← he] at g2 g3 p2 p3
    have eN : fX1_readNumber x2 = fX1_readNumber_b108 x5 := by
      unfold fX1_readNumber
      rw [pfb, pfb, pfb, up2_at (a := 31) (b := 4), if_neg (by omega), up2_at (a := 31) (b := 4), if_neg (by omega), x24, ← hx3]; exact p1
    have x54 : x5 31 4 = nI s := by rw [p4 _ _ (by omega), x34]
    have x52 : x5 31 2 = 0 := by rw [p4 _ _ (by omega), x32]
    have x56 : x5 31 6 = nI 2 := by rw [p4 _ _ (by omega), x36]
    have K5 : KX x x5 := (K2.tr K3).tr (fun a b h => p4 a b (by omega))
    have y511 : y5 0 11 = 0 := by rw [g4 _ _ (by omega), y411]
    have y514 : y5 0 14 = nI s := by rw [g4 _ _ (by omega), y414]
    have M5 : KM y y5 := K4.tr (fun a b h => g4 a b (by omega))
    rw [eN, g1]
    unfold fX1_readNumber_b108 fin8
    have dX : x5 31 5 - x5 31 4 = nI (e - s) := by rw [p2, x54, pk_sub (by omega)]
    have dM : up2 y5 0 15 2 0 13 - up2 y5 0 15 2 0 14 = nI (e - s) := by rw [up2_at, if_neg (by omega), up2_at, if_neg (by omega), g2, y514, pk_sub (by omega)]
    rw [dX, pfb, pfb, dM]
    by_cases hd : e - s ≤ 2
    · rw [if_pos (show nI (e - s) ≤ (2 : Int32) from nI_le (b := 2) hd (by omega)), if_pos (show nI (e - s) ≤ (2 : Int32) from nI_le (b := 2) hd (by omega)), bnd]
      refine ⟨x5, _, rfl, rfl, K5, M5.tr (KM.up (by omega)), Or.inl ⟨s, e, 2, hs1, ⟨x52, ?_⟩, ⟨x54, ?_⟩, ⟨p2, ?_⟩, ⟨x56, ?_⟩, by omega, fun _ => ⟨nv B s (e - s), ?_, p3, ?_⟩⟩⟩
      · simp [up2_at, y511]
      · simp [up2_at, y514]
      · simp [up2_at, g2]
      · simp [up2_at]; rfl
      · exact nv_le hd (fun j h1 h2 => rn_all (fun j => isF (B j)) (tl - s) s j h1 (by rw [← he]; omega))
      · simp [up2_at, g3]
    · rw [if_neg (show ¬ nI (e - s) ≤ (2 : Int32) from nI_ge (a := 2) (by omega) (by omega)), if_neg (show ¬ nI (e - s) ≤ (2 : Int32) from nI_ge (a := 2) (by omega) (by omega)), refX (by simp [up2_at, x52]), bnd, bnd, failM (by simp [up2_at, y511]), bnd]
      exact ⟨_, _, rfl, rfl, (K5.tr (KX.up (by omega))).tr KX.rfs, (M5.tr (KM.up (by omega))).tr KM.rfs, Or.inr (BK.of (f := 1) (by omega) (by omega) (by simp [up2_at, x54, y514]))⟩
  rw [if_neg hF, if_pos rfl, if_pos rfl]
  by_cases h9 : B s = 59
  · rw [if_pos ((semC _ hc).mpr h9), pfb, pfb, pfb, if_pos ((semC _ hc).mpr h9)]
    refine ⟨_, _, rfl, rfl, K2.tr (KX.up (by omega)), K4.tr ((KM.up (by omega)).tr (KM.up (by omega))), Or.inl ⟨s, s + 1, 3, hs1, ⟨?_, ?_⟩, ⟨?_, ?_⟩, ⟨?_, ?_⟩, ⟨?_, ?_⟩, by omega, fun h => by omega⟩⟩
    · simp [up2_at, x22]
    · simp [up2_at, y411]
    · simp [up2_at, x24]
    · simp [up2_at, y414]
    · simp [up2_at, x25]
    · simp [up2_at, y413, nI_1]
    · simp [up2_at]; rfl
    · simp [up2_at]; rfl
  · rw [if_neg (fun q => h9 ((semC _ hc).mp q)), pfb, pfb, pfb, if_neg (fun q => h9 ((semC _ hc).mp q)), refX (by simp [up2_at, x22]), bnd, failM (by simp [up2_at, y411]), bnd]
    exact ⟨_, _, rfl, rfl, (K2.tr (KX.up (by omega))).tr KX.rfs, (K4.tr ((KM.up (by omega)).tr (KM.up (by omega)))).tr KM.rfs, Or.inr (BK.of (f := 1) (by omega) (by omega) (by simp [up2_at, x24, y414]))⟩
-- broken: nothing is read
section BRK
variable {x y : Sg}
theorem BK.bx (h : BK x y) : ¬ x 31 2 = 0 := by
  obtain ⟨f, h1, h2, h3, -⟩ := h
  rw [h3]; exact nI_ne0 h1 (by omega)
theorem BK.bm (h : BK x y) : ¬ y 0 11 = 0 := by
  obtain ⟨f, h1, h2, h3, h4, -⟩ := h
  rw [h4]; exact nI_ne0 h1 (by omega)
theorem BK.yl (h : BK x y) : ¬ y 0 11 ≤ 0 := by
  obtain ⟨f, h1, h2, h3, h4, -⟩ := h
  rw [h4]; exact nI_nle h1 (by omega)
theorem BK.cg {x' y' : Sg} (h : BK x y) (e1 : x' 31 2 = x 31 2) (e2 : x' 31 3 = x 31 3) (e3 : y' 0 11 = y 0 11) (e4 : y' 0 12 = y 0 12) : BK x' y' := by
  obtain ⟨f, h1, h2, h3, h4, h5⟩ := h
  exact ⟨f, h1, h2, by rw [e1, h3], by rw [e3, h4], by rw [e2, e4, h5]⟩
theorem advX_b (h : ¬ x 31 2 = 0) : fX1_advance x = some x := by unfold fX1_advance; rw [if_neg h]
theorem refX_b (h : ¬ x 31 2 = 0) (f p : Int32) : fX1_refuse x f p = some x := by unfold fX1_refuse; rw [if_neg h]
theorem stopX_b (h : ¬ x 31 2 = 0) : fX1_stop x = some x := by
  unfold fX1_stop
  rw [refX_b h, bnd]
  split <;> rfl
theorem numX_b (h : ¬ x 31 2 = 0) (lo hi : Int32) : fX1_number x lo hi = some (x, x 31 7) := by
  unfold fX1_number fX1_number_b41 fX7_within
  rw [refX_b h, refX_b h]
  simp only [bnd, advX_b h]
  split
  · split
    · rfl
    · split <;> rfl
  · rfl
theorem stepM_b (h : ¬ y 0 11 ≤ 0) : fX8_step y = some y := by unfold fX8_step; rw [if_neg h]
theorem failM_b (h : ¬ y 0 11 = 0) (f : Int32) : fX8_fails y f = some y := by unfold fX8_fails; rw [if_neg h]
theorem numM_b (h : ¬ y 0 11 = 0) (h2 : ¬ y 0 11 ≤ 0) (lo hi : Int32) : fX8_number y lo hi = some (y, lo) := by
  unfold fX8_number fX8_number_b20 fX8_number_b47 fX8_number_b62
  rw [if_neg h, if_neg h, if_neg h, stepM_b h2, bnd]
end BRK
/-- a number taken by both sides -/
theorem numb {tl : Nat} {B : Nat → Nat} {x y : Sg} {s e t : Nat} (hx : TX tl B x) (hy : TM tl B y) (h : TK tl x y s e t) (lo hi : Nat) (hlo : lo ≤ 99) (hhi : hi ≤ 99) : ∃ x' y' w1 w2, fX1_number x (nI lo) (nI hi) = some (x', w1) ∧ fX8_number y (nI lo) (nI hi) = some (y', w2) ∧ KX x x' ∧ KM y y' ∧ ((t = 2 ∧ ∃ s' e' t' v, e ≤ s' ∧ TK tl x' y' s' e' t' ∧ w1 = nI v ∧ w2 = nI v ∧ lo ≤ v ∧ v ≤ hi) ∨ BK x' y') := by
  obtain ⟨⟨a1, a2⟩, ⟨b1, b2⟩, ⟨c1, c2⟩, ⟨d1, d2⟩, ⟨g1, g2, g3, g4, g5⟩, g6⟩ := h
  have ht := hx.1
  unfold fX1_number fX8_number
  rw [d1, d2, if_pos a2, b1]
  by_cases h2 : t = 2
  · subst h2
    obtain ⟨v, v1, v2, v3⟩ := g6 rfl
    rw [if_pos (show nI 2 = (2 : Int32) from rfl), if_pos (show nI 2 = (2 : Int32) from rfl)]
    unfold fX8_number_b20
    rw [if_pos a2, v2, v3]
    have t1 : (nI lo).toInt = (lo : Int) := nI_toInt (by omega)
    have t2 : (nI hi).toInt = (hi : Int) := nI_toInt (by omega)
    have t3 : (nI v).toInt = (v : Int) := nI_toInt (by omega)
    by_cases ho : out (nI v) lo hi
    · rw [(wiI _ _ _ lo hi t1 t2).1 ho, (inI _ _ _ lo hi (by rw [ti64]; exact t1) (by rw [ti64]; exact t2)).1 ho, bnd, bnd, i0, i0, refX a1, failM a2, bnd, bnd]
      have hB : BK (up2 (up2 x 31 2 (nI 3)) 31 3 (nI s)) (up2 (up2 y 0 11 (nI 3)) 0 12 (y 0 14)) := BK.of (by omega) (by omega) b2.symm
      unfold fX1_number_b41 fX8_number_b47 fX8_number_b62
      rw [show (3 : Int32) = nI 3 from rfl, advX_b hB.bx, bnd, if_neg hB.bm, stepM_b hB.yl, bnd]
      exact ⟨_, _, _, _, rfl, rfl, KX.rfs, KM.rfs, Or.inr hB⟩
    · rw [(wiI _ _ _ lo hi t1 t2).2 ho, (inI _ _ _ lo hi (by rw [ti64]; exact t1) (by rw [ti64]; exact t2)).2 ho, bnd, bnd, i1, i1]
      unfold fX1_number_b41 fX8_number_b47 fX8_number_b62
      rw [if_pos a2, v2, v3]
      obtain ⟨x', y', p1, p2, p3, p4, p5⟩ := adv hx hy a1 a2 c1 c2 g2
      rw [p1, p2, bnd, bnd]
      refine ⟨_, _, _, _, rfl, rfl, p3, p4, ?_⟩
      unfold out at ho
      rcases p5 with ⟨s', e', t', q1, q2⟩ | q
      · exact Or.inl ⟨rfl, s', e', t', v, q1, q2, rfl, rfl, by omega, by omega⟩
      · exact Or.inr q
  · have hn : ¬ nI t = (2 : Int32) := fun q => h2 ((nI_eq (b := 2) (by omega) (by omega)).mp q)
    rw [if_neg hn, if_neg hn, refX a1, failM a2, bnd, bnd]
    have hB : BK (up2 (up2 x 31 2 (nI 2)) 31 3 (nI s)) (up2 (up2 y 0 11 (nI 2)) 0 12 (y 0 14)) := BK.of (by omega) (by omega) b2.symm
    unfold fX1_number_b41 fX8_number_b20 fX8_number_b47 fX8_number_b62
    rw [show (2 : Int32) = nI 2 from rfl, advX_b hB.bx, bnd, if_neg hB.bm, if_neg hB.bm, stepM_b hB.yl, bnd]
    exact ⟨_, _, _, _, rfl, rfl, KX.rfs, KM.rfs, Or.inr hB⟩
