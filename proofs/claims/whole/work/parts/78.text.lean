-- the text: all lines, the owners, the end
def lineX (x : Sg) : Option Sg := (fX1_beginning x).bind fun t1 => if t1 = (4 : Int32) then (fX1_tellLord x).bind fun σ => fX1_advance σ else if t1 = (5 : Int32) then (fX1_tellPrice x).bind fun σ => fX1_advance σ else if t1 = (-4 : Int32) then (fX1_refuse x (2 : Int32) (x 31 4)).bind fun σ => fX1_advance σ else (fX1_tellBorough x t1).bind fun σ => fX1_advance σ
theorem bas {α β γ : Type} (o : Option α) (f : α → Option β) (g : β → Option γ) : (o.bind fun a => (f a).bind g) = (o.bind f).bind g := by cases o <;> rfl
theorem l33_s {x : Sg} {v : Int32} {n : Nat} (h : x 31 2 = 0) (h6 : ¬ x 31 6 = 0) (hv : ¬ (160 : Int32) ≤ v) : fX1_tellAll_l33 (n + 1) x v = (lineX x).bind fun σ => fX1_tellAll_l33 n σ (v + 1) := by
  rw [fX1_tellAll_l33, if_pos h, if_neg h6, if_neg hv]
  unfold lineX fX1_tellAll_b106
  cases fX1_beginning x with
  | none => rfl
  | some t1 =>
    rw [bnd, bnd]
    by_cases h4 : t1 = 4
    · rw [if_pos h4, if_pos h4, ← bas]
    rw [if_neg h4, if_neg h4]
    by_cases h5 : t1 = 5
    · rw [if_pos h5, if_pos h5, ← bas]
    rw [if_neg h5, if_neg h5]
    by_cases h7 : t1 = -4
    · rw [if_pos h7, if_pos h7, ← bas]
    rw [if_neg h7, if_neg h7, ← bas]
theorem readLine_n {y : Sg} {k : Nat} (hk : k < 6) (h : fX8_nameHere y = some (nI k)) : fX8_readLine y = nam8 y (nI k) := by
  have hi : ∀ k, k < 6 → fX8_in (nI k).toInt64 0 5 = some 1 := by decide +kernel
  unfold fX8_readLine
  rw [h, bnd, hi k hk, bnd, i1]
  rfl
theorem readLine_0 {y : Sg} (h : fX8_nameHere y = some (-4)) : fX8_readLine y = fX8_fails y 2 := by
  unfold fX8_readLine
  rw [h, bnd, show fX8_in (-4 : Int32).toInt64 0 5 = some 0 by decide +kernel, bnd, i0]
  exact bsome _
theorem lineL {tl : Nat} {B : Nat → Nat} {x y : Sg} {s e t : Nat} {r : Rm} {H : Nat} (hx : TX tl B x) (hy : TM tl B y) (h4 : y 4 = σM0 4) (h5 : y 5 = σM0 5) (k : TK tl x y s e t) (d : DR r H x y) : ∃ x' y', lineX x = some x' ∧ fX8_readLine y = some y' ∧ LR tl s x y x' y' := by
  obtain ⟨⟨a1, a2⟩, ⟨b1, b2⟩, ⟨c1, c2⟩, ⟨d1, d2⟩, ⟨g1, g2, g3, g4, g5⟩, g6⟩ := id k
  have ht := hx.1
  have hno : fX1_beginning x = some (-4) → fX8_nameHere y = some (-4) → ∃ x' y', lineX x = some x' ∧ fX8_readLine y = some y' ∧ LR tl s x y x' y' := by
    intro q1 q2
    rw [readLine_0 q2, failM a2]
    unfold lineX
    rw [q1, bnd, if_neg (by decide), if_neg (by decide), if_pos rfl, refX a1, bnd, b1]
    have hB : BK (up2 (up2 x 31 2 (nI 2)) 31 3 (nI s)) (up2 (up2 y 0 11 (nI 2)) 0 12 (y 0 14)) := BK.of (by omega) (by omega) b2.symm
    rw [show (2 : Int32) = nI 2 from rfl, advX_b hB.bx]
    exact ⟨_, _, rfl, rfl, KX.rfs.F, KM.rfs.F, Or.inr ⟨hB, nb r, d.1.2.1, by rw [up2_row (by omega), up2_row (by omega)]; exact d.2.2.1.2.1⟩⟩
  by_cases h1 : t = 1
  · subst h1
    have e1 := begX hx b1 c1 d1 g1 g2
    have e2 := nmM hy h4 h5 c2 b2 d2 g1 g2
    rcases nmF_c B s e 6 0 with q | ⟨i, -, i2, q⟩
    · exact hno (by rw [e1, q]) (by rw [e2, q])
    · rw [q] at e1 e2
      rw [readLine_n (by omega) e2]
      unfold lineX
      rw [e1, bnd]
      by_cases h6 : i = 4
      · subst h6
        rw [if_pos (show nI 4 = (4 : Int32) from rfl)]
        exact lordL hx hy k d
      by_cases h7 : i = 5
      · subst h7
        rw [if_neg (show ¬ nI 5 = (4 : Int32) by decide), if_pos (show nI 5 = (5 : Int32) from rfl)]
        exact priceL hx hy k d
      obtain ⟨z4, z5, z3, z0⟩ := kne i (by omega)
      rw [if_neg z4, if_neg z5, if_neg z0]
      exact borL (by omega) hx hy k d
  · have hn : ¬ nI t = (1 : Int32) := fun q => h1 ((nI_eq (b := 1) (by omega) (by omega)).mp q)
    exact hno (begX0 (by rw [d1]; exact hn)) (nmM0 (by rw [d2]; exact hn))
def LE (tl : Nat) (x y x' y' : Sg) : Prop := FX x x' ∧ FM y y' ∧ ((∃ r H, DR r H x' y' ∧ x' 31 2 = 0 ∧ y' 0 11 = 0 ∧ y' 0 14 = nI tl) ∨ BR x' y')
theorem lines {tl : Nat} {B : Nat → Nat} : ∀ k n1 n2 l (x y : Sg) (s e t : Nat) (r : Rm) (H : Nat), tl - s < k → k < n1 → k < n2 → l ≤ s → TX tl B x → TM tl B y → y 4 = σM0 4 → y 5 = σM0 5 → TK tl x y s e t → DR r H x y → ∃ x' y' l', fX1_tellAll_l33 n1 x (nI l) = fX1_tellAll_b116 x' (nI l') ∧ fX8_text_l57 n2 y (nI l) = fX8_text_b81 y' (nI l') ∧ LE tl x y x' y' := by
  intro k
  induction k with
  | zero => intro n1 n2 l x y s e t r H h0; omega
  | succ k ih =>
    intro n1 n2 l x y s e t r H h0 h1 h2 hl hx hy h4 h5 kk d
    obtain ⟨n1, rfl⟩ := Nat.exists_eq_succ_of_ne_zero (show n1 ≠ 0 by omega)
    obtain ⟨n2, rfl⟩ := Nat.exists_eq_succ_of_ne_zero (show n2 ≠ 0 by omega)
    obtain ⟨⟨a1, a2⟩, ⟨b1, b2⟩, ⟨c1, c2⟩, ⟨d1, d2⟩, ⟨g1, g2, g3, g4, g5⟩, -⟩ := id kk
    have ht := hx.1
    by_cases t0 : t = 0
    · have q1 : x 31 6 = 0 := by rw [d1, t0]; rfl
      have q2 : y 0 15 = 0 := by rw [d2, t0]; rfl
      refine ⟨x, y, l, ?_, ?_, FX.rf x, FM.rf y, Or.inl ⟨r, H, d, a1, a2, by rw [b2, g4 t0]⟩⟩
      · rw [fX1_tellAll_l33, if_pos a1, if_pos q1]
      · rw [fX8_text_l57, if_pos a2, if_pos q2]
    · have q1 : ¬ x 31 6 = 0 := by rw [d1]; exact nI_ne0 (by omega) (by omega)
      have q2 : ¬ y 0 15 = 0 := by rw [d2]; exact nI_ne0 (by omega) (by omega)
      have hs := g5 t0
      obtain ⟨x1, y1, e1, e2, f1, f2, f3⟩ := lineL hx hy h4 h5 kk d
      rw [l33_s a1 q1 (show ¬ (160 : Int32) ≤ nI l from nI_ge (b := 160) (by omega) (by omega)), e1, bnd, fX8_text_l57, if_pos a2, if_neg q2, e2, bnd, nI_1]
      rcases f3 with ⟨r', H', s', e', t', i1, i2, i3⟩ | hB
      · have m1 : y1 4 = σM0 4 := by rw [← h4]; exact funext fun j => f2 _ _ (by omega) (by omega)
        have m2 : y1 5 = σM0 5 := by rw [← h5]; exact funext fun j => f2 _ _ (by omega) (by omega)
        have hs' := i3.2.2.2.2.1
        obtain ⟨x', y', l', z1, z2, z3, z4, z5⟩ := ih n1 n2 (l + 1) x1 y1 s' e' t' r' H' (by omega) (by omega) (by omega) (by omega) (f1.T hx) (f2.T hy) m1 m2 i3 i2
        exact ⟨x', y', l', z1, z2, f1.tr z3, f2.tr z4, z5⟩
      · obtain ⟨n1, rfl⟩ := Nat.exists_eq_succ_of_ne_zero (show n1 ≠ 0 by omega)
        obtain ⟨n2, rfl⟩ := Nat.exists_eq_succ_of_ne_zero (show n2 ≠ 0 by omega)
        refine ⟨x1, y1, l + 1, ?_, ?_, f1, f2, Or.inr hB⟩
        · rw [fX1_tellAll_l33, if_neg hB.1.bx]
        · rw [fX8_text_l57, if_neg hB.1.bm]
-- the owners
theorem chk_b {x : Sg} {m : Nat} (h : ¬ x 31 2 = 0) (h1 : x 25 1 = nI m) (hm : m ≤ 6) : ∀ k n b, b + k = m → k < n → fX1_checkOwners_l2 n x (nI b) = some x := by
  intro k
  induction k with
  | zero =>
    intro n b h2 h3
    obtain ⟨n, rfl⟩ := Nat.exists_eq_succ_of_ne_zero (show n ≠ 0 by omega)
    rw [fX1_checkOwners_l2, h1, if_pos (nI_le (by omega) (by omega))]
  | succ k ih =>
    intro n b h2 h3
    obtain ⟨n, rfl⟩ := Nat.exists_eq_succ_of_ne_zero (show n ≠ 0 by omega)
    rw [fX1_checkOwners_l2, h1, if_neg (nI_ge (by omega) (by omega)), rdN (by omega) (by omega), bnd, bnd, refX_b h, bnd, nI_1, ih n (b + 1) (by omega) (by omega)]
    split
    · rfl
    · split <;> rfl
theorem chk_ok {x : Sg} {r : Rm} (hr : RX x 25 r) (hw : RW r) (ho : ∀ b, b < nb r → ow r b ≤ nl r) : ∀ k n b, b + k = nb r → k < n → fX1_checkOwners_l2 n x (nI b) = some x := by
  have hb := hw.2.1
  have hl := hw.1
  intro k
  induction k with
  | zero =>
    intro n b h2 h3
    obtain ⟨n, rfl⟩ := Nat.exists_eq_succ_of_ne_zero (show n ≠ 0 by omega)
    rw [fX1_checkOwners_l2, hr.2.1, if_pos (nI_le (by omega) (by omega))]
  | succ k ih =>
    intro n b h2 h3
    obtain ⟨n, rfl⟩ := Nat.exists_eq_succ_of_ne_zero (show n ≠ 0 by omega)
    have h4 := (hw.2.2.2.2 b (by omega)).2.2.2.2
    have h5 := ho b (by omega)
    have e1 : x 30 b = oX (ow r b) := (hr.2.2.2.2 b (by omega)).2.2.2
    rw [fX1_checkOwners_l2, hr.2.1, if_neg (nI_ge (by omega) (by omega)), rdN (by omega) (by omega), bnd, e1, hr.1, nI_1, ih n (b + 1) (by omega) (by omega)]
    by_cases h0 : ow r b = 0
    · rw [if_pos ((oX_ne h4).mpr h0)]
    · rw [if_neg (fun q => h0 ((oX_ne h4).mp q)), bnd, oX_pos h0, if_pos (nI_lt (by omega) (by omega))]
theorem chk_no {x : Sg} {r : Rm} {tl : Nat} (hr : RX x 25 r) (hw : RW r) (ha : x 31 2 = 0) (htl : x 32 1 = nI tl) : ∀ k n b, b + k = nb r → k < n → (∃ c, b ≤ c ∧ c < nb r ∧ nl r < ow r c) → fX1_checkOwners_l2 n x (nI b) = some (up2 (up2 x 31 2 (nI 6)) 31 3 (nI tl)) := by
  have hb := hw.2.1
  have hl := hw.1
  intro k
  induction k with
  | zero =>
    intro n b h2 h3 ⟨c, c1, c2, c3⟩
    omega
  | succ k ih =>
    intro n b h2 h3 ⟨c, c1, c2, c3⟩
    obtain ⟨n, rfl⟩ := Nat.exists_eq_succ_of_ne_zero (show n ≠ 0 by omega)
    have h4 := (hw.2.2.2.2 b (by omega)).2.2.2.2
    have e1 : x 30 b = oX (ow r b) := (hr.2.2.2.2 b (by omega)).2.2.2
    rw [fX1_checkOwners_l2, hr.2.1, if_neg (nI_ge (by omega) (by omega)), rdN (by omega) (by omega), bnd, e1, hr.1, nI_1, bnd, refX ha, htl, bnd]
    by_cases hq : nl r < ow r b
    · rw [if_neg (fun q => by have := (oX_ne h4).mp q; omega), oX_pos (by omega), if_neg (nI_nlt (by omega) (by omega))]
      have hB : ¬ up2 (up2 x 31 2 6) 31 3 (nI tl) 31 2 = 0 := by simp [up2_at]
      rw [chk_b (m := nb r) hB (by rw [up2_row (by omega), up2_row (by omega)]; exact hr.2.1) hb k n (b + 1) (by omega) (by omega)]
      rfl
    · have hcb : c ≠ b := fun q => hq (by rw [← q]; exact c3)
      have hi := ih n (b + 1) (by omega) (by omega) ⟨c, by omega, c2, c3⟩
      rw [hi]
      by_cases h0 : ow r b = 0
      · rw [if_pos ((oX_ne h4).mpr h0)]
      · rw [if_neg (fun q => h0 ((oX_ne h4).mp q)), oX_pos h0, if_pos (nI_lt (by omega) (by omega))]
theorem hiL : ∀ H, H < 5 → ∀ n, n < 5 → (nI H - 1 < nI n ↔ H ≤ n) := by decide
theorem ownersL {tl : Nat} {B : Nat → Nat} {x y : Sg} {r : Rm} {H : Nat} (hx : TX tl B x) (d : DR r H x y) (a1 : x 31 2 = 0) (a2 : y 0 11 = 0) (a3 : y 0 14 = nI tl) (l : Int32) : ∃ x' y', fX1_tellAll_b116 x l = some (x', l) ∧ fX8_text_b81 y l = fX8_text_b105 y' l ∧ KX x x' ∧ KM y y' ∧ ((x' = x ∧ y' = y ∧ ∀ b, b < nb r → ow r b ≤ nl r) ∨ BK x' y') := by
  have hH := d.2.1.1
  have hl := d.1.1
  unfold fX1_tellAll_b116 fX1_checkOwners fX8_text_b81
  rw [if_pos a2, d.2.2.2.2.1.2.2, d.2.2.2.2.1.1]
  by_cases hc : H ≤ nl r
  · have ho : ∀ b, b < nb r → ow r b ≤ nl r := fun b hb => by have := d.2.1.2.1 b hb; omega
    rw [n0, chk_ok d.2.2.1 d.1 ho (nb r) 2000 0 (by omega) (by have := d.1.2.1; omega), bnd, if_pos ((hiL H (by omega) (nl r) (by omega)).mpr hc)]
    exact ⟨x, y, rfl, rfl, KX.rf x, KM.rf y, Or.inl ⟨rfl, rfl, ho⟩⟩
  · have hex : ∃ c, 0 ≤ c ∧ c < nb r ∧ nl r < ow r c := by
      rcases d.2.1.2.2 with q | ⟨b, q1, q2⟩
      · omega
      · exact ⟨b, by omega, q1, by omega⟩
    rw [n0, chk_no d.2.2.1 d.1 a1 hx.2.1 (nb r) 2000 0 (by omega) (by have := d.1.2.1; omega) hex, bnd, if_neg (fun q => hc ((hiL H (by omega) (nl r) (by omega)).mp q)), failM a2, bnd]
    exact ⟨_, _, rfl, rfl, KX.rfs, KM.rfs, Or.inr (BK.of (f := 6) (by omega) (by omega) a3.symm)⟩
-- the page
def last8 (σ : Sg) (v1 : Int32) : Option (Sg × Int32) := (pf σ 0 1 (σ 0 4)).bind fun σ1 => (pf σ1 0 2 (σ1 0 5)).bind fun σ2 => (pf σ2 0 24 (0 : Int32)).bind fun σ3 => (wr σ3 10 2 (0 : Int32) (vp_nar .boolean (0 : Int32))).bind fun σ4 => (wr σ4 10 2 (1 : Int32) (vp_nar .boolean (0 : Int32))).bind fun σ5 => some (σ5, v1)
theorem pageC (v1 : Int32) : ∀ k n i (σ : Sg), i + k = 29 → k < n → ∃ σ' : Sg, fX8_text_l135 n σ v1 (nI i) = last8 σ' v1 ∧ (∀ c, c ≠ 1 → σ' c = σ c) ∧ (∀ j, i ≤ j → j < 29 → σ' 1 j = σ 2 j) ∧ (∀ j, ¬ (i ≤ j ∧ j < 29) → σ' 1 j = σ 1 j) := by
  intro k
  induction k with
  | zero =>
    intro n i σ h1 h2
    obtain ⟨n, rfl⟩ := Nat.exists_eq_succ_of_ne_zero (show n ≠ 0 by omega)
    refine ⟨σ, ?_, fun _ _ => rfl, fun j _ _ => by omega, fun _ _ => rfl⟩
    rw [fX8_text_l135, if_pos (show (29 : Int32) ≤ nI i from nI_le (a := 29) (by omega) (by omega))]
    rfl
  | succ k ih =>
    intro n i σ h1 h2
    obtain ⟨n, rfl⟩ := Nat.exists_eq_succ_of_ne_zero (show n ≠ 0 by omega)
    obtain ⟨σ', e1, e2, e3, e4⟩ := ih n (i + 1) (up2 σ 1 i (σ 2 i)) (by omega) (by omega)
    refine ⟨σ', ?_, fun c hc => by rw [e2 c hc, up2_row hc], fun j hj1 hj2 => ?_, fun j hj => ?_⟩
    · rw [fX8_text_l135, if_neg (show ¬ (29 : Int32) ≤ nI i from nI_ge (b := 29) (by omega) (by omega)), rdN (by omega) (by omega), bnd, wrN (by omega) (by omega), bnd, nI_1]; exact e1
    · by_cases hji : j = i
      · subst hji; rw [e4 j (by omega), up2_at, if_pos ⟨rfl, rfl⟩]
      · rw [e3 j (by omega) hj2, up2_row (by omega)]
    · rw [e4 j (by omega), up2_at, if_neg (by omega)]
theorem pageZ (v1 : Int32) : ∀ k n i (σ : Sg), i + k = 29 → k < n → ∃ σ' : Sg, fX8_text_l34 n σ v1 (nI i) = ((fX8_step σ').bind fun σ1 => fX8_text_l57 2000 σ1 v1) ∧ (∀ c, c ≠ 2 → σ' c = σ c) ∧ (∀ j, i ≤ j → j < 29 → σ' 2 j = 0) ∧ (∀ j, ¬ (i ≤ j ∧ j < 29) → σ' 2 j = σ 2 j) := by
  intro k
  induction k with
  | zero =>
    intro n i σ h1 h2
    obtain ⟨n, rfl⟩ := Nat.exists_eq_succ_of_ne_zero (show n ≠ 0 by omega)
    refine ⟨σ, ?_, fun _ _ => rfl, fun j _ _ => by omega, fun _ _ => rfl⟩
    rw [fX8_text_l34, if_pos (show (29 : Int32) ≤ nI i from nI_le (a := 29) (by omega) (by omega))]
  | succ k ih =>
    intro n i σ h1 h2
    obtain ⟨n, rfl⟩ := Nat.exists_eq_succ_of_ne_zero (show n ≠ 0 by omega)
    obtain ⟨σ', e1, e2, e3, e4⟩ := ih n (i + 1) (up2 σ 2 i 0) (by omega) (by omega)
    refine ⟨σ', ?_, fun c hc => by rw [e2 c hc, up2_row hc], fun j hj1 hj2 => ?_, fun j hj => ?_⟩
    · rw [fX8_text_l34, if_neg (show ¬ (29 : Int32) ≤ nI i from nI_ge (b := 29) (by omega) (by omega)), wrN (by omega) (by omega), bnd, nI_1]; exact e1
    · by_cases hji : j = i
      · subst hji; rw [e4 j (by omega), up2_at, if_pos ⟨rfl, rfl⟩]
      · exact e3 j (by omega) hj2
    · rw [e4 j (by omega), up2_at, if_neg (by omega)]
