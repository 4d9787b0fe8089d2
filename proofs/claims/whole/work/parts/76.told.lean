-- the text: a line, both sides
theorem up2_self {σ : Sg} {k j : Nat} {v : Int32} (h : σ k j = v) : up2 σ k j v = σ := funext fun a => funext fun b => by
  rw [up2_at]
  by_cases hq : a = k ∧ b = j
  · rw [if_pos hq, hq.1, hq.2, h]
  · rw [if_neg hq]
def go8 (σ1 : Sg) (v1 : Int32) : Option Sg := (fX8_step σ1).bind fun σ2 => if (σ2 0 11) ≤ 0 then if (3 : Int32) < v1 then if v1 = (4 : Int32) then (fX8_number σ2 (0 : Int32) (99 : Int32)).bind fun u5 => (wr u5.1 2 29 (σ2 0 4) u5.2).bind fun σ6 => (pf σ6 0 4 ((σ6 0 4) + (1 : Int32))).bind fun σ7 => fX8_readLine_b168 σ7 else (fX8_number σ2 (0 : Int32) (9 : Int32)).bind fun u3 => (wr u3.1 2 29 (28 : Int32) (u3.2 - (3 : Int32))).bind fun σ4 => fX8_readLine_b168 σ4 else (fX8_readBorough σ2 v1).bind fun σ8 => fX8_readLine_b168 σ8 else some σ2
theorem b90_g (σ : Sg) (v1 s1 : Int32) : fX8_readLine_b90 σ v1 s1 = (pz σ 0 6 s1).bind fun σ1 => go8 σ1 v1 := rfl
theorem pz0 (σ : Sg) (k j : Nat) : pz σ k j 0 = some (up2 σ k j 0) := by unfold pz; rw [if_pos (Or.inl rfl)]
theorem pz1 (σ : Sg) (k j : Nat) : pz σ k j 1 = some (up2 σ k j 1) := by unfold pz; rw [if_pos (Or.inr rfl)]
theorem b72_n {y : Sg} {v1 : Int32} (hv : ¬ v1 = 5) (hp : y 0 6 = 0 ∨ y 0 6 = 1) : fX8_readLine_b72 y v1 = go8 y v1 := by
  unfold fX8_readLine_b72 fX8_readLine_b85
  rw [b90_g, b90_g, pz0, pz1, bnd, bnd]
  rcases hp with hp | hp
  · rw [if_pos hp, if_neg hv, up2_self hp]
  · rw [if_neg (by rw [hp]; decide), up2_self hp]
theorem b72_5 {y : Sg} : fX8_readLine_b72 y 5 = go8 (up2 y 0 6 1) 5 := by
  unfold fX8_readLine_b72 fX8_readLine_b85
  rw [b90_g, pz1, bnd, if_pos rfl]
  split <;> rfl
theorem go8_b {y : Sg} (h : ¬ y 0 11 ≤ 0) (v1 : Int32) : go8 y v1 = some y := by
  unfold go8
  rw [stepM_b h, bnd, if_neg h]
def nam8 (y : Sg) (t1 : Int32) : Option Sg := if t1 = (4 : Int32) then if (y 0 4) = (4 : Int32) then fX8_readLine_b50 y t1 else fX8_readLine_b36 y t1 else fX8_readLine_b36 y t1
def LR (tl s : Nat) (x y x' y' : Sg) : Prop := FX x x' ∧ FM y y' ∧ ((∃ r H s' e' t', s < s' ∧ DR r H x' y' ∧ TK tl x' y' s' e' t') ∨ BR x' y')
theorem b168_b {y : Sg} (h : ¬ y 0 11 = 0) (h2 : ¬ y 0 11 ≤ 0) : fX8_readLine_b168 y = some y := by
  unfold fX8_readLine_b168 fX8_readLine_b188
  rw [if_neg h, stepM_b h2, bnd]
theorem n0 : (0 : Int32) = nI 0 := rfl
theorem le00 {z : Int32} (h : z = 0) : z ≤ 0 := by rw [h]; decide
/-- the end of a line: a stop, then the next token; what the class adds stands between -/
theorem lineEnd {tl : Nat} {B : Nat → Nat} {x y x2 y2 x3 y3 : Sg} {s s2 e2 t2 : Nat} {r : Rm} {H : Nat} (hx : TX tl B x) (hy : TM tl B y) (h1 : s < e2) (fx : FX x x2) (fy : FM y y3) (k : TK tl x2 y2 s2 e2 t2)
    (ky : ∀ b, 11 ≤ b → b ≤ 16 → y3 0 b = y2 0 b) (F : Sg → Option Sg) (hF : F x2 = some x3) (k3 : ∀ b, x3 31 b = x2 31 b) (f3 : FX x2 x3) (d : DR r H x3 y3) (hB : ∀ x, x 25 0 = x2 25 0 → x 25 1 = x2 25 1 → ∃ x', F x = some x' ∧ XT x x') :
    ∃ x' y', (((fX1_stop x2).bind F).bind fun σ => fX1_advance σ) = some x' ∧ fX8_readLine_b168 y3 = some y' ∧ LR tl s x y x' y' := by
  obtain ⟨⟨a1, a2⟩, ⟨b1, b2⟩, ⟨c1, c2⟩, ⟨d1, d2⟩, ⟨g1, g2, g3, g4, g5⟩, g6⟩ := k
  have ht := hx.1
  have m11 : y3 0 11 = 0 := by rw [ky 11 (by omega) (by omega), a2]
  have m13 : y3 0 13 = nI e2 := by rw [ky 13 (by omega) (by omega), c2]
  have m14 : y3 0 14 = nI s2 := by rw [ky 14 (by omega) (by omega), b2]
  have m15 : y3 0 15 = nI t2 := by rw [ky 15 (by omega) (by omega), d2]
  unfold fX1_stop fX8_readLine_b168 fX8_readLine_b188
  rw [d1, if_pos m11, m15]
  by_cases h3 : t2 = 3
  · subst h3
    rw [if_pos (show nI 3 = (3 : Int32) from rfl), if_pos (show nI 3 = (3 : Int32) from rfl), bnd, hF, bnd]
    obtain ⟨x4, y4, p1, p2, p3, p4, p5⟩ := adv (i := e2) ((fx.tr f3).T hx) (fy.T hy) (by rw [k3, a1]) m11 (by rw [k3, c1]) m13 g2
    rw [p1, p2, bnd]
    refine ⟨x4, y4, rfl, rfl, (fx.tr f3).tr p3.F, fy.tr p4.F, ?_⟩
    rcases p5 with ⟨s', e', t', q1, q2⟩ | q
    · exact Or.inl ⟨r, H, s', e', t', by omega, d.K p3 p4, q2⟩
    · have := d.2.2.1.2.1
      exact Or.inr ⟨q, nb r, d.1.2.1, by rw [p3 _ _ (by omega)]; exact this⟩
  · have hn : ¬ nI t2 = (3 : Int32) := fun q => h3 ((nI_eq (b := 3) (by omega) (by omega)).mp q)
    rw [if_neg hn, if_neg hn, refX a1, failM m11, bnd, bnd, bnd]
    have hBK : BK (up2 (up2 x2 31 2 (nI 2)) 31 3 (nI s2)) (up2 (up2 y3 0 11 (nI 2)) 0 12 (y3 0 14)) := BK.of (by omega) (by omega) m14.symm
    rw [show (2 : Int32) = nI 2 from rfl, b1, stepM_b hBK.yl, bnd]
    obtain ⟨x', q1, q2⟩ := hB (up2 (up2 x2 31 2 (nI 2)) 31 3 (nI s2)) (by rw [up2_row (by omega), up2_row (by omega)]) (by rw [up2_row (by omega), up2_row (by omega)])
    rw [q1, bnd, advX_b (q2.b hBK.bx)]
    exact ⟨_, _, rfl, rfl, (fx.tr KX.rfs.F).tr q2.2.1, fy.tr KM.rfs.F, Or.inr (q2.B hBK rfl rfl)⟩
theorem lordL {tl : Nat} {B : Nat → Nat} {x y : Sg} {s e : Nat} {r : Rm} {H : Nat} (hx : TX tl B x) (hy : TM tl B y) (k : TK tl x y s e 1) (d : DR r H x y) : ∃ x' y', ((fX1_tellLord x).bind fun σ => fX1_advance σ) = some x' ∧ nam8 y 4 = some y' ∧ LR tl s x y x' y' := by
  obtain ⟨⟨a1, a2⟩, ⟨b1, b2⟩, ⟨c1, c2⟩, ⟨d1, d2⟩, ⟨g1, g2, g3, g4, g5⟩, g6⟩ := id k
  have ht := hx.1
  have hl := d.1.1
  have hnb := d.1.2.1
  have x0 : x 25 0 = nI (nl r) := d.2.2.1.1
  have x1 : x 25 1 = nI (nb r) := d.2.2.1.2.1
  have y4 : y 0 4 = nI (nl r) := d.2.2.2.2.1.1
  have y6 := d.2.2.2.2.2.2
  unfold nam8 fX1_tellLord
  rw [if_pos rfl, x0, y4]
  by_cases h4 : nl r = 4
  · rw [h4, if_pos (show nI 4 = (4 : Int32) from rfl), if_neg (show ¬ nI 4 < (4 : Int32) by decide), refX a1, bnd, b1]
    unfold fX8_readLine_b50 fX8_readLine_b55
    rw [failM a2, bnd, if_neg (by decide)]
    have hB : BK (up2 (up2 x 31 2 (nI 5)) 31 3 (nI s)) (up2 (up2 y 0 11 (nI 5)) 0 12 (y 0 14)) := BK.of (by omega) (by omega) b2.symm
    rw [show (5 : Int32) = nI 5 from rfl, b72_n (by decide) (by rw [up2_at, if_neg (by omega), up2_at, if_neg (by omega)]; exact y6), go8_b hB.yl]
    unfold fX1_tellLord_b20
    rw [advX_b hB.bx, bnd, numX_b hB.bx, bnd, stopX_b hB.bx, bnd]
    obtain ⟨x', q1, q2⟩ := addL_t (x := up2 (up2 x 31 2 (nI 5)) 31 3 (nI s)) (n := nl r) (m := nb r) (by rw [up2_row (by omega), up2_row (by omega), x0]) (by omega) (by rw [up2_row (by omega), up2_row (by omega), x1]) (by omega) (up2 (up2 x 31 2 (nI 5)) 31 3 (nI s) 31 7)
    rw [q1, bnd, bnd, advX_b (q2.b hB.bx)]
    exact ⟨_, _, rfl, rfl, KX.rfs.F.tr q2.2.1, KM.rfs.F, Or.inr (q2.B hB rfl rfl)⟩
  · rw [if_neg (show ¬ nI (nl r) = (4 : Int32) from fun q => h4 ((nI_eq (b := 4) (by omega) (by omega)).mp q)), if_pos (show nI (nl r) < (4 : Int32) from nI_lt (b := 4) (by omega) (by omega))]
    unfold fX8_readLine_b36 fX8_readLine_b55 fX1_tellLord_b20
    rw [if_pos (by decide), if_neg (by decide), b72_n (by decide) y6]
    unfold go8
    obtain ⟨x2, y2, p1, p2, p3, p4, p5⟩ := adv hx hy a1 a2 c1 c2 g2
    rw [p1, p2, bnd, bnd]
    rcases p5 with ⟨s2, e2, t2, h2, k2⟩ | hB
    · rw [if_pos (le00 k2.1.2), if_pos (by decide), if_pos rfl]
      obtain ⟨x3, y3, w1, w2, r1, r2, r3, r4, r5⟩ := numb (p3.T hx) (p4.T hy) k2 0 99 (by omega) (by omega)
      have K3 := p3.tr r3
      have M3 := p4.tr r4
      have e1 : fX1_number x2 0 99 = some (x3, w1) := r1
      have em : fX8_number y2 0 99 = some (y3, w2) := r2
      rw [e1, em, bnd, bnd]
      dsimp only
      rw [p4 0 4 (by omega), y4, wrN (by omega) (by omega), bnd, pfb, up2_row (by omega), M3 0 4 (by omega), y4, nI_1]
      rcases r5 with ⟨-, s3, e3, t3, v, h3, k3, rfl, rfl, v1, v2⟩ | hB
      · have dd := d.K K3 M3
        have x30 : x3 25 0 = nI (nl r) := by rw [K3 _ _ (by omega), x0]
        have x31 : x3 25 1 = nI (nb r) := by rw [K3 _ _ (by omega), x1]
        have hk2 := k2.2.2.2.2.1
        have hk3 := k3.2.2.2.2.1
        obtain ⟨x', y', z1, z2, z3⟩ := lineEnd (s := s) (x := x) (y := y) (x3 := up2 (up2 x3 26 (nl r) (nI v)) 25 0 (nI (nl r + 1))) (y3 := up2 (up2 y3 2 (nl r) (nI v)) 0 4 (nI (nl r + 1))) hx hy (by have := g5 (by omega); omega) K3.F ((M3.F.tr FM.pg).tr (FM.fd (by omega))) k3 (fun b h1 h2 => by rw [up2_at, if_neg (by omega), up2_row (by omega)]) (fun σ => fX2_addLord σ 25 (nI v)) (addLX x30 (by omega) _) (fun b => by rw [up2_row (by omega), up2_row (by omega)]) ((FX.up (by omega)).tr (FX.up (by omega))) (dd.addL (by omega) v2) (fun z h0 h1 => addL_t (by rw [h0, x30]) (by omega) (by rw [h1, x31]) (by omega) _)
        refine ⟨x', y', ?_, z2, z3⟩
        rw [← z1]
        simp only [bsome]
      · have hB2 : BK x3 (up2 (up2 y3 2 (nl r) w2) 0 4 (nI (nl r + 1))) := hB.cg rfl rfl (by rw [up2_at, if_neg (by omega), up2_row (by omega)]) (by rw [up2_at, if_neg (by omega), up2_row (by omega)])
        rw [b168_b hB2.bm hB2.yl, stopX_b hB.bx, bnd]
        obtain ⟨x', q1, q2⟩ := addL_t (x := x3) (n := nl r) (m := nb r) (by rw [K3 _ _ (by omega), x0]) (by omega) (by rw [K3 _ _ (by omega), x1]) (by omega) w1
        rw [q1, bnd, bnd, advX_b (q2.b hB.bx)]
        exact ⟨_, _, rfl, rfl, K3.F.tr q2.2.1, (M3.F.tr FM.pg).tr (FM.fd (by omega)), Or.inr (q2.B hB2 rfl rfl)⟩
    · rw [if_neg hB.yl, numX_b hB.bx, bnd, stopX_b hB.bx, bnd]
      obtain ⟨x', q1, q2⟩ := addL_t (x := x2) (n := nl r) (m := nb r) (by rw [p3 _ _ (by omega), x0]) (by omega) (by rw [p3 _ _ (by omega), x1]) (by omega) (x2 31 7)
      rw [q1, bnd, bnd, advX_b (q2.b hB.bx)]
      exact ⟨_, _, rfl, rfl, p3.F.tr q2.2.1, p4.F, Or.inr (q2.B hB rfl rfl)⟩
theorem priceL {tl : Nat} {B : Nat → Nat} {x y : Sg} {s e : Nat} {r : Rm} {H : Nat} (hx : TX tl B x) (hy : TM tl B y) (k : TK tl x y s e 1) (d : DR r H x y) : ∃ x' y', ((fX1_tellPrice x).bind fun σ => fX1_advance σ) = some x' ∧ nam8 y 5 = some y' ∧ LR tl s x y x' y' := by
  obtain ⟨⟨a1, a2⟩, ⟨b1, b2⟩, ⟨c1, c2⟩, ⟨d1, d2⟩, ⟨g1, g2, g3, g4, g5⟩, g6⟩ := id k
  have ht := hx.1
  have hl := d.1.1
  have hnb := d.1.2.1
  have x1 : x 25 1 = nI (nb r) := d.2.2.1.2.1
  have y6 := d.2.2.2.2.2
  unfold nam8 fX1_tellPrice fX8_readLine_b36 fX8_readLine_b55
  rw [if_neg (show ¬ (5 : Int32) = 4 by decide), if_pos (show (3 : Int32) < 5 by decide), if_pos (show (5 : Int32) = 5 from rfl), y6.1]
  by_cases h6 : y 0 6 = 0
  · rw [if_pos h6, if_pos h6, b72_5]
    unfold fX1_tellPrice_b16 go8
    rw [pz1, bnd]
    have fx1 : FX x (up2 x 31 8 1) := FX.up (by omega)
    have fy1 : FM y (up2 y 0 6 1) := FM.fd (by omega)
    obtain ⟨x2, y2, p1, p2, p3, p4, p5⟩ := adv (fx1.T hx) (fy1.T hy) (by rw [up2_at, if_neg (by omega), a1]) (by rw [up2_at, if_neg (by omega), a2]) (i := e) (by rw [up2_at, if_neg (by omega), c1]) (by rw [up2_at, if_neg (by omega), c2]) g2
    rw [p1, p2, bnd, bnd]
    rcases p5 with ⟨s2, e2, t2, h2, k2⟩ | hB
    · rw [if_pos (le00 k2.1.2), if_pos (by decide), if_neg (by decide)]
      obtain ⟨x3, y3, w1, w2, r1, r2, r3, r4, r5⟩ := numb (p3.T (fx1.T hx)) (p4.T (fy1.T hy)) k2 0 9 (by omega) (by omega)
      have K3 := p3.tr r3
      have M3 := p4.tr r4
      have e1 : fX1_number x2 0 9 = some (x3, w1) := r1
      have em : fX8_number y2 0 9 = some (y3, w2) := r2
      rw [e1, em, bnd, bnd]
      dsimp only
      rw [show (28 : Int32) = nI 28 from rfl, wrN (by omega) (by omega), bnd, pfb]
      rcases r5 with ⟨-, s3, e3, t3, v, h3, k3, rfl, rfl, v1, v2⟩ | hB
      · have dd := (d.pri.K K3 M3).setP v2
        have hk2 := k2.2.2.2.2.1
        have hk3 := k3.2.2.2.2.1
        have k4 : TK tl (up2 x3 25 2 (nI v)) y3 s3 e3 t3 := by
          obtain ⟨⟨j1, j2⟩, ⟨j3, j4⟩, ⟨j5, j6⟩, ⟨j7, j8⟩, j9, j10⟩ := k3
          refine ⟨⟨by rw [up2_row (by omega)]; exact j1, j2⟩, ⟨by rw [up2_row (by omega)]; exact j3, j4⟩, ⟨by rw [up2_row (by omega)]; exact j5, j6⟩, ⟨by rw [up2_row (by omega)]; exact j7, j8⟩, j9, fun h => ?_⟩
          rw [up2_row (by omega)]; exact j10 h
        obtain ⟨x', y', z1, z2, z3⟩ := lineEnd (s := s) (x := x) (y := y) (x2 := up2 x3 25 2 (nI v)) (x3 := up2 x3 25 2 (nI v)) (y3 := up2 y3 2 28 (nI v - 3)) hx hy (by have := g5 (by omega); omega) ((fx1.tr K3.F).tr (FX.up (by omega))) ((fy1.tr M3.F).tr FM.pg) k4 (fun b h1 h2 => by rw [up2_row (by omega)]) (fun σ => some σ) rfl (fun b => rfl) (FX.rf _) dd (fun z h0 h1 => ⟨z, rfl, fun _ => rfl, FX.rf z, nb r, hnb, by rw [h1, up2_at, if_neg (by omega), K3 _ _ (by omega), up2_row (by omega), x1]⟩)
        exact ⟨x', y', z1, z2, z3⟩
      · have hB2 : BK (up2 x3 25 2 w1) (up2 y3 2 28 (w2 - 3)) := hB.cg (by rw [up2_row (by omega)]) (by rw [up2_row (by omega)]) (by rw [up2_row (by omega)]) (by rw [up2_row (by omega)])
        rw [b168_b hB2.bm hB2.yl, stopX_b hB2.bx, bnd, bnd, advX_b hB2.bx]
        exact ⟨_, _, rfl, rfl, (fx1.tr K3.F).tr (FX.up (by omega)), (fy1.tr M3.F).tr FM.pg, Or.inr ⟨hB2, nb r, hnb, by rw [up2_at, if_neg (by omega), K3 _ _ (by omega), up2_row (by omega), x1]⟩⟩
    · have hB2 : BK (up2 x2 25 2 (x2 31 7)) y2 := hB.cg (by rw [up2_row (by omega)]) (by rw [up2_row (by omega)]) rfl rfl
      rw [if_neg hB.yl, numX_b hB.bx, bnd, pfb, stopX_b hB2.bx, bnd, bnd, advX_b hB2.bx]
      exact ⟨_, _, rfl, rfl, (fx1.tr p3.F).tr (FX.up (by omega)), fy1.tr p4.F, Or.inr ⟨hB2, nb r, hnb, by rw [up2_at, if_neg (by omega), p3 _ _ (by omega), up2_row (by omega), x1]⟩⟩
  · rw [if_neg h6, if_neg h6, refX a1, failM a2, bnd, bnd, b72_5, b1]
    have hB : BK (up2 (up2 x 31 2 (nI 4)) 31 3 (nI s)) (up2 (up2 y 0 11 (nI 4)) 0 12 (y 0 14)) := BK.of (by omega) (by omega) b2.symm
    rw [show (4 : Int32) = nI 4 from rfl]
    generalize hX : up2 (up2 x 31 2 (nI 4)) 31 3 (nI s) = xa at hB ⊢
    generalize hY : up2 (up2 y 0 11 (nI 4)) 0 12 (y 0 14) = ya at hB ⊢
    have fx : FX x xa := by rw [← hX]; exact KX.rfs.F
    have fy : FM y ya := by rw [← hY]; exact KM.rfs.F
    have xa1 : xa 25 1 = nI (nb r) := by rw [← hX, up2_row (by omega), up2_row (by omega), x1]
    have hB1 : BK (up2 xa 31 8 1) (up2 ya 0 6 1) := hB.cg (by rw [up2_at, if_neg (by omega)]) (by rw [up2_at, if_neg (by omega)]) (by rw [up2_at, if_neg (by omega)]) (by rw [up2_at, if_neg (by omega)])
    have hB2 : BK (up2 (up2 xa 31 8 1) 25 2 (up2 xa 31 8 1 31 7)) (up2 ya 0 6 1) := hB1.cg (by rw [up2_row (by omega)]) (by rw [up2_row (by omega)]) rfl rfl
    unfold fX1_tellPrice_b16
    rw [pz1, bnd, advX_b hB1.bx, bnd, numX_b hB1.bx, bnd, pfb, stopX_b hB2.bx, bnd, bnd, advX_b hB2.bx, go8_b hB1.yl]
    exact ⟨_, _, rfl, rfl, (fx.tr (FX.up (by omega))).tr (FX.up (by omega)), fy.tr (FM.fd (by omega)), Or.inr ⟨hB2, nb r, hnb, by rw [up2_at, if_neg (by omega), up2_row (by omega), xa1]⟩⟩
