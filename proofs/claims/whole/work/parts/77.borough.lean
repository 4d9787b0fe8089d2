-- the text: a borough's line
theorem TK.cg {tl : Nat} {x y x' y' : Sg} {s e t : Nat} (k : TK tl x y s e t) (hx : ∀ b, x' 31 b = x 31 b) (hy : ∀ b, 11 ≤ b → b ≤ 16 → y' 0 b = y 0 b) : TK tl x' y' s e t := by
  obtain ⟨⟨j1, j2⟩, ⟨j3, j4⟩, ⟨j5, j6⟩, ⟨j7, j8⟩, j9, j10⟩ := k
  refine ⟨⟨by rw [hx, j1], by rw [hy _ (by omega) (by omega), j2]⟩, ⟨by rw [hx, j3], by rw [hy _ (by omega) (by omega), j4]⟩, ⟨by rw [hx, j5], by rw [hy _ (by omega) (by omega), j6]⟩, ⟨by rw [hx, j7], by rw [hy _ (by omega) (by omega), j8]⟩, j9, fun h => ?_⟩
  rw [hx, hy _ (by omega) (by omega)]; exact j10 h
def borT (x : Sg) (v1 v2 v3 : Int32) : Option Sg := if (x 31 6) = (2 : Int32) then (fX1_number x (0 : Int32) (3 : Int32)).bind fun u4 => fX1_tellBorough_b59 v1 u4.1 v2 v3 u4.2 else fX1_tellBorough_b59 v1 x v2 v3 (-4 : Int32)
theorem b21_t (v1 : Int32) (σ : Sg) : fX1_tellBorough_b21 v1 σ = (fX1_advance σ).bind fun σ1 => (fX1_number σ1 (1 : Int32) (9 : Int32)).bind fun u2 => (fX1_number u2.1 (0 : Int32) (3 : Int32)).bind fun u3 => borT u3.1 v1 u2.2 u3.2 := rfl
def borM (σ5 : Sg) (v1 : Int32) : Option Sg := if (σ5 0 11) = 0 then if (σ5 0 15) = (2 : Int32) then (fX8_number σ5 (0 : Int32) (3 : Int32)).bind fun u6 => if u6.2 ≤ (u6.1 0 7) then fX8_readBorough_b88 v1 u6.1 u6.2 (u6.1 0 7) else fX8_readBorough_b88 v1 u6.1 u6.2 u6.2 else fX8_readBorough_b106 v1 σ5 else fX8_readBorough_b106 v1 σ5
theorem bor8_m (σ : Sg) (v1 : Int32) : fX8_readBorough σ v1 = (wr σ 2 29 ((4 : Int32) + (σ 0 5)) v1).bind fun σ1 => (fX8_number σ1 (1 : Int32) (9 : Int32)).bind fun u2 => (wr u2.1 2 29 ((10 : Int32) + (σ1 0 5)) u2.2).bind fun σ3 => (fX8_number σ3 (0 : Int32) (3 : Int32)).bind fun u4 => (wr u4.1 2 29 ((16 : Int32) + (σ3 0 5)) u4.2).bind fun σ5 => borM σ5 v1 := rfl
theorem b59_b {x : Sg} {m : Nat} (h : ¬ x 31 2 = 0) (h1 : x 25 1 = nI m) (hm : m ≤ 6) (v1 v2 v3 v4 : Int32) : ∃ x', fX1_tellBorough_b59 v1 x v2 v3 v4 = some x' ∧ XT x x' := by
  unfold fX1_tellBorough_b59
  rw [stopX_b h, bnd]
  obtain ⟨x', q1, q2⟩ := addB_t h1 hm v1 v2 v3 v4
  exact ⟨x', by rw [q1, bnd], q2⟩
theorem borT_b {x : Sg} {m : Nat} (h : ¬ x 31 2 = 0) (h1 : x 25 1 = nI m) (hm : m ≤ 6) (v1 v2 v3 : Int32) : ∃ x', borT x v1 v2 v3 = some x' ∧ XT x x' := by
  unfold borT
  rw [numX_b h, bnd]
  by_cases h2 : x 31 6 = 2
  · rw [if_pos h2]; exact b59_b h h1 hm _ _ _ _
  · rw [if_neg h2]; exact b59_b h h1 hm _ _ _ _
theorem b106_e {y : Sg} {n : Nat} (h : y 0 5 = nI n) (v1 : Int32) : fX8_readBorough_b106 v1 y = some (up2 y 0 5 (nI (n + 1))) := by
  unfold fX8_readBorough_b106
  rw [pfb, h, nI_1]
theorem b88_e {y : Sg} {n : Nat} (h : y 0 5 = nI n) (hn : n < 6) (v1 v2 s1 : Int32) : fX8_readBorough_b88 v1 y v2 s1 = some (up2 (up2 (up2 y 0 7 s1) 2 (22 + n) (v2 + 1)) 0 5 (nI (n + 1))) := by
  unfold fX8_readBorough_b88
  have e1 : up2 y 0 7 s1 0 5 = nI n := by rw [up2_at, if_neg (by omega), h]
  rw [pfb, e1, show (22 : Int32) = nI 22 from rfl, nI_add, wrN (by omega) (by omega), bnd, b106_e (n := n) (by rw [up2_row (by omega), e1])]
theorem borM_b {y : Sg} {n : Nat} (h : ¬ y 0 11 = 0) (h5 : y 0 5 = nI n) (v1 : Int32) : borM y v1 = some (up2 y 0 5 (nI (n + 1))) := by
  unfold borM
  rw [if_neg h, b106_e h5]
theorem hiN : ∀ l, l < 4 → ∀ H, H < 5 → (nI l ≤ nI H - 1 ↔ l + 1 ≤ H) := by decide
theorem hiP : ∀ l, l < 4 → nI (l + 1) - 1 = nI l := by decide
theorem oXs : ∀ l, l < 4 → oX (l + 1) = nI l := by decide
theorem kne : ∀ k, k < 4 → ¬ nI k = (4 : Int32) ∧ ¬ nI k = (5 : Int32) ∧ ¬ (3 : Int32) < nI k ∧ ¬ nI k = (-4 : Int32) := by decide
theorem BK.pg {x y : Sg} {j : Nat} {v : Int32} (h : BK x y) : BK x (up2 y 2 j v) := h.cg rfl rfl (by rw [up2_row (by omega)]) (by rw [up2_row (by omega)])
theorem BK.fd {x y : Sg} {j : Nat} {v : Int32} (h : BK x y) (hj : j ≤ 7) : BK x (up2 y 0 j v) := h.cg rfl rfl (by rw [up2_at, if_neg (by omega)]) (by rw [up2_at, if_neg (by omega)])
theorem borL {tl : Nat} {B : Nat → Nat} {x y : Sg} {s e : Nat} {r : Rm} {H k0 : Nat} (hk0 : k0 < 4) (hx : TX tl B x) (hy : TM tl B y) (k : TK tl x y s e 1) (d : DR r H x y) : ∃ x' y', ((fX1_tellBorough x (nI k0)).bind fun σ => fX1_advance σ) = some x' ∧ nam8 y (nI k0) = some y' ∧ LR tl s x y x' y' := by
  obtain ⟨⟨a1, a2⟩, ⟨b1, b2⟩, ⟨c1, c2⟩, ⟨d1, d2⟩, ⟨g1, g2, g3, g4, g5⟩, g6⟩ := id k
  have ht := hx.1
  have hl := d.1.1
  have hnb := d.1.2.1
  have hH := d.2.1.1
  have x1 : x 25 1 = nI (nb r) := d.2.2.1.2.1
  have y5 : y 0 5 = nI (nb r) := d.2.2.2.2.1.2.1
  have y6 := d.2.2.2.2.2.2
  obtain ⟨q4, q5, q3, -⟩ := kne k0 hk0
  obtain ⟨n, hn⟩ : ∃ n, n = nb r := ⟨_, rfl⟩
  rw [← hn] at x1 y5 hnb
  unfold nam8 fX1_tellBorough fX8_readLine_b36
  rw [if_neg q4, if_neg q3, x1, y5]
  by_cases h6 : n = 6
  · rw [h6, if_pos (show nI 6 = (6 : Int32) from rfl), if_neg (show ¬ nI 6 < (6 : Int32) by decide), refX a1, bnd, b1]
    unfold fX8_readLine_b50 fX8_readLine_b55
    rw [failM a2, bnd, if_neg q5]
    have hB : BK (up2 (up2 x 31 2 (nI 5)) 31 3 (nI s)) (up2 (up2 y 0 11 (nI 5)) 0 12 (y 0 14)) := BK.of (by omega) (by omega) b2.symm
    rw [show (5 : Int32) = nI 5 from rfl, b72_n q5 (by rw [up2_at, if_neg (by omega), up2_at, if_neg (by omega)]; exact y6), go8_b hB.yl, b21_t, advX_b hB.bx, bnd, numX_b hB.bx, bnd, numX_b hB.bx, bnd]
    obtain ⟨x', z1, z2⟩ := borT_b (x := up2 (up2 x 31 2 (nI 5)) 31 3 (nI s)) (m := n) hB.bx (by rw [up2_row (by omega), up2_row (by omega), x1]) hnb (nI k0) (up2 (up2 x 31 2 (nI 5)) 31 3 (nI s) 31 7) (up2 (up2 x 31 2 (nI 5)) 31 3 (nI s) 31 7)
    rw [z1, bnd, advX_b (z2.b hB.bx)]
    exact ⟨_, _, rfl, rfl, KX.rfs.F.tr z2.2.1, KM.rfs.F, Or.inr (z2.B hB rfl rfl)⟩
  have hn6 : n < 6 := by omega
  rw [if_neg (show ¬ nI n = (6 : Int32) from fun q => h6 ((nI_eq (b := 6) (by omega) (by omega)).mp q)), if_pos (show nI n < (6 : Int32) from nI_lt (b := 6) hn6 (by omega))]
  unfold fX8_readLine_b55
  rw [if_neg q5, b72_n q5 y6, b21_t]
  unfold go8
  obtain ⟨x2, y2, p1, p2, p3, p4, p5⟩ := adv hx hy a1 a2 c1 c2 g2
  rw [p1, p2, bnd, bnd]
  rcases p5 with ⟨s2, e2, t2, h2, k2⟩ | hB
  case inr =>
    rw [if_neg hB.yl, numX_b hB.bx, bnd, numX_b hB.bx, bnd]
    obtain ⟨x', z1, z2⟩ := borT_b (x := x2) (m := n) hB.bx (by rw [p3 _ _ (by omega), x1]) hnb (nI k0) (x2 31 7) (x2 31 7)
    rw [z1, bnd, advX_b (z2.b hB.bx)]
    exact ⟨_, _, rfl, rfl, p3.F.tr z2.2.1, p4.F, Or.inr (z2.B hB rfl rfl)⟩
  rw [if_pos (le00 k2.1.2), if_neg q3, bor8_m, p4 0 5 (by omega), y5, show (4 : Int32) = nI 4 from rfl, nI_add, wrN (by omega) (by omega), bnd]
  obtain ⟨ya, hya⟩ : ∃ ya, ya = up2 y2 2 (4 + n) (nI k0) := ⟨_, rfl⟩
  rw [← hya]
  have fa : FM y ya := by rw [hya]; exact p4.F.tr FM.pg
  have ka : TK tl x2 ya s2 e2 t2 := k2.cg (fun _ => rfl) (fun b _ _ => by rw [hya, up2_row (by omega)])
  have ya5 : ya 0 5 = nI n := by rw [hya, up2_row (by omega), p4 _ _ (by omega), y5]
  obtain ⟨x3, y3, w1, w2, r1, r2, r3, r4, r5⟩ := numb (p3.T hx) (fa.T hy) ka 1 9 (by omega) (by omega)
  have ea : fX1_number x2 1 9 = some (x3, w1) := r1
  have eb : fX8_number ya 1 9 = some (y3, w2) := r2
  have K3 := p3.tr r3
  have f3 : FM y y3 := fa.tr r4.F
  have x31 : x3 25 1 = nI n := by rw [K3 _ _ (by omega), x1]
  have y35 : y3 0 5 = nI n := by rw [r4 _ _ (by omega), ya5]
  rw [ea, eb, bnd, bnd, ya5]
  dsimp only
  rw [show (10 : Int32) = nI 10 from rfl, nI_add, wrN (by omega) (by omega), bnd]
  rcases r5 with ⟨-, s3, e3, t3, h0, h3, k3, rfl, rfl, v1, v2⟩ | hB
  case inr =>
    have hB1 : BK x3 (up2 y3 2 (10 + n) w2) := hB.pg
    have hB2 : BK x3 (up2 (up2 y3 2 (10 + n) w2) 2 (16 + n) 0) := hB1.pg
    have hB3 : BK x3 (up2 (up2 (up2 y3 2 (10 + n) w2) 2 (16 + n) 0) 0 5 (nI (n + 1))) := hB2.fd (by omega)
    rw [numM_b hB1.bm hB1.yl, bnd, up2_row (show 0 ≠ 2 by omega), y35]
    dsimp only
    rw [show (16 : Int32) = nI 16 from rfl, nI_add, wrN (by omega) (by omega), bnd, borM_b (n := n) hB2.bm (by rw [up2_row (by omega), up2_row (by omega), y35]), bnd, b168_b hB3.bm hB3.yl, numX_b hB.bx, bnd]
    obtain ⟨x', z1, z2⟩ := borT_b (x := x3) (m := n) hB.bx x31 hnb (nI k0) w1 (x3 31 7)
    rw [z1, bnd, advX_b (z2.b hB.bx)]
    exact ⟨_, _, rfl, rfl, K3.F.tr z2.2.1, ((f3.tr FM.pg).tr FM.pg).tr (FM.fd (by omega)), Or.inr (z2.B hB3 rfl rfl)⟩
  obtain ⟨yb, hyb⟩ : ∃ yb, yb = up2 y3 2 (10 + n) (nI h0) := ⟨_, rfl⟩
  rw [← hyb]
  have fb : FM y yb := by rw [hyb]; exact f3.tr FM.pg
  have kb : TK tl x3 yb s3 e3 t3 := k3.cg (fun _ => rfl) (fun b _ _ => by rw [hyb, up2_row (by omega)])
  have yb5 : yb 0 5 = nI n := by rw [hyb, up2_row (by omega), y35]
  obtain ⟨x4, y4, w1, w2, u1, u2, u3, u4, u5⟩ := numb (K3.T hx) (fb.T hy) kb 0 3 (by omega) (by omega)
  have ec : fX1_number x3 0 3 = some (x4, w1) := u1
  have ed : fX8_number yb 0 3 = some (y4, w2) := u2
  have K4 := K3.tr u3
  have f4 : FM y y4 := fb.tr u4.F
  have x41 : x4 25 1 = nI n := by rw [K4 _ _ (by omega), x1]
  have y45 : y4 0 5 = nI n := by rw [u4 _ _ (by omega), yb5]
  rw [ec, ed, bnd, bnd, yb5]
  dsimp only
  rw [show (16 : Int32) = nI 16 from rfl, nI_add, wrN (by omega) (by omega), bnd]
  rcases u5 with ⟨-, s4, e4, t4, m0, h4, k4, rfl, rfl, v3, v4⟩ | hB
  case inr =>
    have hB2 : BK x4 (up2 y4 2 (16 + n) w2) := hB.pg
    have hB3 : BK x4 (up2 (up2 y4 2 (16 + n) w2) 0 5 (nI (n + 1))) := hB2.fd (by omega)
    rw [borM_b (n := n) hB2.bm (by rw [up2_row (by omega), y45]), bnd, b168_b hB3.bm hB3.yl]
    obtain ⟨x', z1, z2⟩ := borT_b (x := x4) (m := n) hB.bx x41 hnb (nI k0) (nI h0) w1
    rw [z1, bnd, advX_b (z2.b hB.bx)]
    exact ⟨_, _, rfl, rfl, K4.F.tr z2.2.1, (f4.tr FM.pg).tr (FM.fd (by omega)), Or.inr (z2.B hB3 rfl rfl)⟩
  obtain ⟨yc, hyc⟩ : ∃ yc, yc = up2 y4 2 (16 + n) (nI m0) := ⟨_, rfl⟩
  rw [← hyc]
  have fc : FM y yc := by rw [hyc]; exact f4.tr FM.pg
  have kc : TK tl x4 yc s4 e4 t4 := k4.cg (fun _ => rfl) (fun b _ _ => by rw [hyc, up2_row (by omega)])
  have yc5 : yc 0 5 = nI n := by rw [hyc, up2_row (by omega), y45]
  have yc7 : yc 0 7 = nI H - 1 := by rw [hyc, up2_row (by omega), u4 _ _ (by omega), hyb, up2_row (by omega), r4 _ _ (by omega), hya, up2_row (by omega), p4 _ _ (by omega)]; exact d.2.2.2.2.1.2.2
  have yc4 : yc 0 4 = y 0 4 := by rw [hyc, up2_row (by omega), u4 _ _ (by omega), hyb, up2_row (by omega), r4 _ _ (by omega), hya, up2_row (by omega), p4 _ _ (by omega)]
  have yc6 : yc 0 6 = y 0 6 := by rw [hyc, up2_row (by omega), u4 _ _ (by omega), hyb, up2_row (by omega), r4 _ _ (by omega), hya, up2_row (by omega), p4 _ _ (by omega)]
  have pj : ∀ j, yc 2 j = if j = 16 + n then nI m0 else if j = 10 + n then nI h0 else if j = 4 + n then nI k0 else y 2 j := by
    intro j
    rw [hyc, up2_at]
    by_cases j1 : j = 16 + n
    · rw [if_pos ⟨rfl, j1⟩, if_pos j1]
    rw [if_neg (by omega), if_neg j1, u4 _ _ (by omega), hyb, up2_at]
    by_cases j2 : j = 10 + n
    · rw [if_pos ⟨rfl, j2⟩, if_pos j2]
    rw [if_neg (by omega), if_neg j2, r4 _ _ (by omega), hya, up2_at]
    by_cases j3 : j = 4 + n
    · rw [if_pos ⟨rfl, j3⟩, if_pos j3]
    rw [if_neg (by omega), if_neg j3, p4 _ _ (by omega)]
  have hk2 := k2.2.2.2.2.1
  have hk3 := k3.2.2.2.2.1
  have hk4 := k4.2.2.2.2.1
  have hse := g5 (by omega)
  unfold borT borM
  rw [kc.2.2.2.1.1, kc.2.2.2.1.2, if_pos kc.1.2]
  by_cases ht2 : t4 = 2
  · rw [if_pos (show nI t4 = (2 : Int32) by rw [ht2]; rfl), if_pos (show nI t4 = (2 : Int32) by rw [ht2]; rfl)]
    obtain ⟨x5, y5', w1, w2, l1, l2, l3, l4, l5⟩ := numb (K4.T hx) (fc.T hy) kc 0 3 (by omega) (by omega)
    have ef : fX1_number x4 0 3 = some (x5, w1) := l1
    have eg : fX8_number yc 0 3 = some (y5', w2) := l2
    have K5 := K4.tr l3
    have f5 : FM y y5' := fc.tr l4.F
    have x51 : x5 25 1 = nI n := by rw [K5 _ _ (by omega), x1]
    have y55 : y5' 0 5 = nI n := by rw [l4 _ _ (by omega), yc5]
    have y57 : y5' 0 7 = nI H - 1 := by rw [l4 _ _ (by omega), yc7]
    rw [ef, eg, bnd, bnd]
    dsimp only
    rw [b88_e y55 hn6, b88_e y55 hn6]
    rcases l5 with ⟨-, s5, e5, t5, l0, h5, k5, rfl, rfl, v5, v6⟩ | hB
    case inr =>
      obtain ⟨x', z1, z2⟩ := b59_b (x := x5) (m := n) hB.bx x51 hnb (nI k0) (nI h0) (nI m0) w1
      rw [z1, bnd, advX_b (z2.b hB.bx)]
      have hb : ∀ s1 : Int32, ∃ y', ((some (up2 (up2 (up2 y5' 0 7 s1) 2 (22 + n) (w2 + 1)) 0 5 (nI (n + 1)))).bind fun σ8 => fX8_readLine_b168 σ8) = some y' ∧ LR tl s x y x' y' := by
        intro s1
        have hB3 : BK x5 (up2 (up2 (up2 y5' 0 7 s1) 2 (22 + n) (w2 + 1)) 0 5 (nI (n + 1))) := ((hB.fd (by omega)).pg).fd (by omega)
        rw [bnd, b168_b hB3.bm hB3.yl]
        exact ⟨_, rfl, K5.F.tr z2.2.1, ((f5.tr (FM.fd (by omega))).tr FM.pg).tr (FM.fd (by omega)), Or.inr (z2.B hB3 rfl rfl)⟩
      by_cases hc : w2 ≤ y5' 0 7
      · rw [if_pos hc]
        obtain ⟨y', o1, o2⟩ := hb (y5' 0 7)
        exact ⟨x', y', rfl, o1, o2⟩
      · rw [if_neg hc]
        obtain ⟨y', o1, o2⟩ := hb w2
        exact ⟨x', y', rfl, o1, o2⟩
    have hk5 := k5.2.2.2.2.1
    have hw : ((if nI l0 ≤ y5' 0 7 then some (up2 (up2 (up2 y5' 0 7 (y5' 0 7)) 2 (22 + n) (nI l0 + 1)) 0 5 (nI (n + 1))) else some (up2 (up2 (up2 y5' 0 7 (nI l0)) 2 (22 + n) (nI l0 + 1)) 0 5 (nI (n + 1)))) : Option Sg) = some (up2 (up2 (up2 y5' 0 7 (nI (max H (l0 + 1)) - 1)) 2 (22 + n) (nI (l0 + 1))) 0 5 (nI (n + 1))) := by
      rw [y57, nI_1]
      by_cases hc : l0 + 1 ≤ H
      · rw [if_pos ((hiN l0 (by omega) H (by omega)).mpr hc), show max H (l0 + 1) = H by omega]
      · rw [if_neg (fun q => hc ((hiN l0 (by omega) H (by omega)).mp q)), show max H (l0 + 1) = l0 + 1 by omega, hiP l0 (by omega)]
    rw [hw, bnd]
    subst hn
    have dd := (d.K K5 (KM.rf y)).addB (y' := up2 (up2 (up2 y5' 0 7 (nI (max H (l0 + 1)) - 1)) 2 (22 + nb r) (nI (l0 + 1))) 0 5 (nI (nb r + 1))) (k := k0) (h := h0) (m := m0) (w := l0 + 1) hn6 (by omega) ⟨v1, v2⟩ v4 (by omega)
      (fun j j1 j2 j3 j4 => by rw [up2_row (by omega), up2_at, if_neg (by omega), up2_row (by omega), l4 _ _ (by omega), pj, if_neg j3, if_neg j2, if_neg j1])
      (by rw [up2_row (by omega), up2_at, if_neg (by omega), up2_row (by omega), l4 _ _ (by omega), pj, if_neg (by omega), if_neg (by omega), if_pos rfl])
      (by rw [up2_row (by omega), up2_at, if_neg (by omega), up2_row (by omega), l4 _ _ (by omega), pj, if_neg (by omega), if_pos rfl])
      (by rw [up2_row (by omega), up2_at, if_neg (by omega), up2_row (by omega), l4 _ _ (by omega), pj, if_pos rfl])
      (by rw [up2_row (by omega), up2_at, if_pos ⟨rfl, rfl⟩])
      (by rw [up2_at, if_neg (by omega), up2_row (by omega), up2_at, if_neg (by omega), l4 _ _ (by omega), yc4])
      (by rw [up2_at, if_pos ⟨rfl, rfl⟩])
      (by rw [up2_at, if_neg (by omega), up2_row (by omega), up2_at, if_pos ⟨rfl, rfl⟩])
      (by rw [up2_at, if_neg (by omega), up2_row (by omega), up2_at, if_neg (by omega), l4 _ _ (by omega), yc6])
    rw [oXs l0 (by omega)] at dd
    obtain ⟨x', y', z1, z2, z3⟩ := lineEnd (s := s) (x := x) (y := y) (x2 := x5) (y2 := y5') (s2 := s5) (e2 := e5) (t2 := t5) hx hy (by omega) K5.F (((f5.tr (FM.fd (by omega))).tr FM.pg).tr (FM.fd (by omega))) k5 (fun b h1 h2 => by rw [up2_at, if_neg (by omega), up2_row (by omega), up2_at, if_neg (by omega)]) (fun σ => fX2_addBorough σ 25 (nI k0) (nI h0) (nI m0) (nI l0)) (addBX x51 hn6 _ _ _ _) (fun b => by simp [up2_at]) (((((FX.up (by omega)).tr (FX.up (by omega))).tr (FX.up (by omega))).tr (FX.up (by omega))).tr (FX.up (by omega))) dd (fun z h0 h1 => addB_t (by rw [h1, x51]) hnb _ _ _ _)
    refine ⟨x', y', ?_, z2, z3⟩
    rw [← z1]
    unfold fX1_tellBorough_b59
    simp only [bsome]
  · have hn2 : ¬ nI t4 = (2 : Int32) := fun q => ht2 ((nI_eq (b := 2) (by omega) (by omega)).mp q)
    rw [if_neg hn2, if_neg hn2, b106_e yc5, bnd]
    subst hn
    have dd := (d.K K4 (KM.rf y)).addB (y' := up2 yc 0 5 (nI (nb r + 1))) (k := k0) (h := h0) (m := m0) (w := 0) hn6 (by omega) ⟨v1, v2⟩ v4 (by omega)
      (fun j j1 j2 j3 j4 => by rw [up2_row (by omega), pj, if_neg j3, if_neg j2, if_neg j1])
      (by rw [up2_row (by omega), pj, if_neg (by omega), if_neg (by omega), if_pos rfl])
      (by rw [up2_row (by omega), pj, if_neg (by omega), if_pos rfl])
      (by rw [up2_row (by omega), pj, if_pos rfl])
      (by rw [up2_row (by omega), pj, if_neg (by omega), if_neg (by omega), if_neg (by omega), d.2.2.2.1.2.2.1 (nb r) (by omega) hn6]; rfl)
      (by rw [up2_at, if_neg (by omega), yc4])
      (by rw [up2_at, if_pos ⟨rfl, rfl⟩])
      (by rw [up2_at, if_neg (by omega), yc7, show max H 0 = H by omega])
      (by rw [up2_at, if_neg (by omega), yc6])
    obtain ⟨x', y', z1, z2, z3⟩ := lineEnd (s := s) (x := x) (y := y) (x2 := x4) (y2 := yc) (s2 := s4) (e2 := e4) (t2 := t4) hx hy (by omega) K4.F (fc.tr (FM.fd (by omega))) kc (fun b h1 h2 => by rw [up2_at, if_neg (by omega)]) (fun σ => fX2_addBorough σ 25 (nI k0) (nI h0) (nI m0) (-4)) (addBX x41 hn6 _ _ _ _) (fun b => by simp [up2_at]) (((((FX.up (by omega)).tr (FX.up (by omega))).tr (FX.up (by omega))).tr (FX.up (by omega))).tr (FX.up (by omega))) dd (fun z h0 h1 => addB_t (by rw [h1, x41]) hnb _ _ _ _)
    refine ⟨x', y', ?_, z2, z3⟩
    rw [← z1]
    unfold fX1_tellBorough_b59
    simp only [bsome]
