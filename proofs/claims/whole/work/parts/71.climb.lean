theorem more_iff {o o' F F' h h' W : Nat} (e : F * h = W) (e' : F' * h' = W) (hW : 0 < W) : o' * h' ≤ o * h ↔ o' * F ≤ o * F' := by
  have hF : 0 < F := Nat.pos_of_ne_zero (fun z => by rw [z, Nat.zero_mul] at e; omega)
  have hF' : 0 < F' := Nat.pos_of_ne_zero (fun z => by rw [z, Nat.zero_mul] at e'; omega)
  have a1 : o' * h' * (F * F') = o' * F * W := by rw [← e', Nat.mul_comm F F', Nat.mul_assoc, Nat.mul_assoc]; congr 1; rw [← Nat.mul_assoc, Nat.mul_comm h' F', Nat.mul_comm]
  have a2 : o * h * (F * F') = o * F' * W := by rw [← e, Nat.mul_assoc, Nat.mul_assoc]; congr 1; rw [← Nat.mul_assoc, Nat.mul_comm h F, Nat.mul_comm]
  constructor
  · intro z
    have := Nat.mul_le_mul_right (F * F') z
    rw [a1, a2] at this
    exact Nat.le_of_mul_le_mul_right this hW
  · intro z
    have := Nat.mul_le_mul_right W z
    rw [← a1, ← a2] at this
    exact Nat.le_of_mul_le_mul_right this (Nat.mul_pos hF hF')
theorem isMoreM {q q' : Rm} (v : RV q) (v' : RV q') {p p' : Nat} (hp : p < np q) (hp' : p' < np q') : fX8_isMore (lN (ordQ q' p')) (lN (fac (np q'))) (lN (ordQ q p)) (lN (fac (np q))) = some (if shQ q' p' ≤ shQ q p then 0 else 1) := by
  have hn := (np_le v).2
  have hn' := (np_le v').2
  have o1 := ord_lt v hp
  have o2 := ord_lt v' hp'
  have f1 := fac_lt (np q) (by omega)
  have f2 := fac_lt (np q') (by omega)
  have b1 : ordQ q' p' * fac (np q) ≤ 2 ^ 29 * 3628800 := Nat.mul_le_mul (by omega) f1
  have b2 : ordQ q p * fac (np q') ≤ 2 ^ 29 * 3628800 := Nat.mul_le_mul (by omega) f2
  have m := more_iff (o := ordQ q p) (o' := ordQ q' p') (facW (np q) (by omega)) (facW (np q') (by omega)) (by decide)
  unfold fX8_isMore
  rw [lN_mul, lN_mul]
  have c : (lg_cmp (lN (ordQ q' p' * fac (np q))) (lN (ordQ q p * fac (np q'))) ≤ 0) ↔ shQ q' p' ≤ shQ q p := by
    rw [lg_cmp_le, pk_lLE (by omega) (by omega)]
    exact m.symm
  by_cases z : shQ q' p' ≤ shQ q p
  · rw [if_pos (c.mpr z), if_pos z]
  · rw [if_neg (fun w => z (c.mp w)), if_neg z]
theorem climb_l {r : Rm} (v : RV r) {l : Nat} (hl : l < nl r) : ∀ (k n1 n2 b : Nat) (x y : Sg) (q : Rm) (best : Int32), b + k = nb r → k < n1 → k < n2 → RV q → l < np q → RX x 1 r → MM y r → ∃ (x' y' : Sg) (z : Int32), fX7_climb_l39 (nI l) n1 x (nI (shQ q l)) best (nI b) = some (x', z) ∧ fX8_climb_l39 (nI l) n2 y (lN (ordQ q l)) (lN (fac (np q))) best (nI b) = some (y', z) ∧ (∀ c, c ≠ 34 → c ≠ 35 → c ≠ 36 → (c < 7 ∨ 12 < c) → x' c = x c) ∧ (∀ c, c ≠ 0 → c ≠ 7 → y' c = y c) ∧ ∀ j, j ≠ 22 → y' 0 j = y 0 j := by
  have hln := v.1
  have hbn := v.2.1
  intro k
  induction k with
  | zero =>
    intro n1 n2 b x y q best h1 h2 h3 vq hq hx hy
    obtain ⟨n1, rfl⟩ := Nat.exists_eq_succ_of_ne_zero (show n1 ≠ 0 by omega)
    obtain ⟨n2, rfl⟩ := Nat.exists_eq_succ_of_ne_zero (show n2 ≠ 0 by omega)
    exact ⟨x, y, best, by rw [fX7_climb_l39, hx.2.1, if_pos (nI_le (by omega) (by omega))], by rw [fX8_climb_l39, hy.2.1, if_pos (nI_le (by omega) (by omega))], fun _ _ _ _ _ => rfl, fun _ _ _ => rfl, fun _ _ => rfl⟩
  | succ k ih =>
    intro n1 n2 b x y q best h1 h2 h3 vq hq hx hy
    obtain ⟨n1, rfl⟩ := Nat.exists_eq_succ_of_ne_zero (show n1 ≠ 0 by omega)
    obtain ⟨n2, rfl⟩ := Nat.exists_eq_succ_of_ne_zero (show n2 ≠ 0 by omega)
    have hb : b < nb r := by omega
    rw [fX7_climb_l39, hx.2.1, if_neg (nI_ge (by omega) (by omega)), eX_can hx v hl hb, bnd, fX8_climb_l39, hy.2.1, if_neg (nI_ge (by omega) (by omega)), eM_can hy v hl hb, bnd, nI_1]
    by_cases hc : canR r l b = true
    · rw [if_pos hc, i1, i1]
      obtain ⟨x1, a1, a2, a3⟩ := eX_copy x 7 1 (by omega) v hx
      have v' : RV (setOw r b (l + 1)) := RV.setOw v (by omega)
      have hx2 := RX.setOw (i := b) (x := l + 1) a3
      rw [show oX (l + 1) = nI l from oX_pos (by omega)] at hx2
      obtain ⟨x3, c1, c2, c3⟩ := gX v' (a := 7) (by omega) hx2
      have hp' : l < np (setOw r b (l + 1)) := by have := (np_le v').1; have : nl (setOw r b (l + 1)) = nl r := rfl; omega
      obtain ⟨x4, d1, d2⟩ := shX v' hp' c2
      have hR : RM (up2 y 1 (0 + 22 + b) (nI (l + 1))) 0 (setOw r b (l + 1)) := RM.setOw v hy.2.2 (by omega)
      have hM : MM (up2 y 1 (0 + 22 + b) (nI (l + 1))) (setOw r b (l + 1)) := MM.up hy rfl rfl hR
      rw [Nat.zero_add] at hM
      obtain ⟨y1, e1, e2, e3, e4⟩ := gM v' hM (-4)
      have hs1 := sh_lt v' hp'
      have hs2 := sh_lt vq hq
      have hnp' := (np_le v').2
      have X4 : ∀ c, c ≠ 34 → c ≠ 35 → c ≠ 36 → (c < 7 ∨ 12 < c) → x4 c = x c := fun c z1 z2 z3 z4 => by
        rw [d2 c z3, c3 c z1 z2, up2_row (by omega), a2 c (by omega)]
      have Y1 : ∀ c, c ≠ 0 → c ≠ 7 → (up2 y1 1 (22 + b) (nI (ow r b))) c = y c := by
        intro c z1 z2
        by_cases q1 : c = 1
        · subst q1
          funext j
          rw [up2_at]
          by_cases q2 : j = 22 + b
          · rw [if_pos ⟨rfl, q2⟩, q2, mm_ow hy hb]
          · rw [if_neg (by omega), e3 1 z1 z2, up2_at, if_neg (by omega)]
        · rw [up2_row q1, e3 c z1 z2, up2_row q1]
      have Y0 : ∀ j, j ≠ 22 → (up2 y1 1 (22 + b) (nI (ow r b))) 0 j = y 0 j := fun j hj => by rw [up2_row (by omega), e4 j hj, up2_row (by omega)]
      have hx4 : RX x4 1 r := hx.cg (fun c z1 z2 => X4 c (by omega) (by omega) (by omega) (by omega))
      have hy4 : MM (up2 y1 1 (22 + b) (nI (ow r b))) r := ⟨by rw [Y0 1 (by omega)]; exact hy.1, by rw [Y0 2 (by omega)]; exact hy.2.1, RM.cg v hy.2.2 (fun j _ _ => by rw [Y1 1 (by omega) (by omega)])⟩
      rw [a1, bnd, wrN (by omega) (by omega), bnd, c1, bnd, d1, bnd, show (22 : Int32) = nI 22 from rfl, nI_add, rdN (by omega) (by omega), bnd, mm_ow hy hb, wrN (by omega) (by omega), bnd, nI_1, e1, bnd]
      dsimp only
      rw [orM v' e2 hp', bnd, e2.1, ordM _ (by omega), bnd, wrN (by omega) (by omega), bnd, isMoreM vq v' hq hp', bnd]
      by_cases z : shQ (setOw r b (l + 1)) l ≤ shQ q l
      · rw [if_pos (nI_le z hs2), if_pos z, i0]
        obtain ⟨x', y', w, f1, f2, f3, f4, f5⟩ := ih n1 n2 (b + 1) x4 (up2 y1 1 (22 + b) (nI (ow r b))) q best (by omega) (by omega) (by omega) vq hq hx4 hy4
        exact ⟨x', y', w, f1, f2, fun c z1 z2 z3 z4 => by rw [f3 c z1 z2 z3 z4, X4 c z1 z2 z3 z4], fun c z1 z2 => by rw [f4 c z1 z2, Y1 c z1 z2], fun j hj => by rw [f5 j hj, Y0 j hj]⟩
      · rw [if_neg (nI_ge (by omega) hs1), if_neg z, i1]
        obtain ⟨x', y', w, f1, f2, f3, f4, f5⟩ := ih n1 n2 (b + 1) x4 (up2 y1 1 (22 + b) (nI (ow r b))) (setOw r b (l + 1)) (nI b) (by omega) (by omega) (by omega) v' hp' hx4 hy4
        exact ⟨x', y', w, f1, f2, fun c z1 z2 z3 z4 => by rw [f3 c z1 z2 z3 z4, X4 c z1 z2 z3 z4], fun c z1 z2 => by rw [f4 c z1 z2, Y1 c z1 z2], fun j hj => by rw [f5 j hj, Y0 j hj]⟩
    · rw [if_neg hc, i0, i0]
      exact ih n1 n2 (b + 1) x y q best (by omega) (by omega) (by omega) vq hq hx hy
theorem S_climb (x y : Sg) (v1 : Int32) (h : Inv x y) : StI Inv (oX7_climb x v1) (oX8_climb y v1) := by
  obtain ⟨r, ⟨v, hx, hy⟩, hrest⟩ := id h
  have hl := v.1
  have hbn := v.2.1
  have hn := np_le v
  unfold oX7_climb oX8_climb fX7_climb fX8_climb
  rcases out_n (n := nl r) (by omega) v1 with ho | ⟨l, hl', rfl⟩
  · exact stSame h (r := -1) (by rw [eX_hasLn hx ((out_x (by omega)).mp ho), bnd, i0]) (by rw [eM_isLn hy v ho, bnd, i0])
  · rw [eX_hasL hx v hl', bnd, i1, eM_isL hy v hl', bnd, i1]
    obtain ⟨x1, a1, a2, a3⟩ := gX v (by omega) hx
    obtain ⟨y1, b1, b2, b3, b4⟩ := gM v hy (-4)
    have hp : l < np r := by omega
    obtain ⟨x2, c1, c2⟩ := shX v hp a2
    have hx2 : RX x2 1 r := hx.cg (fun c z1 z2 => by rw [c2 c (by omega), a3 c (by omega) (by omega)])
    have hy1 : MM y1 r := ⟨by rw [b4 1 (by omega)]; exact hy.1, by rw [b4 2 (by omega)]; exact hy.2.1, RM.cg v hy.2.2 (fun j _ _ => by rw [b3 1 (by omega) (by omega)])⟩
    obtain ⟨x', y', z, f1, f2, f3, f4, f5⟩ := climb_l v hl' (nb r) 2000 2000 0 x2 y1 r (-4) (by omega) (by omega) (by omega) v hp hx2 hy1
    rw [nI_0] at f1 f2
    refine stOf (x' := x') (y' := y') (r := z) ?_ ?_ (scG h (fun c z1 z2 z3 z4 => by rw [f3 c z1 z2 z3 z4, c2 c z3, a3 c z1 z2]) (fun c z1 z2 => by rw [f4 c z1 z2, b3 c z1 z2]) (fun j hj => by rw [f5 j hj, b4 j hj]))
    · rw [a1, bnd, c1, bnd]; exact f1
    · rw [b1, bnd]; dsimp only; rw [orM v b2 hp, bnd, b2.1, ordM _ (by omega), bnd]; exact f2
