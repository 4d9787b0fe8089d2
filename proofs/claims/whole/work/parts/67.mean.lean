theorem mean_eq {r : Rm} (vr : RV r) (v s : Nat) (hv : v ≤ 10) (w : Int32) : lowN (sm (2 ^ nb r) (tmF r v (heldR r s) 1)) (10 ^ nb r) w = lowN ((10 - v) * seatsR r (heldR r s)) 10 w := by
  have hh := heldR_lt vr s
  have e : sm (2 ^ nb r) (tmF r v (heldR r s) 1) = sm (2 ^ nb r) (fun a => od v (10 - v) (nb r) a * awy (seatsF r (heldR r s)) (nb r) a) := by
    apply sm_congr
    intro a _
    unfold tmF tmL
    rw [if_neg (by decide)]
    congr 1
    unfold seatsR awy
    apply sm_congr
    intro b _
    unfold seatsF
    rw [andn_bit (by omega)]
    cases h1 : a.testBit b <;> cases h2 : (heldR r s).testBit b <;> simp
  have m := mean_sum v (10 - v) (seatsF r (heldR r s)) (nb r)
  rw [← e, show v + (10 - v) = 10 by omega] at m
  rw [← lowN_mul (u := sm (2 ^ nb r) (tmF r v (heldR r s) 1)) (c := 10) (by decide), Nat.mul_comm _ 10, m, Nat.mul_comm (10 ^ nb r) 10]
  exact lowN_mul (Nat.pow_pos (by decide)) w
theorem S_luck (x y : Sg) (v1 v2 v3 : Int32) (h : Inv x y) : StL Inv (oX7_luck x v1 v2 v3) (oX8_luck y v1 v2 v3) := by
  obtain ⟨r, ⟨v, hx, hy⟩, hrest⟩ := id h
  have hl := v.1
  have hbn := v.2.1
  have hp : 2 ^ nl r ≤ 2 ^ 4 := Nat.pow_le_pow_right (by decide) hl
  unfold oX7_luck oX8_luck fX7_luck fX8_luck
  by_cases ho : out v1 0 10
  · exact stROL h (r := -1) (by rw [(wiI v1 0 10 0 10 (by decide) (by decide)).1 ho, bnd, i0]) (by rw [(inI v1 0 10 0 10 (by decide) (by decide)).1 ho, bnd, i0])
  · rw [(wiI v1 0 10 0 10 (by decide) (by decide)).2 ho, bnd, i1, (inI v1 0 10 0 10 (by decide) (by decide)).2 ho, bnd, i1]
    by_cases ho2 : out v2 0 (((2 ^ nl r : Nat) : Int) - 1)
    · exact stROL h (r := -1) (by rw [(eX_hasLs hx v v2).1 ho2, bnd, i0]) (by rw [(eM_isLs hy v v2).1 ho2, bnd, i0])
    · rw [(eX_hasLs hx v v2).2 ho2, bnd, i1, (eM_isLs hy v v2).2 ho2, bnd, i1]
      by_cases ho3 : out v3 0 1
      · exact stROL h (r := -1) (by rw [(wiI v3 0 1 0 1 (by decide) (by decide)).1 ho3, bnd, i0]) (by rw [(inI v3 0 1 0 1 (by decide) (by decide)).1 ho3, bnd, i0])
      · rw [(wiI v3 0 1 0 1 (by decide) (by decide)).2 ho3, bnd, i1, (inI v3 0 1 0 1 (by decide) (by decide)).2 ho3, bnd, i1]
        obtain ⟨V, hV, rfl⟩ := of_in ho (by decide)
        have hV1 : V ≤ 10 := by unfold out at ho; omega
        obtain ⟨s, hs, rfl⟩ := of_in ho2 (by decide)
        have hs1 : s < 2 ^ 31 := by unfold out at ho2; omega
        have hh := heldR_lt v s
        have h10 : 10 ^ nb r ≤ 10 ^ 6 := Nat.pow_le_pow_right (by decide) hbn
        have e1 := lk_l v hx V (heldR r s) hV1 hh (nI s) v3 (2 ^ nb r) 2000 0 (by omega) (by have : 2 ^ nb r ≤ 2 ^ 6 := Nat.pow_le_pow_right (by decide) hbn; omega)
        have hle := tmF_sum_le v V (heldR r s) hV1 0
        rw [lk_rev v] at hle
        rw [sm, nI_0, fracX v3 hle (Nat.pow_pos (by decide)) (by omega), bnd] at e1
        refine stROL h (r := lowN (sm (2 ^ nb r) (lkF r V (heldR r s))) (10 ^ nb r) v3) ?_ ?_
        · rw [eX_every hx v, bnd, eX_held hx v hs1, bnd]; exact e1
        · rw [eM_by v hy V s hV1 hs1 0 v3, bnd, lk_rev v]
theorem S_mean (x y : Sg) (v1 v2 v3 : Int32) (h : Inv x y) : StL Inv (oX7_mean x v1 v2 v3) (oX8_mean y v1 v2 v3) := by
  obtain ⟨r, ⟨v, hx, hy⟩, hrest⟩ := id h
  have hl := v.1
  have hbn := v.2.1
  have hp : 2 ^ nl r ≤ 2 ^ 4 := Nat.pow_le_pow_right (by decide) hl
  unfold oX7_mean oX8_mean fX7_mean fX8_mean
  by_cases ho : out v1 0 10
  · exact stROL h (r := -1) (by rw [(wiI v1 0 10 0 10 (by decide) (by decide)).1 ho, bnd, i0]) (by rw [(inI v1 0 10 0 10 (by decide) (by decide)).1 ho, bnd, i0])
  · rw [(wiI v1 0 10 0 10 (by decide) (by decide)).2 ho, bnd, i1, (inI v1 0 10 0 10 (by decide) (by decide)).2 ho, bnd, i1]
    by_cases ho2 : out v2 0 (((2 ^ nl r : Nat) : Int) - 1)
    · exact stROL h (r := -1) (by rw [(eX_hasLs hx v v2).1 ho2, bnd, i0]) (by rw [(eM_isLs hy v v2).1 ho2, bnd, i0])
    · rw [(eX_hasLs hx v v2).2 ho2, bnd, i1, (eM_isLs hy v v2).2 ho2, bnd, i1]
      by_cases ho3 : out v3 0 1
      · exact stROL h (r := -1) (by rw [(wiI v3 0 1 0 1 (by decide) (by decide)).1 ho3, bnd, i0]) (by rw [(inI v3 0 1 0 1 (by decide) (by decide)).1 ho3, bnd, i0])
      · rw [(wiI v3 0 1 0 1 (by decide) (by decide)).2 ho3, bnd, i1, (inI v3 0 1 0 1 (by decide) (by decide)).2 ho3, bnd, i1]
        obtain ⟨V, hV, rfl⟩ := of_in ho (by decide)
        have hV1 : V ≤ 10 := by unfold out at ho; omega
        obtain ⟨s, hs, rfl⟩ := of_in ho2 (by decide)
        have hs1 : s < 2 ^ 31 := by unfold out at ho2; omega
        have hh := heldR_lt v s
        have hse := seatsR_le v (heldR r s)
        have hm : (10 - V) * seatsR r (heldR r s) ≤ 10 * 18 := Nat.mul_le_mul (by omega) hse
        refine stROL h (r := lowN ((10 - V) * seatsR r (heldR r s)) 10 v3) ?_ ?_
        · rw [eX_held hx v hs1, bnd, eX_seats hx v (by omega), bnd, show (10 : Int32) = nI 10 from rfl, pk_sub hV1, nI_mul, nI_l (by omega), show (10 : Int64) = lN 10 from rfl, fracX v3 (by omega) (by decide) (by decide), bnd]
        · rw [eM_by v hy V s hV1 hs1 1 v3, bnd, mean_eq v V s hV1]
