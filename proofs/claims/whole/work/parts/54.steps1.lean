theorem i1 {α : Type} (A B : α) : (if (1 : Int32) = 0 then A else B) = B := if_neg (by decide)
theorem i0 {α : Type} (A B : α) : (if (0 : Int32) = 0 then A else B) = A := if_pos rfl
theorem stRO {x y : Sg} (h : Inv x y) {a b : Option Int32} {r : Int32} (ha : a = some r) (hb : b = some r) : StI Inv (a.map (fun r => (x, r))) (b.map (fun r => (y, r))) := ⟨x, y, r, by rw [ha]; rfl, by rw [hb]; rfl, h⟩
theorem stSame {x y : Sg} (h : Inv x y) {a b : Option (Sg × Int32)} {r : Int32} (ha : a = some (x, r)) (hb : b = some (y, r)) : StI Inv a b := ⟨x, y, r, ha, hb, h⟩
theorem stOf {x' y' : Sg} {a b : Option (Sg × Int32)} {r : Int32} (ha : a = some (x', r)) (hb : b = some (y', r)) (h : Inv x' y') : StI Inv a b := ⟨x', y', r, ha, hb, h⟩
theorem of_in {x : Int32} {L H : Int} (h : ¬ out x L H) (hL : 0 ≤ L) : ∃ c : Nat, (c : Int) = x.toInt ∧ x = nI c := by
  unfold out at h
  refine ⟨x.toInt.toNat, by omega, Int32.toInt_inj.mp ?_⟩
  have h2 : x.toInt < 2 ^ 31 := Int32.toInt_lt x
  rw [nI_toInt (by omega)]; omega
theorem Inv.T {x y x' y' : Sg} (h : Inv x y) (hx : ∀ c, c ≠ 32 → c ≠ 33 → x' c = x c) (hy : ∀ c, c ≠ 3 → c ≠ 0 → y' c = y c) (hy0 : ∀ j, j ≠ 9 → y' 0 j = y 0 j) (hT : InvT x' y') : Inv x' y' := by
  obtain ⟨r, ⟨v, h1, h2⟩, h3, h4, h5, h6, h7⟩ := h
  refine ⟨r, ⟨v, h1.cg (fun c _ _ => hx c (by omega) (by omega)), by rw [hy0 1 (by omega)]; exact h2.1, by rw [hy0 2 (by omega)]; exact h2.2.1, RM.cg v h2.2.2 (fun j _ _ => by rw [hy 1 (by omega) (by omega)])⟩, h3.tr rfl rfl (fun c hc => hx c (by omega) (by omega)) (hy 10 (by omega) (by omega)) (fun j _ _ => by rw [hy 1 (by omega) (by omega)]), hT, h5.tr rfl (fun c hc => hx c (by omega) (by omega)) (hy 8 (by omega) (by omega)) (hy0 24 (by omega)), h6.tr (fun c _ _ => hx c (by omega) (by omega)) (fun c hc => hy c (by omega) (by omega)), ?_, ?_, ?_, ?_⟩
  · rw [hx 31 (by omega) (by omega), hy0 10 (by omega)]; exact h7.1
  · rw [hx 0 (by omega) (by omega), hy0 31 (by omega)]; exact h7.2.1
  · rw [hy 4 (by omega) (by omega)]; exact h7.2.2.1
  · rw [hy 5 (by omega) (by omega)]; exact h7.2.2.2
theorem Inv.S {x y x' y' : Sg} {r : Rm} (h : InvR r x y ∧ InvI r x y ∧ InvT x y ∧ InvS r x y ∧ InvH x y ∧ InvE x y) (hx : ∀ c, c ≠ 37 → c ≠ 38 → c ≠ 39 → x' c = x c) (hy : ∀ c, c ≠ 8 → c ≠ 0 → y' c = y c) (hy0 : ∀ j, j ≠ 24 → y' 0 j = y 0 j) (hS : InvS r x' y') : Inv x' y' := by
  obtain ⟨⟨v, h1, h2⟩, h3, h4, h5, h6, h7⟩ := h
  refine ⟨r, ⟨v, h1.cg (fun c _ _ => hx c (by omega) (by omega) (by omega)), by rw [hy0 1 (by omega)]; exact h2.1, by rw [hy0 2 (by omega)]; exact h2.2.1, RM.cg v h2.2.2 (fun j _ _ => by rw [hy 1 (by omega) (by omega)])⟩, h3.tr rfl rfl (fun c hc => hx c (by omega) (by omega) (by omega)) (hy 10 (by omega) (by omega)) (fun j _ _ => by rw [hy 1 (by omega) (by omega)]), h4.tr (fun c hc => hx c (by omega) (by omega) (by omega)) (hy 3 (by omega) (by omega)) (hy0 9 (by omega)), hS, h6.tr (fun c _ _ => hx c (by omega) (by omega) (by omega)) (fun c hc => hy c (by omega) (by omega)), ?_, ?_, ?_, ?_⟩
  · rw [hx 31 (by omega) (by omega) (by omega), hy0 10 (by omega)]; exact h7.1
  · rw [hx 0 (by omega) (by omega) (by omega), hy0 31 (by omega)]; exact h7.2.1
  · rw [hy 4 (by omega) (by omega)]; exact h7.2.2.1
  · rw [hy 5 (by omega) (by omega)]; exact h7.2.2.2
theorem up2_row {σ : Sg} {k j a : Nat} {v : Int32} (h : a ≠ k) : up2 σ k j v a = σ a := up2_ne h
theorem chr : ∀ c, c < 128 → vp_nar .char (((nI c).toUInt32 % 65536).toInt32) = nI c := by decide +kernel
theorem S_feed (x y : Sg) (v1 : Int32) (h : Inv x y) : StI Inv (oX7_feed x v1) (oX8_feed y v1) := by
  unfold oX7_feed oX8_feed fX7_feed fX8_feed
  by_cases ho : out v1 0 127
  · exact stSame h (r := -1) (by rw [(wiI v1 0 127 0 127 (by decide) (by decide)).1 ho, bnd, i0]) (by rw [(inI v1 0 127 0 127 (by decide) (by decide)).1 ho, bnd, i0])
  · obtain ⟨c, hc, rfl⟩ := of_in ho (by decide)
    have hc1 : c < 128 := by unfold out at ho; omega
    obtain ⟨r, h1, h2, ⟨tl, t1, t2, t3, t4⟩, h5⟩ := id h
    rw [(wiI _ 0 127 0 127 (by decide) (by decide)).2 ho, bnd, i1, (inI _ 0 127 0 127 (by decide) (by decide)).2 ho, bnd, i1]
    unfold fX5_add
    by_cases hf : tl = 160
    · subst hf
      exact stSame h (r := -3) (by rw [t2, if_neg (by decide), bnd, i0]) (by rw [t3, if_pos (by decide)])
    · rw [t2, if_pos (show nI tl < 160 from nI_lt (b := 160) (by omega) (by omega)), wrN (by omega) (by omega), bnd, t3, if_neg (show ¬ nI tl = 160 from fun q => hf ((nI_eq (b := 160) (by omega) (by omega)).mp q)), wrN (by omega) (by omega), bnd]
      unfold pf
      rw [bnd, bnd, i1, bnd, up2_row (by omega), up2_row (by omega), chr c hc1, t2, t3, nI_1]
      refine stOf (x' := up2 (up2 x 33 tl (nI c)) 32 1 (nI (tl + 1))) (y' := up2 (up2 y 3 tl (nI c)) 0 9 (nI (tl + 1))) (r := nI (tl + 1)) ?_ ?_ ?_
      · simp [up2_at]
      · simp [up2_at]
      · refine Inv.T h (fun c h1 h2 => by rw [up2_row h1, up2_row h2]) (fun c h1 h2 => by rw [up2_row h2, up2_row h1]) (fun j hj => by rw [up2_at, if_neg (by omega), up2_row (by omega)]) ⟨tl + 1, by omega, by rw [up2_at, if_pos ⟨rfl, rfl⟩], by rw [up2_at, if_pos ⟨rfl, rfl⟩], fun i hi => ?_⟩
        by_cases hi2 : i = tl
        · exact ⟨c, hc1, by simp [up2_at, hi2], by simp [up2_at, hi2]⟩
        · obtain ⟨d, d1, d2, d3⟩ := t4 i (by omega)
          exact ⟨d, d1, by simp [up2_at, hi2, d2], by simp [up2_at, hi2, d3]⟩
theorem S_end (x y : Sg) (v1 : Int32) (h : Inv x y) : StI Inv (oX7_end x v1) (oX8_end y v1) := by
  unfold oX7_end oX8_end fX7_end fX8_end
  obtain ⟨r, h1, h2, ⟨tl, t1, t2, t3, t4⟩, h5⟩ := id h
  rw [t2, t3]
  have e1 : (nI tl).toInt = (tl : Int) := nI_toInt (by omega)
  by_cases ho : out v1 0 tl
  · exact stSame h (r := -1) (by rw [(wiI v1 0 (nI tl) 0 tl (by decide) e1).1 ho, bnd, i0]) (by rw [(inI v1 0 _ 0 tl (by decide) (by rw [ti64]; exact e1)).1 ho, bnd, i0])
  · obtain ⟨c, hc, rfl⟩ := of_in ho (by decide)
    have hc1 : c ≤ tl := by unfold out at ho; omega
    rw [(wiI _ 0 (nI tl) 0 tl (by decide) e1).2 ho, bnd, i1, (inI _ 0 _ 0 tl (by decide) (by rw [ti64]; exact e1)).2 ho, bnd, i1]
    unfold pf
    rw [bnd, bnd]
    refine ⟨_, _, _, rfl, rfl, Inv.T h (fun c h1 h2 => by rw [up2_row h1]) (fun c h1 h2 => by rw [up2_row h2]) (fun j hj => by rw [up2_at, if_neg (by omega)]) ⟨c, by omega, by rw [up2_at, if_pos ⟨rfl, rfl⟩], by rw [up2_at, if_pos ⟨rfl, rfl⟩], fun i hi => ?_⟩⟩
    rw [up2_row (by omega), up2_row (by omega)]
    exact t4 i (by omega)
theorem S_fault (x y : Sg) (h : Inv x y) : StI Inv (oX7_fault x) (oX8_fault y) := by
  obtain ⟨r, h1, h2, h3, h4, h5, h6⟩ := id h
  exact stRO h (r := y 0 10) (by unfold fX7_fault; rw [h6.1]) rfl
theorem S_torn (x y : Sg) (h : Inv x y) : StI Inv (oX7_torn x) (oX8_torn y) := by
  obtain ⟨r, h1, h2, h3, h4, h5, h6⟩ := id h
  exact stRO h (r := y 0 31) (by unfold fX7_torn; rw [h6.2.1]) rfl
theorem S_rule (x y : Sg) (v1 : Int32) (h : Inv x y) : StI Inv (oX7_rule x v1) (oX8_rule y v1) := by
  obtain ⟨r, ⟨v, hx, hy⟩, -⟩ := id h
  have hp := v.2.2.1
  have ha := allR_lt v
  unfold oX7_rule oX8_rule fX7_rule fX8_rule
  by_cases h0 : v1 = 0
  · exact stRO h (r := nI (nl r)) (by rw [if_pos h0, hx.1]) (by rw [if_pos h0, hy.1])
  by_cases h1 : v1 = 1
  · exact stRO h (r := nI (nb r)) (by rw [if_neg h0, if_pos h1, hx.2.1]) (by rw [if_neg h0, if_pos h1, hy.2.1])
  by_cases h2 : v1 = 2
  · exact stRO h (r := nI (pr r)) (by rw [if_neg h0, if_neg h1, if_pos h2, hx.2.2.1]) (by rw [if_neg h0, if_neg h1, if_pos h2, show (28 : Int32) = nI 28 from rfl, rdN (by omega) (by omega), bnd, mm_pr hy, m3 _ (by omega)])
  by_cases h3 : v1 = 3
  · exact stRO h (r := nI (seatsR r (allR r))) (by rw [if_neg h0, if_neg h1, if_neg h2, if_pos h3, eX_every hx v, bnd, eX_seats hx v (by omega), bnd]) (by rw [if_neg h0, if_neg h1, if_neg h2, if_pos h3, eM_all hy v, bnd, eM_seats hy v (by omega), bnd])
  by_cases h4 : v1 = 4
  · exact stRO h (r := nI (guiR r)) (by rw [if_neg h0, if_neg h1, if_neg h2, if_neg h3, if_pos h4, eX_gui hx v, bnd]) (by rw [if_neg h0, if_neg h1, if_neg h2, if_neg h3, if_pos h4, eM_gui hy v, bnd])
  by_cases h5 : v1 = 5
  · exact stRO h (r := nI (nobR r)) (by rw [if_neg h0, if_neg h1, if_neg h2, if_neg h3, if_neg h4, if_pos h5, eX_own hx v, bnd]) (by rw [if_neg h0, if_neg h1, if_neg h2, if_neg h3, if_neg h4, if_pos h5, eM_nob hy v, bnd])
  by_cases h6 : v1 = 6
  · exact stRO h (r := nI (slR r)) (by rw [if_neg h0, if_neg h1, if_neg h2, if_neg h3, if_neg h4, if_neg h5, if_pos h6, eX_sl hx v, bnd]) (by rw [if_neg h0, if_neg h1, if_neg h2, if_neg h3, if_neg h4, if_neg h5, if_pos h6, eM_sl hy v, bnd])
  exact stRO h (r := -1) (by rw [if_neg h0, if_neg h1, if_neg h2, if_neg h3, if_neg h4, if_neg h5, if_neg h6]) (by rw [if_neg h0, if_neg h1, if_neg h2, if_neg h3, if_neg h4, if_neg h5, if_neg h6])
theorem ti_ne {x : Int32} {k : Int32} (h : x ≠ k) : x.toInt ≠ k.toInt := fun q => h (Int32.toInt_inj.mp q)
theorem out3 {x : Int32} (h0 : x ≠ 0) (h1 : x ≠ 1) (h2 : x ≠ 2) : out x 0 2 := by
  have a0 : x.toInt ≠ 0 := ti_ne h0
  have a1 : x.toInt ≠ 1 := ti_ne h1
  have a2 : x.toInt ≠ 2 := ti_ne h2
  unfold out; omega
theorem out2 {x : Int32} (h0 : x ≠ 0) (h1 : x ≠ 1) : out x 0 1 := by
  have a0 : x.toInt ≠ 0 := ti_ne h0
  have a1 : x.toInt ≠ 1 := ti_ne h1
  unfold out; omega
theorem S_lord (x y : Sg) (v1 v2 : Int32) (h : Inv x y) : StI Inv (oX7_lord x v1 v2) (oX8_lord y v1 v2) := by
  obtain ⟨r, ⟨v, hx, hy⟩, -⟩ := id h
  have hl := v.1
  unfold oX7_lord oX8_lord fX7_lord fX8_lord
  rcases out_n (n := nl r) (by omega) v1 with ho | ⟨l, hl2, rfl⟩
  · exact stRO h (r := -1) (by rw [eX_hasLn hx ((out_x (by omega)).mp ho), bnd, i0]) (by rw [eM_isLn hy v ho, bnd, i0])
  · have hp : 2 ^ l < 2 ^ 31 := Nat.pow_lt_pow_right (by decide) (by omega)
    rw [eX_hasL hx v hl2, bnd, i1, eM_isL hy v hl2, bnd, i1, shlN (by omega)]
    have hh := heldR_lt v (2 ^ l)
    by_cases h0 : v2 = 0
    · subst h0
      exact stRO h (r := nI (gu r l)) (by rw [if_pos rfl, rdN (by omega) (by omega), bnd, hx.2.2.2.1 l hl2]) (by rw [(inI 0 0 2 0 2 (by decide) (by decide)).2 (by unfold out; decide), bnd, i1, eM_held hy v hp, bnd, if_pos rfl, rdN (by omega) (by omega), bnd, mm_gu hy hl2])
    by_cases h1 : v2 = 1
    · subst h1
      exact stRO h (r := nI (heldR r (2 ^ l))) (by rw [if_neg h0, if_pos rfl, eX_held hx v hp, bnd]) (by rw [(inI 1 0 2 0 2 (by decide) (by decide)).2 (by unfold out; decide), bnd, i1, eM_held hy v hp, bnd, if_neg h0, if_pos rfl])
    by_cases h2 : v2 = 2
    · subst h2
      exact stRO h (r := nI (seatsR r (heldR r (2 ^ l)))) (by rw [if_neg h0, if_neg h1, if_pos rfl, eX_held hx v hp, bnd, eX_seats hx v (by omega), bnd]) (by rw [(inI 2 0 2 0 2 (by decide) (by decide)).2 (by unfold out; decide), bnd, i1, eM_held hy v hp, bnd, if_neg h0, if_neg h1, eM_seats hy v (by omega), bnd])
    exact stRO h (r := -1) (by rw [if_neg h0, if_neg h1, if_neg h2]) (by rw [(inI v2 0 2 0 2 (by decide) (by decide)).1 (out3 h0 h1 h2), bnd, i0])
theorem orNone_om {w : Nat} (h : w ≤ 4) : fX8_orNone (nI w - 1) = some (oX w) := by
  rcases (show w = 0 ∨ w = 1 ∨ w = 2 ∨ w = 3 ∨ w = 4 by omega) with rfl | rfl | rfl | rfl | rfl <;> decide
theorem S_borough (x y : Sg) (v1 v2 : Int32) (h : Inv x y) : StI Inv (oX7_borough x v1 v2) (oX8_borough y v1 v2) := by
  obtain ⟨r, ⟨v, hx, hy⟩, -⟩ := id h
  have hl := v.1
  have hb := v.2.1
  unfold oX7_borough oX8_borough fX7_borough fX8_borough
  rcases out_n (n := nb r) (by omega) v1 with ho | ⟨b, hb2, rfl⟩
  · exact stRO h (r := -1) (by rw [eX_hasBn hx ((out_x (by omega)).mp ho), bnd, i0]) (by rw [eM_isBn hy v ho, bnd, i0])
  · have hv := v.2.2.2.2 b hb2
    have hxx := hx.2.2.2.2 b hb2
    rw [eX_hasB hx v hb2, bnd, i1, eM_isB hy v hb2, bnd, i1]
    unfold fX8_borough_b48
    by_cases h0 : v2 = 0
    · subst h0
      exact stRO h (r := nI (kd r b)) (by rw [if_pos rfl, rdN (by omega) (by omega), bnd]; exact congrArg some hxx.1) (by rw [if_pos rfl, show ((4 : Int32) + (6 : Int32) * 0) = nI 4 from rfl, nI_add, rdN (by omega) (by omega), bnd, mm_kd hy hb2])
    by_cases h1 : v2 = 1
    · subst h1
      exact stRO h (r := nI (ho r b)) (by rw [if_neg h0, if_pos rfl, rdN (by omega) (by omega), bnd]; exact congrArg some hxx.2.1) (by rw [if_neg h0, if_pos rfl, show ((4 : Int32) + (6 : Int32) * 1) = nI 10 from rfl, nI_add, rdN (by omega) (by omega), bnd, mm_ho hy hb2])
    by_cases h2 : v2 = 2
    · subst h2
      exact stRO h (r := nI (se r b)) (by rw [if_neg h0, if_neg h1, if_pos rfl, rdN (by omega) (by omega), bnd]; exact congrArg some hxx.2.2.1) (by rw [if_neg h0, if_neg h1, if_pos rfl, show ((4 : Int32) + (6 : Int32) * 2) = nI 16 from rfl, nI_add, rdN (by omega) (by omega), bnd, mm_se hy hb2])
    by_cases h3 : v2 = 3
    · subst h3
      exact stRO h (r := oX (ow r b)) (by rw [if_neg h0, if_neg h1, if_neg h2, if_pos rfl, rdN (by omega) (by omega), bnd]; exact congrArg some hxx.2.2.2) (by rw [if_neg h0, if_neg h1, if_neg h2, if_pos rfl, eM_ow hy v hb2, bnd, orNone_om (by omega), bnd])
    by_cases h4 : v2 = 4
    · subst h4
      exact stRO h (r := nI (votR r b)) (by rw [if_neg h0, if_neg h1, if_neg h2, if_neg h3, if_pos rfl, eX_vot hx v hb2, bnd]) (by rw [if_neg h0, if_neg h1, if_neg h2, if_neg h3, if_pos rfl, eM_vot hy v hb2, bnd])
    by_cases h5 : v2 = 5
    · subst h5
      exact stRO h (r := nI (cosR r b)) (by rw [if_neg h0, if_neg h1, if_neg h2, if_neg h3, if_neg h4, if_pos rfl, eX_cos hx v hb2, bnd]) (by rw [if_neg h0, if_neg h1, if_neg h2, if_neg h3, if_neg h4, if_pos rfl, eM_cos hy v hb2, bnd])
    exact stRO h (r := -1) (by rw [if_neg h0, if_neg h1, if_neg h2, if_neg h3, if_neg h4, if_neg h5]) (by rw [if_neg h0, if_neg h1, if_neg h2, if_neg h3, if_neg h4, if_neg h5])
