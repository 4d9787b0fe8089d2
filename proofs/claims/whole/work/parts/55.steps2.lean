theorem swapN {σ : Sg} {q n i : Nat} {v : Int32} (h : i < n) (hn : n < 2 ^ 30) : fX7_swap σ q n (nI i) v = some (up2 σ q i v, σ q i) := by
  unfold fX7_swap
  rw [(wiI (nI i) 0 (Int32.ofNat n - 1) 0 ((n : Int) - 1) (by decide) (pred_ti hn)).2 (nout (by omega) h), bnd, i1, rdN h (by omega), bnd, wrN h (by omega), bnd]
theorem puts0 {σ : Sg} {p v w : Int32} : fX8_puts σ 0 p v w = some (σ, -1) := by unfold fX8_puts; rw [i0]
theorem puts1 {σ : Sg} {p : Nat} {v w : Int32} (h : p < 116) : fX8_puts σ 1 (nI p) v w = some (up2 σ 1 p (v - w), σ 1 p + w) := by
  unfold fX8_puts
  rw [i1, rdN h (by omega), bnd, wrN h (by omega), bnd]
theorem S_purse (x y : Sg) (v1 v2 : Int32) (h : Inv x y) : StI Inv (oX7_purse x v1 v2) (oX8_purse y v1 v2) := by
  obtain ⟨r, ⟨v, hx, hy⟩, hrest⟩ := id h
  have hl := v.1
  unfold oX7_purse oX8_purse fX7_purse fX8_purse fX8_purse_b25 fX8_purse_b26
  rcases out_n (n := nl r) (by omega) v1 with ho | ⟨l, hl2, rfl⟩
  · exact stSame h (r := -1) (by rw [eX_hasLn hx ((out_x (by omega)).mp ho), bnd, i0]) (by rw [eM_isLn hy v ho, bnd, i0, puts0, bnd])
  · rw [eX_hasL hx v hl2, bnd, i1, eM_isL hy v hl2, bnd, i1]
    by_cases ho : out v2 0 99
    · exact stSame h (r := -1) (by rw [(wiI v2 0 99 0 99 (by decide) (by decide)).1 ho, bnd, i0]) (by rw [(inI v2 0 99 0 99 (by decide) (by decide)).1 ho, bnd, i0, puts0, bnd])
    · obtain ⟨c, hc, rfl⟩ := of_in ho (by decide)
      have hc1 : c ≤ 99 := by unfold out at ho; omega
      refine stOf (x' := up2 x 2 l (nI c)) (y' := up2 y 1 l (nI c)) (r := nI (gu r l)) ?_ ?_ ?_
      · rw [(wiI _ 0 99 0 99 (by decide) (by decide)).2 ho, bnd, i1, swapN (by omega) (by omega), bnd]
        exact congrArg (fun z => some (_, z)) (hx.2.2.2.1 l hl2)
      · rw [(inI _ 0 99 0 99 (by decide) (by decide)).2 ho, bnd, i1, puts1 (by omega), bnd, mm_gu hy hl2, Int32.add_zero, Int32.sub_zero]
      · have hm := RM.setGu (σ := y) (o := 0) (i := l) (x := c) v hy.2.2 (by omega)
        rw [Nat.zero_add] at hm
        exact Inv.tr (r' := setGu r l c) hrest rfl rfl (AX.up (by omega)) (AM.up (by omega)) ⟨v.setGu hc1, hx.setGu, MM.up hy rfl rfl hm⟩
theorem S_price (x y : Sg) (v1 : Int32) (h : Inv x y) : StI Inv (oX7_price x v1) (oX8_price y v1) := by
  obtain ⟨r, ⟨v, hx, hy⟩, hrest⟩ := id h
  have hp := v.2.2.1
  unfold oX7_price oX8_price fX7_price fX8_price
  by_cases ho : out v1 0 9
  · exact stSame h (r := -1) (by rw [(wiI v1 0 9 0 9 (by decide) (by decide)).1 ho, bnd, i0]) (by rw [(inI v1 0 9 0 9 (by decide) (by decide)).1 ho, bnd, puts0, bnd])
  · obtain ⟨c, hc, rfl⟩ := of_in ho (by decide)
    have hc1 : c ≤ 9 := by unfold out at ho; omega
    refine stOf (x' := up2 x 1 2 (nI c)) (y' := up2 y 1 28 (nI c - 3)) (r := nI (pr r)) ?_ ?_ ?_
    · rw [(wiI _ 0 9 0 9 (by decide) (by decide)).2 ho, bnd, i1]; unfold pf; rw [bnd, hx.2.2.1]
    · rw [(inI _ 0 9 0 9 (by decide) (by decide)).2 ho, bnd, show (28 : Int32) = nI 28 from rfl, puts1 (by omega), bnd, mm_pr hy, m3 _ (by omega)]
    · have hm := RM.setPr (σ := y) (o := 0) (x := c) v hy.2.2
      exact Inv.tr (r' := setPr r c) hrest rfl rfl (AX.up (by omega)) (AM.up (by omega)) ⟨v.setPr hc1, hx.setPr, MM.up hy rfl rfl hm⟩
theorem S_alter (x y : Sg) (v1 v2 v3 : Int32) (h : Inv x y) : StI Inv (oX7_alter x v1 v2 v3) (oX8_alter y v1 v2 v3) := by
  obtain ⟨r, ⟨v, hx, hy⟩, hrest⟩ := id h
  have hb := v.2.1
  unfold oX7_alter oX8_alter fX7_alter fX8_alter fX8_alter_b54 fX8_alter_b55 fX8_alter_b75 fX8_alter_b76
  rcases out_n (n := nb r) (by omega) v1 with ho | ⟨b, hb2, rfl⟩
  · refine stSame h (r := -1) (by rw [eX_hasBn hx ((out_x (by omega)).mp ho), bnd, i0]) ?_
    rw [eM_isBn hy v ho]
    have hin : ∀ lo hi, ∃ t, fX8_in v3.toInt64 lo hi = some t := fun lo hi => by
      by_cases hq : out v3 lo.toInt hi.toInt
      · exact ⟨_, (inI v3 lo hi _ _ rfl rfl).1 hq⟩
      · exact ⟨_, (inI v3 lo hi _ _ rfl rfl).2 hq⟩
    obtain ⟨t1, e1⟩ := hin 0 3
    obtain ⟨t2, e2⟩ := hin 1 9
    simp only [e1, e2, bnd, i0, puts0]
    split
    · rfl
    · split
      · rfl
      · split
        · split <;> rfl
        · rfl
  · have hv := v.2.2.2.2 b hb2
    have hxx := hx.2.2.2.2 b hb2
    simp only [eX_hasB hx v hb2, bnd, i1, eM_isB hy v hb2]
    by_cases h0 : v2 = 0
    · subst h0
      rw [if_pos rfl, if_pos rfl]
      by_cases ho : out v3 0 3
      · exact stSame h (r := -1) (by rw [(wiI v3 0 3 0 3 (by decide) (by decide)).1 ho, bnd, i0]) (by rw [(inI v3 0 3 0 3 (by decide) (by decide)).1 ho, bnd, i0, puts0, bnd])
      · obtain ⟨c, hc, rfl⟩ := of_in ho (by decide)
        have hc1 : c ≤ 3 := by unfold out at ho; omega
        refine stOf (x' := up2 x 3 b (nI c)) (y' := up2 y 1 (4 + b) (nI c)) (r := nI (kd r b)) ?_ ?_ ?_
        · rw [(wiI _ 0 3 0 3 (by decide) (by decide)).2 ho, bnd, i1, swapN (by omega) (by omega), bnd]; exact congrArg (fun z => some (_, z)) hxx.1
        · rw [(inI _ 0 3 0 3 (by decide) (by decide)).2 ho, bnd, i1, show ((4 : Int32) + (6 : Int32) * 0) = nI 4 from rfl, nI_add, puts1 (by omega), bnd, mm_kd hy hb2, Int32.add_zero, Int32.sub_zero]
        · have hm := RM.setKd (σ := y) (o := 0) (i := b) (x := c) v hy.2.2 (by omega)
          rw [Nat.zero_add] at hm
          exact Inv.tr (r' := setKd r b c) hrest rfl rfl (AX.up (by omega)) (AM.up (by omega)) ⟨v.setKd hc1, hx.setKd, MM.up hy rfl rfl hm⟩
    by_cases h1 : v2 = 1
    · subst h1
      rw [if_neg h0, if_neg h0, if_pos rfl, if_pos rfl]
      by_cases hq : out v3 1 9
      · exact stSame h (r := -1) (by rw [(wiI v3 1 9 1 9 (by decide) (by decide)).1 hq, bnd, i0]) (by rw [(inI v3 1 9 1 9 (by decide) (by decide)).1 hq, bnd, i0, puts0, bnd])
      · obtain ⟨c, hc, rfl⟩ := of_in hq (by decide)
        have hc1 : 1 ≤ c ∧ c ≤ 9 := by unfold out at hq; omega
        refine stOf (x' := up2 x 4 b (nI c)) (y' := up2 y 1 (10 + b) (nI c)) (r := nI (ho r b)) ?_ ?_ ?_
        · rw [(wiI _ 1 9 1 9 (by decide) (by decide)).2 hq, bnd, i1, swapN (by omega) (by omega), bnd]; exact congrArg (fun z => some (_, z)) hxx.2.1
        · rw [(inI _ 1 9 1 9 (by decide) (by decide)).2 hq, bnd, i1, show ((4 : Int32) + (6 : Int32) * 1) = nI 10 from rfl, nI_add, puts1 (by omega), bnd, mm_ho hy hb2, Int32.add_zero, Int32.sub_zero]
        · have hm := RM.setHo (σ := y) (o := 0) (i := b) (x := c) v hy.2.2 (by omega)
          rw [Nat.zero_add] at hm
          exact Inv.tr (r' := setHo r b c) hrest rfl rfl (AX.up (by omega)) (AM.up (by omega)) ⟨v.setHo hc1, hx.setHo, MM.up hy rfl rfl hm⟩
    by_cases h2 : v2 = 2
    · subst h2
      rw [if_neg h0, if_neg h0, if_neg h1, if_neg h1, if_pos rfl, if_pos rfl]
      by_cases ho : out v3 0 3
      · exact stSame h (r := -1) (by rw [(wiI v3 0 3 0 3 (by decide) (by decide)).1 ho, bnd, i0]) (by rw [(inI v3 0 3 0 3 (by decide) (by decide)).1 ho, bnd, i0, if_pos trivial, puts0, bnd])
      · obtain ⟨c, hc, rfl⟩ := of_in ho (by decide)
        have hc1 : c ≤ 3 := by unfold out at ho; omega
        refine stOf (x' := up2 x 5 b (nI c)) (y' := up2 y 1 (16 + b) (nI c)) (r := nI (se r b)) ?_ ?_ ?_
        · rw [(wiI _ 0 3 0 3 (by decide) (by decide)).2 ho, bnd, i1, swapN (by omega) (by omega), bnd]; exact congrArg (fun z => some (_, z)) hxx.2.2.1
        · rw [(inI _ 0 3 0 3 (by decide) (by decide)).2 ho, bnd, i1, show ((4 : Int32) + (6 : Int32) * 2) = nI 16 from rfl, nI_add, puts1 (by omega), bnd, mm_se hy hb2, Int32.add_zero, Int32.sub_zero]
        · have hm := RM.setSe (σ := y) (o := 0) (i := b) (x := c) v hy.2.2 (by omega)
          rw [Nat.zero_add] at hm
          exact Inv.tr (r' := setSe r b c) hrest rfl rfl (AX.up (by omega)) (AM.up (by omega)) ⟨v.setSe hc1, hx.setSe, MM.up hy rfl rfl hm⟩
    exact stSame h (r := -1) (by rw [if_neg h0, if_neg h1, if_neg h2]) (by rw [if_neg h0, if_neg h1, if_neg h2, if_pos trivial, puts0, bnd])
theorem S_give (x y : Sg) (v1 v2 : Int32) (h : Inv x y) : StI Inv (oX7_give x v1 v2) (oX8_give y v1 v2) := by
  obtain ⟨r, ⟨v, hx, hy⟩, hrest⟩ := id h
  have hl := v.1
  have hb := v.2.1
  unfold oX7_give oX8_give fX7_give fX8_give fX7_give_b30 fX8_give_b24 fX8_give_b51
  rcases out_n (n := nb r) (by omega) v1 with ho | ⟨b, hb2, rfl⟩
  · exact stSame h (r := -1) (by rw [eX_hasBn hx ((out_x (by omega)).mp ho), bnd, i0]) (by rw [eM_isBn hy v ho, bnd, i0])
  · have hv := v.2.2.2.2 b hb2
    have hxx := hx.2.2.2.2 b hb2
    rw [eX_hasB hx v hb2, bnd, i1, eM_isB hy v hb2, bnd, i1, eM_ow hy v hb2, bnd]
    have hm : ∀ w, RM (up2 y 1 (22 + b) (nI w)) 0 (setOw r b w) := fun w => by
      have hm := RM.setOw (σ := y) (o := 0) (i := b) (x := w) v hy.2.2 (by omega)
      rwa [Nat.zero_add] at hm
    by_cases h4 : v2 = -4
    · subst h4
      rw [if_pos rfl, if_pos rfl, if_pos rfl]
      refine stOf (x' := up2 x 6 b (oX 0)) (y' := up2 y 1 (22 + b) (nI 0)) (r := oX (ow r b)) ?_ ?_ (Inv.tr (r' := setOw r b 0) hrest rfl rfl (AX.up (by omega)) (AM.up (by omega)) ⟨v.setOw (by omega), hx.setOw, MM.up hy rfl rfl (hm 0)⟩)
      · rw [swapN (by omega) (by omega), bnd]; exact congrArg (fun z => some (_, z)) hxx.2.2.2
      · rw [show (22 : Int32) = nI 22 from rfl, nI_add, wrN (by omega) (by omega), bnd, orNone_om (by omega), bnd]; rfl
    · rw [if_neg h4, if_neg h4, if_neg h4]
      rcases out_n (n := nl r) (by omega) v2 with ho | ⟨l, hl2, rfl⟩
      · exact stSame h (r := -1) (by rw [eX_hasLn hx ((out_x (by omega)).mp ho), bnd, i0]) (by rw [eM_isLn hy v ho, bnd, i0])
      · rw [eX_hasL hx v hl2, bnd, i1, eM_isL hy v hl2, bnd, i1]
        refine stOf (x' := up2 x 6 b (oX (l + 1))) (y' := up2 y 1 (22 + b) (nI (l + 1))) (r := oX (ow r b)) ?_ ?_ (Inv.tr (r' := setOw r b (l + 1)) hrest rfl rfl (AX.up (by omega)) (AM.up (by omega)) ⟨v.setOw (by omega), hx.setOw, MM.up hy rfl rfl (hm (l + 1))⟩)
        · rw [swapN (by omega) (by omega), bnd]; exact congrArg (fun z => some (_, z)) hxx.2.2.2
        · rw [show (22 : Int32) = nI 22 from rfl, nI_add, wrN (by omega) (by omega), bnd, orNone_om (by omega), bnd, nI_1]
theorem p2le {r : Rm} (v : RV r) : 2 ^ nl r ≤ 16 := Nat.pow_le_pow_right (n := 2) (by decide) v.1
theorem p2pos (r : Rm) : 0 < 2 ^ nl r := Nat.two_pow_pos _
theorem eX_hasLs {σ : Sg} {r : Rm} (h : RX σ 1 r) (v : RV r) (x : Int32) : (out x 0 (((2 ^ nl r : Nat) : Int) - 1) → fX2_hasLords σ 1 x = some 0) ∧ (¬ out x 0 (((2 ^ nl r : Nat) : Int) - 1) → fX2_hasLords σ 1 x = some 1) := by
  have h1 := p2le v
  have h2 := p2pos r
  have e1 : (nI (2 ^ nl r - 1)).toInt = ((2 ^ nl r : Nat) : Int) - 1 := by rw [nI_toInt (by omega)]; omega
  unfold fX2_hasLords out
  rw [eX_everyL h v, bnd]
  constructor
  · intro ho
    by_cases h3 : x < 0
    · rw [if_pos h3]
    · rw [if_neg h3, if_pos (Int32.lt_iff_toInt_lt.mpr (by
        rw [e1]
        have : ¬ x.toInt < 0 := fun q => h3 (Int32.lt_iff_toInt_lt.mpr q)
        omega))]
  · intro ho
    rw [if_neg (fun q => ho (Or.inl (Int32.lt_iff_toInt_lt.mp q))), if_neg (fun q => ho (Or.inr (by have := Int32.lt_iff_toInt_lt.mp q; rw [e1] at this; exact this)))]
theorem eM_isLs {σ : Sg} {r : Rm} (h : MM σ r) (v : RV r) (x : Int32) : (out x 0 (((2 ^ nl r : Nat) : Int) - 1) → fX8_isLords σ x = some 0) ∧ (¬ out x 0 (((2 ^ nl r : Nat) : Int) - 1) → fX8_isLords σ x = some 1) := by
  have h1 := p2le v
  have h2 := p2pos r
  have e1 : (nI (2 ^ nl r - 1)).toInt = ((2 ^ nl r : Nat) : Int) - 1 := by rw [nI_toInt (by omega)]; omega
  unfold fX8_isLords
  rw [h.1, shl1 _ (by have := v.1; omega)]
  exact ⟨fun ho => by rw [(inI x 0 _ 0 _ (by decide) (by rw [ti64]; exact e1)).1 ho, bnd]; decide, fun ho => by rw [(inI x 0 _ 0 _ (by decide) (by rw [ti64]; exact e1)).2 ho, bnd]; decide⟩
theorem S_carry (x y : Sg) (v1 v2 : Int32) (h : Inv x y) : StI Inv (oX7_carry x v1 v2) (oX8_carry y v1 v2) := by
  obtain ⟨r, ⟨v, hx, hy⟩, hrest⟩ := id h
  unfold oX7_carry oX8_carry fX7_carry fX8_carry
  by_cases ho : out v1 0 (((2 ^ nl r : Nat) : Int) - 1)
  · exact stRO h (r := -1) (by rw [(eX_hasLs hx v v1).1 ho, bnd, i0]) (by rw [(eM_isLs hy v v1).1 ho, bnd, i0])
  · rw [(eX_hasLs hx v v1).2 ho, bnd, i1, (eM_isLs hy v v1).2 ho, bnd, i1]
    obtain ⟨c, hc, rfl⟩ := of_in ho (by decide)
    have hc1 : c < 16 := by have := p2le v; unfold out at ho; omega
    have hh := heldR_lt v c
    by_cases h0 : v2 = 0
    · subst h0
      exact stRO h (r := nI (seatsR r (heldR r c))) (by rw [if_pos rfl, eX_held hx v (by omega), bnd, eX_seats hx v (by omega), bnd]) (by rw [(inI 0 0 1 0 1 (by decide) (by decide)).2 (by unfold out; decide), bnd, i1, if_pos rfl, eM_held hy v (by omega), bnd, eM_seats hy v (by omega), bnd])
    by_cases h1 : v2 = 1
    · subst h1
      rw [if_neg h0, if_pos rfl, (inI 1 0 1 0 1 (by decide) (by decide)).2 (by unfold out; decide), bnd, i1, i1, eX_car hx v (by omega), bnd, eM_car hy v (by omega), bnd]
      by_cases hcc : carR r c = true
      · exact stRO h (r := 1) (by rw [if_pos hcc, i1]) (by rw [if_pos hcc, i1])
      · exact stRO h (r := 0) (by rw [if_neg hcc, i0]) (by rw [if_neg hcc, i0])
    exact stRO h (r := -1) (by rw [if_neg h0, if_neg h1]) (by rw [(inI v2 0 1 0 1 (by decide) (by decide)).1 (out2 h0 h1), bnd, i0])
def ableR (r : Rm) (l : Nat) : Nat := msk (nb r) (canR r l)
theorem eX_able_l {σ : Sg} {r : Rm} (h : RX σ 1 r) (v : RV r) {l : Nat} (hl : l < nl r) : ∀ k n i, i + k = nb r → k < n → fX7_able_l17 σ (nI l) n (nI (msk i (canR r l))) (nI i) = some (nI (ableR r l)) := by
  have hb := v.2.1
  intro k
  induction k with
  | zero =>
    intro n i h1 h2
    obtain ⟨n, rfl⟩ := Nat.exists_eq_succ_of_ne_zero (show n ≠ 0 by omega)
    rw [fX7_able_l17, h.2.1, if_pos (nI_le (by omega) (by omega)), show i = nb r by omega]; rfl
  | succ k ih =>
    intro n i h1 h2
    obtain ⟨n, rfl⟩ := Nat.exists_eq_succ_of_ne_zero (show n ≠ 0 by omega)
    have hi := ih n (i + 1) (by omega) (by omega)
    rw [fX7_able_l17, h.2.1, if_neg (nI_ge (by omega) (by omega)), eX_can h v hl (by omega), bnd]
    rw [msk] at hi
    by_cases hc : canR r l i = true
    · rw [if_pos hc, i1, shlN (by omega), orN (msk_lt _ i), nI_1]
      rw [if_pos hc] at hi; exact hi
    · rw [if_neg hc, i0, nI_1]
      rw [if_neg hc] at hi; exact hi
theorem eM_able_l {σ : Sg} {r : Rm} (h : MM σ r) (v : RV r) {l : Nat} (hl : l < nl r) : ∀ k n i, i + k = nb r → k < n → fX8_able_l14 σ (nI l) n (nI (msk i (canR r l))) (nI i) = some (nI (ableR r l)) := by
  have hb := v.2.1
  intro k
  induction k with
  | zero =>
    intro n i h1 h2
    obtain ⟨n, rfl⟩ := Nat.exists_eq_succ_of_ne_zero (show n ≠ 0 by omega)
    rw [fX8_able_l14, h.2.1, if_pos (nI_le (by omega) (by omega)), show i = nb r by omega]; rfl
  | succ k ih =>
    intro n i h1 h2
    obtain ⟨n, rfl⟩ := Nat.exists_eq_succ_of_ne_zero (show n ≠ 0 by omega)
    have hi := ih n (i + 1) (by omega) (by omega)
    rw [fX8_able_l14, h.2.1, if_neg (nI_ge (by omega) (by omega)), eM_can h v hl (by omega), bnd]
    rw [msk] at hi
    by_cases hc : canR r l i = true
    · rw [if_pos hc, i1, shlN (by omega), orN (msk_lt _ i), nI_1]
      rw [if_pos hc] at hi; exact hi
    · rw [if_neg hc, i0, Int32.or_zero, nI_1]
      rw [if_neg hc] at hi; exact hi
theorem S_able (x y : Sg) (v1 : Int32) (h : Inv x y) : StI Inv (oX7_able x v1) (oX8_able y v1) := by
  obtain ⟨r, ⟨v, hx, hy⟩, hrest⟩ := id h
  have hl := v.1
  have hb := v.2.1
  unfold oX7_able oX8_able fX7_able fX8_able
  rcases out_n (n := nl r) (by omega) v1 with ho | ⟨l, hl2, rfl⟩
  · exact stRO h (r := -1) (by rw [eX_hasLn hx ((out_x (by omega)).mp ho), bnd, i0]) (by rw [eM_isLn hy v ho, bnd, i0])
  · exact stRO h (r := nI (ableR r l)) (by rw [eX_hasL hx v hl2, bnd, i1]; exact eX_able_l hx v hl2 (nb r) 2000 0 (by omega) (by omega)) (by rw [eM_isL hy v hl2, bnd, i1]; exact eM_able_l hy v hl2 (nb r) 2000 0 (by omega) (by omega))
theorem bo01 {v : Int32} (h : v = 0 ∨ v = 1) : vp_nar .boolean v = v := by rcases h with rfl | rfl <;> decide
theorem S_see (x y : Sg) (v1 v2 : Int32) (h : Inv x y) (hz : v2 = 0 ∨ v2 = 1) : StI Inv (oX7_see x v1 v2) (oX8_see y v1 v2) := by
  obtain ⟨r, h1, h2, h3, ⟨ns, s1, s2, s3, s4⟩, h5⟩ := id h
  obtain ⟨v, hx, hy⟩ := id h1
  unfold oX7_see oX8_see fX7_see fX8_see fX8_see_b55
  by_cases ho : out v1 0 (((2 ^ nl r : Nat) : Int) - 1)
  · exact stSame h (r := -1) (by rw [(eX_hasLs hx v v1).1 ho, bnd, i0]) (by rw [(eM_isLs hy v v1).1 ho, bnd, i0])
  · rw [(eX_hasLs hx v v1).2 ho, bnd, i1, (eM_isLs hy v v1).2 ho, bnd, i1]
    obtain ⟨c, hc, rfl⟩ := of_in ho (by decide)
    have hc1 : c < 2 ^ nl r := by unfold out at ho; omega
    unfold fX6_add
    by_cases hf : ns = 6
    · subst hf
      exact stSame h (r := -3) (by rw [s2, if_neg (by decide), bnd, i0]) (by rw [s3, if_pos (by decide)])
    · have e2 : ((2 : Int32) * nI ns) = nI (2 * ns) := nI_mul 2 ns
      rw [s2, s3, if_pos (show nI ns < 6 from nI_lt (b := 6) (by omega) (by omega)), if_neg (show ¬ nI ns = 6 from fun q => hf ((nI_eq (b := 6) (by omega) (by omega)).mp q)), wrN (by omega) (by omega), bnd, e2, wrN (by omega) (by omega), bnd, up2_row (by omega), up2_row (by omega), s2, s3, wrN (by omega) (by omega), bnd, bo01 hz, e2, nI_1]
      have e3 : (if v2 = 0 then ((wr (up2 y 8 (2 * ns) (nI c)) 8 12 (nI (2 * ns + 1)) 0).bind fun σ1 => (pf σ1 0 24 (σ1 0 24 + 1)).bind fun σ2 => some (σ2, σ2 0 24)) else ((wr (up2 y 8 (2 * ns) (nI c)) 8 12 (nI (2 * ns + 1)) 1).bind fun σ1 => (pf σ1 0 24 (σ1 0 24 + 1)).bind fun σ2 => some (σ2, σ2 0 24))) = ((wr (up2 y 8 (2 * ns) (nI c)) 8 12 (nI (2 * ns + 1)) v2).bind fun σ1 => (pf σ1 0 24 (σ1 0 24 + 1)).bind fun σ2 => some (σ2, σ2 0 24)) := by
        rcases hz with rfl | rfl
        · rw [if_pos rfl]
        · rw [if_neg (by decide)]
      rw [e3, wrN (by omega) (by omega), bnd]
      unfold pf
      rw [bnd, bnd, bnd, i1]
      refine stOf (x' := up2 (up2 (up2 x 38 ns (nI c)) 39 ns v2) 37 2 (nI (ns + 1))) (y' := up2 (up2 (up2 y 8 (2 * ns) (nI c)) 8 (2 * ns + 1) v2) 0 24 (nI (ns + 1))) (r := nI (ns + 1)) ?_ ?_ ?_
      · simp [up2_at, s2, nI_1]
      · simp [up2_at, s3, nI_1]
      · refine Inv.S ⟨h1, h2, h3, ⟨ns, s1, s2, s3, s4⟩, h5⟩ (fun c a1 a2 a3 => by rw [up2_row a1, up2_row a3, up2_row a2]) (fun c a1 a2 => by rw [up2_row a2, up2_row a1, up2_row a1]) (fun j hj => by simp [up2_at, hj]) ⟨ns + 1, by omega, by simp [up2_at], by simp [up2_at], fun i hi => ?_⟩
        by_cases hi2 : i = ns
        · subst hi2
          exact ⟨c, hc1, by simp [up2_at], by simp [up2_at], by simp [up2_at]; exact hz, by simp [up2_at]⟩
        · obtain ⟨d, d1, d2, d3, d4, d5⟩ := s4 i (by omega)
          refine ⟨d, d1, by simp [up2_at, hi2, d2], ?_, ?_, ?_⟩
          · rw [up2_row (by omega), up2_at, if_neg (by omega), up2_at, if_neg (by omega)]; exact d3
          · rw [up2_row (by omega), up2_at, if_neg (by omega), up2_at, if_neg (by omega)]; exact d4
          · rw [up2_row (show (8 : Nat) ≠ 0 by omega), up2_at (up2 y 8 (2 * ns) (nI c)), if_neg (by omega), up2_at y, if_neg (by omega)]
            simp [up2_at, hi2, d5]
theorem S_forget (x y : Sg) (v1 : Int32) (h : Inv x y) : StI Inv (oX7_forget x v1) (oX8_forget y v1) := by
  obtain ⟨r, h1, h2, h3, ⟨ns, s1, s2, s3, s4⟩, h5⟩ := id h
  unfold oX7_forget oX8_forget fX7_forget fX8_forget
  rw [s2, s3]
  have e1 : (nI ns).toInt = (ns : Int) := nI_toInt (by omega)
  by_cases ho : out v1 0 ns
  · exact stSame h (r := -1) (by rw [(wiI v1 0 (nI ns) 0 ns (by decide) e1).1 ho, bnd, i0]) (by rw [(inI v1 0 _ 0 ns (by decide) (by rw [ti64]; exact e1)).1 ho, bnd, i0])
  · obtain ⟨c, hc, rfl⟩ := of_in ho (by decide)
    have hc1 : c ≤ ns := by unfold out at ho; omega
    rw [(wiI _ 0 (nI ns) 0 ns (by decide) e1).2 ho, bnd, i1, (inI _ 0 _ 0 ns (by decide) (by rw [ti64]; exact e1)).2 ho, bnd, i1]
    unfold pf
    rw [bnd, bnd]
    refine ⟨_, _, _, rfl, rfl, Inv.S ⟨h1, h2, h3, ⟨ns, s1, s2, s3, s4⟩, h5⟩ (fun c a1 a2 a3 => by rw [up2_row a1]) (fun c a1 a2 => by rw [up2_row a2]) (fun j hj => by rw [up2_at, if_neg (by omega)]) ⟨c, by omega, by simp [up2_at], by simp [up2_at], fun i hi => ?_⟩⟩
    obtain ⟨d, d1, d2, d3, d4, d5⟩ := s4 i (by omega)
    exact ⟨d, d1, by rw [up2_row (by omega)]; exact d2, by rw [up2_row (by omega)]; exact d3, by rw [up2_row (by omega)]; exact d4, by rw [up2_row (by omega), up2_row (by omega)]; exact d5⟩
