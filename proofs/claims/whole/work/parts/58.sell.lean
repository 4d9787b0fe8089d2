def sell1 (r : Rm) (l b : Nat) : Rm := setGu r l (gu r l - cosR r b)
def sell2 (r : Rm) (l b : Nat) : Rm := if ow r b = 0 then sell1 r l b else setGu (sell1 r l b) (ow r b - 1) (min (gu r (ow r b - 1) + cosR r b) 99)
def sellR (r : Rm) (l b : Nat) : Rm := setOw (sell2 r l b) b (l + 1)
theorem sell_nl (r : Rm) (l b : Nat) : nl (sellR r l b) = nl r := by unfold sellR sell2 sell1; split <;> rfl
theorem sell_nb (r : Rm) (l b : Nat) : nb (sellR r l b) = nb r := by unfold sellR sell2 sell1; split <;> rfl
theorem sell_rv {r : Rm} (v : RV r) {l b : Nat} (hl : l < nl r) : RV (sellR r l b) := by
  have h1 : RV (sell1 r l b) := v.setGu (by have := v.2.2.2.1 l hl; omega)
  have h2 : RV (sell2 r l b) := by
    unfold sell2; split
    · exact h1
    · exact h1.setGu (by omega)
  refine h2.setOw ?_
  have : nl (sell2 r l b) = nl r := by unfold sell2 sell1; split <;> rfl
  omega
theorem iminN {x : Nat} (hx : x < 2 ^ 31) : imin (nI x) 99 = nI (min x 99) := by
  unfold imin
  by_cases h : 99 < x
  · rw [if_pos (show (99 : Int32) < nI x from nI_lt (a := 99) h hx), Nat.min_eq_right (by omega)]; rfl
  · rw [if_neg (show ¬ (99 : Int32) < nI x from nI_nlt (a := 99) (by omega) (by omega)), Nat.min_eq_left (by omega)]
theorem can_le {r : Rm} {l b : Nat} (h : canR r l b = true) : ow r b ≠ l + 1 ∧ cosR r b ≤ gu r l := by
  unfold canR at h; simpa using h
theorem eX_sell {σ : Sg} {a l b : Nat} {r : Rm} (h : RX σ a r) (v : RV r) (hl : l < nl r) (hb : b < nb r) (hc : canR r l b = true) : ∃ σ' : Sg, fX2_sell σ a (nI l) (nI b) = some (σ', 1) ∧ RX σ' a (sellR r l b) ∧ ∀ c, c ≠ a + 1 → c ≠ a + 5 → σ' c = σ c := by
  obtain ⟨c1, c2⟩ := can_le hc
  have h1 := v.1
  have h2 := v.2.1
  have h3 := (v.2.2.2.2 b hb).2.2.2.2
  have h4 := cosR_le v hb
  have h5 := v.2.2.2.1 l hl
  have r1 : RX (up2 σ (a + 1) l (nI (gu r l - cosR r b))) a (sell1 r l b) := h.setGu
  unfold fX2_sell fX2_sell_b65
  rw [eX_can h v hl hb, if_pos hc, bnd, i1, eX_cos h v hb, bnd, rdN (by omega) (by omega), bnd, (h.2.2.2.2 b hb).2.2.2, rdN (by omega) (by omega), bnd, h.2.2.2.1 l hl, pk_sub c2, wrN (by omega) (by omega), bnd]
  by_cases hw : ow r b = 0
  · have e : oX (ow r b) = -4 := (oX_ne (by omega)).mpr hw
    refine ⟨up2 (up2 σ (a + 1) l (nI (gu r l - cosR r b))) (a + 5) b (oX (l + 1)), ?_, ?_, fun c hc1 hc2 => by rw [up2_row hc2, up2_row hc1]⟩
    · rw [e, eX_hasLn r1 (Or.inl (by decide)), bnd, i0, wrN (by omega) (by omega), bnd]; rfl
    · have := r1.setOw (i := b) (x := l + 1)
      unfold sellR sell2
      rw [if_pos hw]; exact this
  · have e : oX (ow r b) = nI (ow r b - 1) := oX_pos hw
    have hne : ow r b - 1 ≠ l := by omega
    have h6 := v.2.2.2.1 (ow r b - 1) (by omega)
    have r2 := r1.setGu (i := ow r b - 1) (x := min (gu r (ow r b - 1) + cosR r b) 99)
    have r3 := r2.setOw (i := b) (x := l + 1)
    refine ⟨up2 (up2 (up2 σ (a + 1) l (nI (gu r l - cosR r b))) (a + 1) (ow r b - 1) (nI (min (gu r (ow r b - 1) + cosR r b) 99))) (a + 5) b (oX (l + 1)), ?_, ?_, fun c hc1 hc2 => ?_⟩
    · rw [e, eX_hasL r1 (v.setGu (by omega)) (show ow r b - 1 < nl r by omega), bnd, i1, rdN (by omega) (by omega), bnd, up2_at, if_neg (by omega), h.2.2.2.1 _ (by omega), nI_add, iminN (by omega), wrN (by omega) (by omega), bnd, wrN (by omega) (by omega), bnd]; rfl
    · unfold sellR sell2
      rw [if_neg hw]; exact r3
    · rw [up2_row hc2, up2_row hc1, up2_row hc1]
theorem eX_sell0 {σ : Sg} {a l b : Nat} {r : Rm} (h : RX σ a r) (v : RV r) (hl : l < nl r) (hb : b < nb r) (hc : ¬ canR r l b = true) : fX2_sell σ a (nI l) (nI b) = some (σ, 0) := by
  unfold fX2_sell
  rw [eX_can h v hl hb, if_neg hc, bnd, i0]
theorem setGu_comm {r : Rm} {i j x y : Nat} (h : i ≠ j) : setGu (setGu r i x) j y = setGu (setGu r j y) i x := by
  have e : (fun k => if k = j then y else if k = i then x else gu r k) = (fun k => if k = i then x else if k = j then y else gu r k) := by
    funext k
    by_cases h1 : k = j
    · subst h1; simp [Ne.symm h]
    · simp [h1]
  exact congrArg (fun f => (nl r, nb r, pr r, f, kd r, ho r, se r, ow r)) e
theorem eM_buy {σ : Sg} {l b : Nat} {r : Rm} (h : MM σ r) (v : RV r) (hl : l < nl r) (hb : b < nb r) (hc : canR r l b = true) : ∃ σ' : Sg, fX8_buys σ (nI l) (nI b) = some (σ', nI (gu r l - cosR r b)) ∧ MM σ' (sellR r l b) ∧ (∀ c, c ≠ 1 → σ' c = σ c) ∧ (∀ j, 29 ≤ j → σ' 1 j = σ 1 j) := by
  obtain ⟨c1, c2⟩ := can_le hc
  have h1 := v.1
  have h2 := v.2.1
  have h3 := (v.2.2.2.2 b hb).2.2.2.2
  have h4 := cosR_le v hb
  have h5 := v.2.2.2.1 l hl
  have v1 : RV (sell1 r l b) := v.setGu (by omega)
  unfold fX8_buys fX8_buys_b82 fX8_buys_b83
  rw [eM_isL h v hl, bnd, i1, eM_isB h v hb, bnd, i1, eM_can h v hl hb, if_pos hc, bnd, i1, eM_cos h v hb, bnd, eM_ow h v hb, bnd]
  by_cases hw : ow r b = 0
  · have m1 := RM.setGu (σ := σ) (o := 0) (i := l) (x := gu r l - cosR r b) v h.2.2 (by omega)
    have m2 := RM.setOw (o := 0) (i := b) (x := l + 1) v1 m1 (by omega)
    rw [Nat.zero_add, Nat.zero_add] at m2
    refine ⟨up2 (up2 σ 1 l (nI (gu r l - cosR r b))) 1 (22 + b) (nI (l + 1)), ?_, ⟨?_, ?_, ?_⟩, fun c hc => by rw [up2_row hc, up2_row hc], fun j hj => by rw [up2_at, if_neg (by omega), up2_at, if_neg (by omega)]⟩
    · rw [if_pos ((om_lt (by omega)).mpr hw), rdN (by omega) (by omega), bnd, mm_gu h hl, pk_sub c2, wrN (by omega) (by omega), bnd, show (22 : Int32) = nI 22 from rfl, nI_add, nI_1, wrN (by omega) (by omega), bnd, rdN (by omega) (by omega), bnd, up2_at, if_neg (by omega), up2_at, if_pos ⟨rfl, rfl⟩]
    · rw [up2_row (by omega), up2_row (by omega), sell_nl]; exact h.1
    · rw [up2_row (by omega), up2_row (by omega), sell_nb]; exact h.2.1
    · unfold sellR sell2
      rw [if_pos hw]; exact m2
  · have hne : ow r b - 1 ≠ l := by omega
    have h6 := v.2.2.2.1 (ow r b - 1) (by omega)
    have m0 := RM.setGu (σ := σ) (o := 0) (i := ow r b - 1) (x := min (gu r (ow r b - 1) + cosR r b) 99) v h.2.2 (by omega)
    have v0 : RV (setGu r (ow r b - 1) (min (gu r (ow r b - 1) + cosR r b) 99)) := v.setGu (by omega)
    have m1 := RM.setGu (o := 0) (i := l) (x := gu r l - cosR r b) v0 m0 (by omega)
    have v2 : RV (setGu (setGu r (ow r b - 1) (min (gu r (ow r b - 1) + cosR r b) 99)) l (gu r l - cosR r b)) := v0.setGu (by omega)
    have m2 := RM.setOw (o := 0) (i := b) (x := l + 1) v2 m1 (by omega)
    rw [Nat.zero_add, Nat.zero_add, Nat.zero_add, setGu_comm hne] at m2
    refine ⟨up2 (up2 (up2 σ 1 (ow r b - 1) (nI (min (gu r (ow r b - 1) + cosR r b) 99))) 1 l (nI (gu r l - cosR r b))) 1 (22 + b) (nI (l + 1)), ?_, ⟨?_, ?_, ?_⟩, fun c hc => by rw [up2_row hc, up2_row hc, up2_row hc], fun j hj => by rw [up2_at, if_neg (by omega), up2_at, if_neg (by omega), up2_at, if_neg (by omega)]⟩
    · rw [if_neg (fun q => hw ((om_lt (by omega)).mp q)), om_pos hw, rdN (by omega) (by omega), bnd, mm_gu h (show ow r b - 1 < nl r by omega), bnd, nI_add]
      have e99 : (if nI (gu r (ow r b - 1) + cosR r b) ≤ 99 then nI (gu r (ow r b - 1) + cosR r b) else (99 : Int32)) = nI (min (gu r (ow r b - 1) + cosR r b) 99) := by
        by_cases hq : gu r (ow r b - 1) + cosR r b ≤ 99
        · rw [if_pos (show nI (gu r (ow r b - 1) + cosR r b) ≤ 99 from nI_le (b := 99) hq (by omega)), Nat.min_eq_left hq]
        · rw [if_neg (show ¬ nI (gu r (ow r b - 1) + cosR r b) ≤ 99 from nI_ge (a := 99) (by omega) (by omega)), Nat.min_eq_right (by omega)]; rfl
      have key : ∀ w : Int32, ((wr σ 1 116 (nI (ow r b - 1)) w).bind fun σ1 => (rd (σ1 1) 116 (nI l)).bind fun t1 => (wr σ1 1 116 (nI l) (t1 - nI (cosR r b))).bind fun σ2 => (wr σ2 1 116 (22 + nI b) (nI l + 1)).bind fun σ3 => (rd (σ3 1) 116 (nI l)).bind fun t4 => some (σ3, t4)) = some (up2 (up2 (up2 σ 1 (ow r b - 1) w) 1 l (nI (gu r l - cosR r b))) 1 (22 + b) (nI (l + 1)), nI (gu r l - cosR r b)) := fun w => by
        rw [wrN (by omega) (by omega), bnd, rdN (by omega) (by omega), bnd, up2_at, if_neg (by omega), mm_gu h hl, pk_sub c2, wrN (by omega) (by omega), bnd, show (22 : Int32) = nI 22 from rfl, nI_add, nI_1, wrN (by omega) (by omega), bnd, rdN (by omega) (by omega), bnd, up2_at, if_neg (by omega), up2_at, if_pos ⟨rfl, rfl⟩]
      rw [← e99]
      by_cases hq : nI (gu r (ow r b - 1) + cosR r b) ≤ 99
      · rw [if_pos hq, if_pos hq]; exact key _
      · rw [if_neg hq, if_neg hq]; exact key _
    · rw [up2_row (by omega), up2_row (by omega), up2_row (by omega), sell_nl]; exact h.1
    · rw [up2_row (by omega), up2_row (by omega), up2_row (by omega), sell_nb]; exact h.2.1
    · unfold sellR sell2 sell1
      rw [if_neg hw]; exact m2
theorem eM_buy0 {σ : Sg} {l b : Nat} {r : Rm} (h : MM σ r) (v : RV r) (hl : l < nl r) (hb : b < nb r) (hc : ¬ canR r l b = true) : fX8_buys σ (nI l) (nI b) = some (σ, -2) := by
  unfold fX8_buys
  rw [eM_isL h v hl, bnd, i1, eM_isB h v hb, bnd, i1, eM_can h v hl hb, if_neg hc, bnd, i0]
theorem sell_gu {r : Rm} {l b : Nat} (hc : canR r l b = true) : gu (sellR r l b) l = gu r l - cosR r b := by
  obtain ⟨c1, c2⟩ := can_le hc
  unfold sellR sell2
  by_cases hw : ow r b = 0
  · rw [if_pos hw]
    show (if l = l then gu r l - cosR r b else gu r l) = _
    rw [if_pos rfl]
  · rw [if_neg hw]
    show (if l = ow r b - 1 then _ else (if l = l then gu r l - cosR r b else gu r l)) = _
    rw [if_neg (by omega), if_pos rfl]
theorem S_buy (x y : Sg) (v1 v2 : Int32) (h : Inv x y) : StI Inv (oX7_buy x v1 v2) (oX8_buy y v1 v2) := by
  obtain ⟨r, ⟨v, hx, hy⟩, hrest⟩ := id h
  have hl := v.1
  have hb := v.2.1
  unfold oX7_buy oX8_buy fX7_buy fX8_buy
  rcases out_n (n := nl r) (by omega) v1 with ho | ⟨l, hl2, rfl⟩
  · exact stSame h (r := -1) (by rw [eX_hasLn hx ((out_x (by omega)).mp ho), bnd, i0]) (by unfold fX8_buys; rw [eM_isLn hy v ho, bnd, i0, bnd])
  · rcases out_n (n := nb r) (by omega) v2 with ho | ⟨b, hb2, rfl⟩
    · exact stSame h (r := -1) (by rw [eX_hasL hx v hl2, bnd, i1, eX_hasBn hx ((out_x (by omega)).mp ho), bnd, i0]) (by unfold fX8_buys; rw [eM_isL hy v hl2, bnd, i1, eM_isBn hy v ho, bnd, i0, bnd])
    · by_cases hc : canR r l b = true
      · obtain ⟨σ1, e1, e2, e3⟩ := eX_sell hx v hl2 hb2 hc
        obtain ⟨σ2, g1, g2, g3, g4⟩ := eM_buy hy v hl2 hb2 hc
        refine stOf (x' := σ1) (y' := σ2) (r := nI (gu r l - cosR r b)) ?_ ?_ ?_
        · rw [eX_hasL hx v hl2, bnd, i1, eX_hasB hx v hb2, bnd, i1, e1, bnd, i1, rdN (by omega) (by omega), bnd]
          have := e2.2.2.2.1 l (by rw [sell_nl]; exact hl2)
          rw [sell_gu hc] at this
          exact congrArg (fun z => some (σ1, z)) this
        · rw [g1, bnd]
        · exact Inv.tr (r' := sellR r l b) hrest (sell_nl r l b) (sell_nb r l b) ⟨by rw [e3 0 (by omega) (by omega)], by rw [e3 31 (by omega) (by omega)], fun c hc => e3 c (by omega) (by omega)⟩ ⟨fun j _ => by rw [g3 0 (by omega)], fun j h1 _ => g4 j h1, fun c hc => g3 c (by omega)⟩ ⟨sell_rv v hl2, e2, g2⟩
      · exact stSame h (r := -2) (by rw [eX_hasL hx v hl2, bnd, i1, eX_hasB hx v hb2, bnd, i1, eX_sell0 hx v hl2 hb2 hc, bnd, i0]) (by rw [eM_buy0 hy v hl2 hb2 hc, bnd])
