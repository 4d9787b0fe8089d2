theorem Inv.H {x y x' y' : Sg} (h : Inv x y) (hx : ∀ c, c < 45 → x' c = x c) (hy : ∀ c, c ≠ 11 → c ≠ 12 → c ≠ 13 → y' c = y c) (hH : InvH x' y') : Inv x' y' := by
  obtain ⟨r, ⟨v, h1, h2⟩, h3, h4, h5, h6, h7⟩ := h
  refine ⟨r, ⟨v, h1.cg (fun c _ _ => hx c (by omega)), by rw [hy 0 (by omega) (by omega) (by omega)]; exact h2.1, by rw [hy 0 (by omega) (by omega) (by omega)]; exact h2.2.1, RM.cg v h2.2.2 (fun j _ _ => by rw [hy 1 (by omega) (by omega) (by omega)])⟩, h3.tr rfl rfl (fun c hc => hx c (by omega)) (hy 10 (by omega) (by omega) (by omega)) (fun j _ _ => by rw [hy 1 (by omega) (by omega) (by omega)]), h4.tr (fun c hc => hx c (by omega)) (hy 3 (by omega) (by omega) (by omega)) (by rw [hy 0 (by omega) (by omega) (by omega)]), h5.tr rfl (fun c hc => hx c (by omega)) (hy 8 (by omega) (by omega) (by omega)) (by rw [hy 0 (by omega) (by omega) (by omega)]), hH, ?_, ?_, ?_, ?_⟩
  · rw [hx 31 (by omega), hy 0 (by omega) (by omega) (by omega)]; exact h7.1
  · rw [hx 0 (by omega), hy 0 (by omega) (by omega) (by omega)]; exact h7.2.1
  · rw [hy 4 (by omega) (by omega) (by omega)]; exact h7.2.2.1
  · rw [hy 5 (by omega) (by omega) (by omega)]; exact h7.2.2.2
theorem ren_l (a : Nat) (v1 v2 : Int32) : ∀ k n i (σ : Sg), i + k = 40 → k < n → ∃ σ' : Sg, fX3_renew_l12 a v1 v2 n σ (nI i) = some σ' ∧ (∀ c, c ≠ a + 1 → σ' c = σ c) ∧ (∀ j, i ≤ j → j < 40 → σ' (a + 1) j = 0) ∧ (∀ j, j < i → σ' (a + 1) j = σ (a + 1) j) := by
  intro k
  induction k with
  | zero =>
    intro n i σ h1 h2
    obtain ⟨n, rfl⟩ := Nat.exists_eq_succ_of_ne_zero (show n ≠ 0 by omega)
    refine ⟨σ, ?_, fun _ _ => rfl, fun j _ _ => by omega, fun _ _ => rfl⟩
    rw [fX3_renew_l12, if_pos (show (40 : Int32) ≤ nI i from nI_le (a := 40) (by omega) (by omega))]
  | succ k ih =>
    intro n i σ h1 h2
    obtain ⟨n, rfl⟩ := Nat.exists_eq_succ_of_ne_zero (show n ≠ 0 by omega)
    obtain ⟨σ', e1, e2, e3, e4⟩ := ih n (i + 1) (up2 σ (a + 1) i 0) (by omega) (by omega)
    refine ⟨σ', ?_, fun c hc => by rw [e2 c hc, up2_row hc], fun j hj1 hj2 => ?_, fun j hj => ?_⟩
    · rw [fX3_renew_l12, if_neg (show ¬ (40 : Int32) ≤ nI i from nI_ge (b := 40) (by omega) (by omega)), wrN (by omega) (by omega), bnd, nI_1]; exact e1
    · by_cases hji : j = i
      · subst hji; rw [e4 j (by omega), up2_at, if_pos ⟨rfl, rfl⟩]
      · exact e3 j (by omega) hj2
    · rw [e4 j (by omega), up2_at, if_neg (by omega)]
theorem she_l (q : Nat) (hq : q < 4) (v2 v3 : Int32) : ∀ k n i (σ : Sg), i + k = 40 → k < n → ∃ σ' : Sg, fX8_sheet_l56 (nI q) v2 v3 n σ (nI i) = some (σ', 1) ∧ (∀ c, c ≠ 13 → σ' c = σ c) ∧ (∀ j, i ≤ j → j < 40 → σ' 13 (40 * q + j) = 0) ∧ (∀ j, ¬ (40 * q + i ≤ j ∧ j < 40 * q + 40) → σ' 13 j = σ 13 j) := by
  intro k
  induction k with
  | zero =>
    intro n i σ h1 h2
    obtain ⟨n, rfl⟩ := Nat.exists_eq_succ_of_ne_zero (show n ≠ 0 by omega)
    refine ⟨σ, ?_, fun _ _ => rfl, fun j _ _ => by omega, fun _ _ => rfl⟩
    rw [fX8_sheet_l56, if_pos (show (40 : Int32) ≤ nI i from nI_le (a := 40) (by omega) (by omega))]
  | succ k ih =>
    intro n i σ h1 h2
    obtain ⟨n, rfl⟩ := Nat.exists_eq_succ_of_ne_zero (show n ≠ 0 by omega)
    obtain ⟨σ', e1, e2, e3, e4⟩ := ih n (i + 1) (up2 σ 13 (40 * q + i) 0) (by omega) (by omega)
    refine ⟨σ', ?_, fun c hc => by rw [e2 c hc, up2_row hc], fun j hj1 hj2 => ?_, fun j hj => ?_⟩
    · rw [fX8_sheet_l56, if_neg (show ¬ (40 : Int32) ≤ nI i from nI_ge (b := 40) (by omega) (by omega)), show (40 : Int32) * nI q = nI (40 * q) from nI_mul 40 q, nI_add, wrN (by omega) (by omega), bnd, nI_1]; exact e1
    · by_cases hji : j = i
      · subst hji; rw [e4 (40 * q + j) (by omega), up2_at, if_pos ⟨rfl, rfl⟩]
      · exact e3 j (by omega) hj2
    · rw [e4 j (by omega), up2_at, if_neg (by omega)]
theorem nI_ne4 {n : Nat} (h : n < 2 ^ 31) : ¬ nI n = (-4 : Int32) := fun q => by
  have h1 := congrArg Int32.toInt q
  rw [nI_toInt h, show (-4 : Int32).toInt = -4 by decide] at h1
  omega
theorem S_sheet (x y : Sg) (v1 v2 v3 : Int32) (h : Inv x y) : StI Inv (oX7_sheet x v1 v2 v3) (oX8_sheet y v1 v2 v3) := by
  obtain ⟨r, hR, hI, hT, hSS, hH, hE⟩ := id h
  unfold oX7_sheet oX8_sheet fX7_sheet fX8_sheet
  by_cases ho : out v1 0 3
  · exact stSame h (r := -1) (by rw [(wiI v1 0 3 0 3 (by decide) (by decide)).1 ho, bnd, i0]) (by rw [(inI v1 0 3 0 3 (by decide) (by decide)).1 ho, bnd, i0])
  · rw [(wiI v1 0 3 0 3 (by decide) (by decide)).2 ho, bnd, i1, (inI v1 0 3 0 3 (by decide) (by decide)).2 ho, bnd, i1]
    by_cases ho2 : out v2 0 2
    · exact stSame h (r := -1) (by rw [(wiI v2 0 2 0 2 (by decide) (by decide)).1 ho2, bnd, i0]) (by rw [(inI v2 0 2 0 2 (by decide) (by decide)).1 ho2, bnd, i0])
    · rw [(wiI v2 0 2 0 2 (by decide) (by decide)).2 ho2, bnd, i1, (inI v2 0 2 0 2 (by decide) (by decide)).2 ho2, bnd, i1]
      by_cases h40 : v3 ≤ 40
      · rw [if_pos h40, if_pos h40]
        by_cases h00 : 0 ≤ v3
        · rw [if_pos h00, if_pos h00]
          obtain ⟨q, hq, rfl⟩ := of_in ho (by decide)
          obtain ⟨la, hla, rfl⟩ := of_in ho2 (by decide)
          have hq1 : q < 4 := by unfold out at ho; omega
          have hla1 : la ≤ 2 := by unfold out at ho2; omega
          obtain ⟨n, hn, rfl⟩ : ∃ n, n ≤ 40 ∧ v3 = nI n := by
            have a1 := Int32.le_iff_toInt_le.mp h40
            have a2 := Int32.le_iff_toInt_le.mp h00
            rw [show (40 : Int32).toInt = 40 by decide] at a1
            rw [show (0 : Int32).toInt = 0 by decide] at a2
            refine ⟨v3.toInt.toNat, by omega, Int32.toInt_inj.mp ?_⟩
            rw [nI_toInt (by omega)]; omega
          unfold fX3_renew pf
          rw [rxs q hq1, bnd, bnd, bnd]
          obtain ⟨σ1, e1, e2, e3, -⟩ := ren_l (45 + 2 * q) (nI la) (nI n) 40 2000 0 (up2 (up2 x (45 + 2 * q) 1 (nI la)) (45 + 2 * q) 2 (nI n)) (by omega) (by omega)
          obtain ⟨σ2, g1, g2, g3, g4⟩ := she_l q hq1 (nI la) (nI n) 40 2000 0 (up2 (up2 y 11 q (nI la)) 12 q (nI n)) (by omega) (by omega)
          refine stOf (x' := σ1) (y' := σ2) (r := 1) ?_ ?_ ?_
          · rw [show (0 : Int32) = nI 0 from rfl, e1, bnd]
          · rw [wrN (by omega) (by omega), bnd, wrN (by omega) (by omega), bnd, show (0 : Int32) = nI 0 from rfl, g1]
          · refine Inv.H h (fun c hc => by rw [e2 c (by omega), up2_row (by omega), up2_row (by omega)]) (fun c c1 c2 c3 => by rw [g2 c c3, up2_row c2, up2_row c1]) (fun k hk => ?_)
            rw [e2 (45 + 2 * k) (by omega), g2 11 (by omega), g2 12 (by omega)]
            by_cases hkq : k = q
            · subst hkq
              refine Or.inr ⟨la, n, hla1, hn, by simp [up2_at], by simp [up2_at], by simp [up2_at], by simp [up2_at], fun i hi => ?_⟩
              rw [show 46 + 2 * k = 45 + 2 * k + 1 by omega, e3 i (by omega) hi, g3 i (by omega) hi]
            · rw [up2_row (by omega), up2_row (by omega), up2_row (show (11 : Nat) ≠ 12 by omega), up2_at, if_neg (by omega), up2_at, if_neg (by omega), up2_row (show (12 : Nat) ≠ 11 by omega)]
              rcases hH k hk with a | ⟨la2, n2, b1, b2, b3, b4, b5, b6, b7⟩
              · exact Or.inl a
              · refine Or.inr ⟨la2, n2, b1, b2, b3, b4, b5, b6, fun i hi => ?_⟩
                rw [e2 (46 + 2 * k) (by omega), up2_row (by omega), up2_row (by omega), g4 _ (by omega), up2_row (by omega), up2_row (by omega)]
                exact b7 i hi
        · exact stSame h (r := -14) (by rw [if_neg h00]) (by rw [if_neg h00])
      · exact stSame h (r := -1) (by rw [if_neg h40]) (by rw [if_neg h40])
theorem shk (k : Nat) (hk : k < 32) (v : Int32) {i : Nat} (hi : i < 32) : ((v <<< (nI k &&& 31)) >>> (nI k &&& 31)).toBitVec.getLsbD i = if k + i < 32 then v.toBitVec.getLsbD i else v.toBitVec.getLsbD (31 - k) := by
  rw [Int32.toBitVec_shiftRight]
  show ((v <<< (nI k &&& 31)).toBitVec.sshiftRight ((nI k &&& 31).toBitVec.smod 32).toNat).getLsbD i = _
  rw [s31 k hk, BitVec.getLsbD_sshiftRight, BitVec.msb_eq_getLsbD_last, Int32.toBitVec_shiftLeft]
  have e : ∀ j, j < 32 → (v.toBitVec <<< ((nI k &&& 31).toBitVec.smod 32)).getLsbD j = (decide (k ≤ j) && v.toBitVec.getLsbD (j - k)) := by
    intro j hj
    show (v.toBitVec <<< ((nI k &&& 31).toBitVec.smod 32).toNat).getLsbD j = _
    rw [s31 k hk, BitVec.getLsbD_shiftLeft]
    rcases Nat.lt_or_ge j k with h | h
    · simp [h, Nat.not_le.mpr h]
    · simp [hj, h, Nat.not_lt.mpr h]
  by_cases hki : k + i < 32
  · rw [if_pos hki, if_pos hki, e _ hki]
    simp [hi]
  · rw [if_neg hki, if_neg hki, e _ (by decide)]
    simp [hi, show k ≤ 31 by omega]
theorem sh24 (v : Int32) : (v <<< ((24 : Int32) &&& 31)) >>> ((24 : Int32) &&& 31) = v.toInt8.toInt32 := by
  apply nI_inj
  apply BitVec.eq_of_getLsbD_eq
  intro i hi
  rw [show (24 : Int32) = nI 24 from rfl, shk 24 (by decide) v hi]
  show _ = ((v.toBitVec.signExtend 8).signExtend 32).getLsbD i
  rw [BitVec.getLsbD_signExtend, BitVec.msb_eq_getLsbD_last, BitVec.getLsbD_signExtend, BitVec.getLsbD_signExtend]
  by_cases h : i < 8
  · simp [h, hi, show 24 + i < 32 by omega]
  · simp [h, hi, show ¬ 24 + i < 32 by omega]
theorem sh16 (v : Int32) : (v <<< ((16 : Int32) &&& 31)) >>> ((16 : Int32) &&& 31) = v.toInt16.toInt32 := by
  apply nI_inj
  apply BitVec.eq_of_getLsbD_eq
  intro i hi
  rw [show (16 : Int32) = nI 16 from rfl, shk 16 (by decide) v hi]
  show _ = ((v.toBitVec.signExtend 16).signExtend 32).getLsbD i
  rw [BitVec.getLsbD_signExtend, BitVec.msb_eq_getLsbD_last, BitVec.getLsbD_signExtend, BitVec.getLsbD_signExtend]
  by_cases h : i < 16
  · simp [h, hi, show 16 + i < 32 by omega]
  · simp [h, hi, show ¬ 16 + i < 32 by omega]
theorem S_lay (x y : Sg) (v1 v2 v3 : Int32) (h : Inv x y) : StI Inv (oX7_lay x v1 v2 v3) (oX8_lay y v1 v2 v3) := by
  obtain ⟨r, hR, hI, hT, hSS, hH, hE⟩ := id h
  unfold oX7_lay oX8_lay fX7_lay fX8_lay
  by_cases ho : out v1 0 3
  · exact stSame h (r := -1) (by rw [(wiI v1 0 3 0 3 (by decide) (by decide)).1 ho, bnd, i0]) (by rw [(inI v1 0 3 0 3 (by decide) (by decide)).1 ho, bnd, i0])
  · rw [(wiI v1 0 3 0 3 (by decide) (by decide)).2 ho, bnd, i1, (inI v1 0 3 0 3 (by decide) (by decide)).2 ho, bnd, i1]
    obtain ⟨q, hq, rfl⟩ := of_in ho (by decide)
    have hq1 : q < 4 := by unfold out at ho; omega
    rw [rxs q hq1, bnd, rdN (by omega) (by omega), bnd, bnd, bnd, bnd, rdN (by omega) (by omega), bnd]
    unfold fX3_put fX3_faultAt
    rcases hH q hq1 with ⟨a1, a2⟩ | ⟨la, n, b1, b2, b3, b4, b5, b6, b7⟩
    · exact stSame h (r := -11) (by rw [a1, if_pos rfl, bnd, if_neg (by decide)]; rfl) (by rw [a2, if_pos rfl])
    · rw [b4, b5, b6, if_neg (nI_ne4 (by omega)), if_neg (nI_ne4 (by omega)), b3]
      rcases out_n (n := n) (by omega) v2 with ho2 | ⟨i, hi, rfl⟩
      · exact stSame h (r := -12) (by rw [(wiI v2 0 _ 0 ((n : Int) - 1) (by decide) (pred_ti (by omega))).1 ho2, bnd, i0, bnd, if_neg (by decide)]; rfl) (by rw [(inI v2 0 _ 0 ((n : Int) - 1) (by decide) (by rw [ti64]; exact pred_ti (by omega))).1 ho2, bnd, i0])
      · rw [(wiI (nI i) 0 _ 0 ((n : Int) - 1) (by decide) (pred_ti (by omega))).2 (nout (by omega) hi), bnd, i1, bnd, i0, bnd, i0, (inI (nI i) 0 _ 0 ((n : Int) - 1) (by decide) (by rw [ti64]; exact pred_ti (by omega))).2 (nout (by omega) hi), bnd, i1, sh24, sh16, show (40 : Int32) * nI q = nI (40 * q) from nI_mul 40 q, nI_add]
        have key : ∀ w : Int32, Inv (up2 x (45 + 2 * q + 1) i w) (up2 y 13 (40 * q + i) w) := fun w => by
          refine Inv.H h (fun c hc => by rw [up2_row (by omega)]) (fun c c1 c2 c3 => by rw [up2_row c3]) (fun k hk => ?_)
          rw [up2_row (by omega), up2_row (by omega), up2_row (by omega)]
          rcases hH k hk with a | ⟨la2, n2, p1, p2, p3, p4, p5, p6, p7⟩
          · exact Or.inl a
          · refine Or.inr ⟨la2, n2, p1, p2, p3, p4, p5, p6, fun j hj => ?_⟩
            rw [up2_at, up2_at]
            by_cases hkq : k = q ∧ j = i
            · rw [if_pos (by omega), if_pos (by omega)]
            · rw [if_neg (by omega), if_neg (by omega)]; exact p7 j hj
        by_cases hl0 : la = 0
        · subst hl0
          exact stOf (r := 1) (by rw [if_pos (show nI 0 = 0 from rfl), wrN (by omega) (by omega), bnd, bnd]) (by rw [if_pos (show nI 0 = 0 from rfl), wrN (by omega) (by omega), bnd]) (key _)
        · by_cases hl1 : la = 1
          · subst hl1
            exact stOf (r := 1) (by rw [if_neg (show ¬ nI 1 = 0 by decide), if_pos (show nI 1 = 1 from rfl), wrN (by omega) (by omega), bnd, bnd]) (by rw [if_neg (show ¬ nI 1 = 0 by decide), if_pos (show nI 1 = 1 from rfl), wrN (by omega) (by omega), bnd]) (key _)
          · have e0 : ¬ nI la = 0 := nI_ne0 (by omega) (by omega)
            have e1 : ¬ nI la = 1 := fun q => hl1 ((nI_eq (b := 1) (by omega) (by omega)).mp q)
            exact stOf (r := 1) (by rw [if_neg e0, if_neg e1, wrN (by omega) (by omega), bnd, bnd]) (by rw [if_neg e0, if_neg e1, wrN (by omega) (by omega), bnd]) (key _)
def cnt (n m : Nat) : Nat := sm n (fun i => if m.testBit i = true then 1 else 0)
theorem eJ_bc : ∀ m, m < 64 → fJ6_bitCount_0f7a4 (nI m) = some (nI (cnt 6 m)) := by decide +kernel
theorem cnt10 : ∀ m, m < 64 → cnt 10 m = cnt 6 m := by decide +kernel
theorem eM_bits_l {m : Nat} (hm : m < 2 ^ 31) : ∀ k n i, i + k = 10 → k < n → fX8_bitsOf_l4 (nI m) n (nI (cnt i m)) (nI i) = some (nI (cnt 10 m)) := by
  intro k
  induction k with
  | zero =>
    intro n i h1 h2
    obtain ⟨n, rfl⟩ := Nat.exists_eq_succ_of_ne_zero (show n ≠ 0 by omega)
    rw [fX8_bitsOf_l4, if_pos (show (10 : Int32) ≤ nI i from nI_le (a := 10) (by omega) (by omega)), show i = 10 by omega]
  | succ k ih =>
    intro n i h1 h2
    obtain ⟨n, rfl⟩ := Nat.exists_eq_succ_of_ne_zero (show n ≠ 0 by omega)
    have hi := ih n (i + 1) (by omega) (by omega)
    rw [fX8_bitsOf_l4, if_neg (show ¬ (10 : Int32) ≤ nI i from nI_ge (b := 10) (by omega) (by omega)), bitN hm (by omega), nI_add, nI_1]
    rw [cnt, sm] at hi
    have e : m / 2 ^ i % 2 = if m.testBit i = true then 1 else 0 := by
      rw [tb]
      by_cases hq : m / 2 ^ i % 2 = 1
      · simp [hq]
      · simp [hq]; omega
    rw [e]; exact hi
theorem eM_bits {m : Nat} (hm : m < 2 ^ 31) : fX8_bitsOf (nI m) = some (nI (cnt 10 m)) := eM_bits_l hm 10 2000 0 (by omega) (by omega)
theorem nobR_lt {r : Rm} (v : RV r) : nobR r < 64 := by
  have h1 := msk_lt (noP r) (nb r)
  have h2 : 2 ^ nb r ≤ 2 ^ 6 := Nat.pow_le_pow_right (by decide) v.2.1
  unfold nobR; omega
theorem eM_count_l {σ : Sg} {r : Rm} (h : MM σ r) (v : RV r) (v1 : Int32) : ∀ k n i, i + k = nb r → k < n → fX8_count_l4 σ v1 n (nI (sm i (votR r))) (nI i) = fX8_count_l4 σ v1 1 (nI (sm (nb r) (votR r))) (nI (nb r)) := by
  have hb := v.2.1
  intro k
  induction k with
  | zero =>
    intro n i h1 h2
    obtain ⟨n, rfl⟩ := Nat.exists_eq_succ_of_ne_zero (show n ≠ 0 by omega)
    rw [show i = nb r by omega, fX8_count_l4, fX8_count_l4, h.2.1, if_pos (nI_le (by omega) (by omega)), if_pos (nI_le (by omega) (by omega))]
  | succ k ih =>
    intro n i h1 h2
    obtain ⟨n, rfl⟩ := Nat.exists_eq_succ_of_ne_zero (show n ≠ 0 by omega)
    have hi := ih n (i + 1) (by omega) (by omega)
    rw [fX8_count_l4, h.2.1, if_neg (nI_ge (by omega) (by omega)), eM_vot h v (by omega), bnd, nI_add, nI_1]
    exact hi
theorem S_count (x y : Sg) (v1 : Int32) (h : Inv x y) : StI Inv (oX7_count x v1) (oX8_count y v1) := by
  obtain ⟨r, ⟨v, hx, hy⟩, hI, ⟨tl, t1, t2, t3, t4⟩, ⟨ns, s1, s2, s3, s4⟩, hH, hE⟩ := id h
  have hb := v.2.1
  have hnb := nobR_lt v
  unfold oX7_count oX8_count fX7_count fX8_count fX7_count_b62
  have ec : fX8_count_l4 y v1 2000 0 0 = _ := eM_count_l hy v v1 (nb r) 2000 0 (by omega) (by omega)
  rw [ec, fX8_count_l4, hy.2.1, if_pos (nI_le (by omega) (by omega))]
  unfold fX8_count_b83
  by_cases h0 : v1 = 0
  · exact stRO h (r := nI ns) (by rw [if_pos h0, s2]) (by rw [if_pos h0, s3])
  by_cases h1 : v1 = 1
  · have hw : ∀ k, k < 2 → ∃ w : Int32, (w = 0 ∨ w = 1) ∧ x 43 k = w ∧ y 10 k = w := fun k hk => by
      rcases hI k hk with ⟨a1, a2⟩ | ⟨a1, a2, -⟩
      · exact ⟨0, Or.inl rfl, a1, a2⟩
      · exact ⟨1, Or.inr rfl, a1, a2⟩
    obtain ⟨w0, c1, c2, c3⟩ := hw 0 (by omega)
    obtain ⟨w1, d1, d2, d3⟩ := hw 1 (by omega)
    refine stRO h (r := w0 + w1) ?_ ?_
    · rw [if_neg h0, if_pos h1, show (0 : Int32) = nI 0 from rfl, rdN (by omega) (by omega), bnd, c2, show (1 : Int32) = nI 1 from rfl, rdN (by omega) (by omega), bnd, d2]
      rcases c1 with rfl | rfl <;> rcases d1 with rfl | rfl <;> decide
    · rw [if_neg h0, if_pos h1, show (0 : Int32) = nI 0 from rfl, rdN (by omega) (by omega), bnd, c3, show (1 : Int32) = nI 1 from rfl, rdN (by omega) (by omega), bnd, d3]
      rcases c1 with rfl | rfl <;> rcases d1 with rfl | rfl <;> decide
  by_cases h2 : v1 = 2
  · exact stRO h (r := nI tl) (by rw [if_neg h0, if_neg h1, if_pos h2, t2]) (by rw [if_neg h0, if_neg h1, if_pos h2, t3])
  by_cases h3 : v1 = 3
  · rw [if_neg h0, if_neg h1, if_neg h2, if_pos h3, if_neg h0, if_neg h1, if_neg h2, if_pos h3, show (0 : Int32) = nI 0 from rfl, rxs 0 (by omega), rdN (by omega) (by omega), bnd, bnd, rdN (by omega) (by omega), bnd]
    rcases hH 0 (by omega) with ⟨a1, a2⟩ | ⟨la, n, b1, b2, b3, b4, b5, b6, b7⟩
    · exact stRO h (r := -4) (by rw [a1]) (by rw [a2, if_pos rfl])
    · exact stRO h (r := nI n) (by rw [b4]) (by rw [b5, if_neg (nI_ne4 (by omega)), b6])
  by_cases h4 : v1 = 4
  · exact stRO h (r := nI (sm (nb r) (votR r))) (by rw [if_neg h0, if_neg h1, if_neg h2, if_neg h3, if_pos h4, eX_av hx v, bnd]) (by rw [if_neg h0, if_neg h1, if_neg h2, if_neg h3, if_pos h4])
  by_cases h5 : v1 = 5
  · exact stRO h (r := nI (nl r) + nI (cnt 6 (nobR r))) (by rw [if_neg h0, if_neg h1, if_neg h2, if_neg h3, if_neg h4, if_pos h5, eX_own hx v, bnd, eJ_bc _ hnb, bnd, hx.1]) (by rw [if_neg h0, if_neg h1, if_neg h2, if_neg h3, if_neg h4, if_pos h5, eM_nob hy v, bnd, eM_bits (by omega), bnd, hy.1, cnt10 _ hnb])
  exact stRO h (r := -1) (by rw [if_neg h0, if_neg h1, if_neg h2, if_neg h3, if_neg h4, if_neg h5]) (by rw [if_neg h0, if_neg h1, if_neg h2, if_neg h3, if_neg h4, if_neg h5])
