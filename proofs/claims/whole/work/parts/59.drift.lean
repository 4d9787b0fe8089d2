theorem draw_eq (x : Int32) : ((x >>> ((16 : Int32) &&& 31)) &&& (32767 : Int32)) = (((x.toUInt32 >>> ((16 : Int32).toUInt32 &&& Int32.toUInt32 31)).toInt32) &&& (32767 : Int32)) := by
  apply nI_inj
  apply BitVec.eq_of_getLsbD_eq
  intro i hi
  rw [Int32.toBitVec_and, Int32.toBitVec_and, BitVec.getLsbD_and, BitVec.getLsbD_and]
  have hm : (32767 : Int32).toBitVec.getLsbD i = decide (i < 15) := by
    rw [show (32767 : Int32) = nI (2 ^ 15 - 1) from rfl, n32, BitVec.getLsbD_ofNat, Nat.testBit_two_pow_sub_one]
    simp [hi]
  rw [hm]
  by_cases h15 : i < 15
  · simp only [h15, decide_true, Bool.and_true]
    have e1 : (x >>> ((16 : Int32) &&& 31)).toBitVec.getLsbD i = x.toBitVec.getLsbD (16 + i) := by
      rw [Int32.toBitVec_shiftRight]
      show (x.toBitVec.sshiftRight (((16 : Int32) &&& 31).toBitVec.smod 32).toNat).getLsbD i = _
      rw [show (((16 : Int32) &&& 31).toBitVec.smod 32).toNat = 16 by decide, BitVec.getLsbD_sshiftRight]
      simp [hi, show 16 + i < 32 by omega]
    have e2 : ((x.toUInt32 >>> ((16 : Int32).toUInt32 &&& Int32.toUInt32 31)).toInt32).toBitVec.getLsbD i = x.toBitVec.getLsbD (16 + i) := by
      show (x.toUInt32 >>> ((16 : Int32).toUInt32 &&& Int32.toUInt32 31)).toBitVec.getLsbD i = x.toUInt32.toBitVec.getLsbD (16 + i)
      rw [UInt32.toBitVec_shiftRight]
      show (x.toUInt32.toBitVec >>> (((16 : Int32).toUInt32 &&& Int32.toUInt32 31).toBitVec % 32).toNat).getLsbD i = _
      rw [show (((16 : Int32).toUInt32 &&& Int32.toUInt32 31).toBitVec % 32).toNat = 16 by decide, BitVec.getLsbD_ushiftRight]
    rw [e1, e2]
  · simp [h15]
theorem draw_n (x : Int32) : ∃ d, d < 2 ^ 15 ∧ (((x.toUInt32 >>> ((16 : Int32).toUInt32 &&& Int32.toUInt32 31)).toInt32) &&& (32767 : Int32)) = nI d := pk_andE _ 15 (by decide)
theorem rmN {d n : Nat} (hd : d < 2 ^ 31) (hn : 0 < n) (hn2 : n < 2 ^ 31) : rm (nI d) (nI n) = some (nI (d % n)) := by
  unfold rm
  rw [if_neg (nI_ne0 hn hn2), pk_rem hd hn hn2]
theorem drift_l (N : Nat) (hN : N ≤ 60) (v1 v3 : Int32) (L B : Nat) (hL : 0 < L) (hL4 : L ≤ 4) (hB : 0 < B) (hB6 : B ≤ 6) : ∀ k n1 n2 i many (x y : Sg) (q : Rm) (seed : Int32), i + k = N → k < n1 → k < n2 → RV q → nl q = L → nb q = B → RX x 7 q → x 1 0 = nI L → x 1 1 = nI B → MM y q → y 0 26 = seed → many ≤ i →
    ∃ (m : Nat) (q' : Rm) (x' y' : Sg), fX7_drift_l64 v1 (nI N) v3 n1 x seed (nI many) (nI i) = (if v3 = 0 then some (x', nI m) else some (x', nI (guiR q'))) ∧ fX8_drift_l59 v1 (nI N) v3 n2 y (nI many) (nI i) = ((fX8_copies y' 87 0).bind fun s => if v3 = 0 then some (s, nI m) else some (s, nI (guiR q'))) ∧ (∀ c, c ≠ 8 → c ≠ 12 → x' c = x c) ∧ (∀ c, c ≠ 0 → c ≠ 1 → y' c = y c) ∧ (∀ j, j ≠ 26 → y' 0 j = y 0 j) ∧ (∀ j, 29 ≤ j → y' 1 j = y 1 j) := by
  intro k
  induction k with
  | zero =>
    intro n1 n2 i many x y q seed h1 h2 h3 v hl hb hx hx0 hx1 hy hs hm
    obtain ⟨n1, rfl⟩ := Nat.exists_eq_succ_of_ne_zero (show n1 ≠ 0 by omega)
    obtain ⟨n2, rfl⟩ := Nat.exists_eq_succ_of_ne_zero (show n2 ≠ 0 by omega)
    refine ⟨many, q, x, y, ?_, ?_, fun _ _ _ => rfl, fun _ _ _ => rfl, fun _ _ => rfl, fun _ _ => rfl⟩
    · rw [fX7_drift_l64, if_pos (nI_le (by omega) (by omega)), eX_gui hx v, bnd]
    · rw [fX8_drift_l59, if_pos (nI_le (by omega) (by omega)), eM_gui hy v, bnd]
  | succ k ih =>
    intro n1 n2 i many x y q seed h1 h2 h3 v hl hb hx hx0 hx1 hy hs hm
    obtain ⟨n1, rfl⟩ := Nat.exists_eq_succ_of_ne_zero (show n1 ≠ 0 by omega)
    obtain ⟨n2, rfl⟩ := Nat.exists_eq_succ_of_ne_zero (show n2 ≠ 0 by omega)
    obtain ⟨s1, hs1⟩ : ∃ s1, s1 = seed * 1103515245 + 12345 := ⟨_, rfl⟩
    obtain ⟨s2, hs2⟩ : ∃ s2, s2 = s1 * 1103515245 + 12345 := ⟨_, rfl⟩
    obtain ⟨d1, dl1, e1⟩ := draw_n s1
    obtain ⟨d2, dl2, e2⟩ := draw_n s2
    have hlm : d1 % L < nl q := by rw [hl]; exact Nat.mod_lt _ hL
    have hbm : d2 % B < nb q := by rw [hb]; exact Nat.mod_lt _ hB
    obtain ⟨y2, hy2⟩ : ∃ y2, y2 = up2 (up2 y 0 26 s1) 0 26 s2 := ⟨_, rfl⟩
    have my : MM y2 q := ⟨by rw [hy2, up2_at, if_neg (by omega), up2_at, if_neg (by omega)]; exact hy.1, by rw [hy2, up2_at, if_neg (by omega), up2_at, if_neg (by omega)]; exact hy.2.1, RM.cg v hy.2.2 (fun j _ _ => by rw [hy2, up2_row (by omega), up2_row (by omega)])⟩
    have stepX : fX7_drift_l64 v1 (nI N) v3 (n1 + 1) x seed (nI many) (nI i) = (fX2_sell x 7 (nI (d1 % L)) (nI (d2 % B))).bind fun u8 => if u8.2 = 0 then fX7_drift_l64 v1 (nI N) v3 n1 u8.1 s2 (nI many) (nI (i + 1)) else fX7_drift_l64 v1 (nI N) v3 n1 u8.1 s2 (nI (many + 1)) (nI (i + 1)) := by
      rw [fX7_drift_l64, if_neg (nI_ge (by omega) (by omega))]
      unfold fX7_nextSeed fX7_drawn
      rw [bnd, bnd, ← hs1, e1, hx0, rmN (by omega) hL (by omega), bnd, bnd, bnd, ← hs2, e2, hx1, rmN (by omega) hB (by omega), bnd, nI_1, nI_1]
    have stepY : fX8_drift_l59 v1 (nI N) v3 (n2 + 1) y (nI many) (nI i) = (fX8_buys y2 (nI (d1 % L)) (nI (d2 % B))).bind fun u5 => if u5.2 < 0 then fX8_drift_l59 v1 (nI N) v3 n2 u5.1 (nI many + 0) (nI (i + 1)) else fX8_drift_l59 v1 (nI N) v3 n2 u5.1 (nI (many + 1)) (nI (i + 1)) := by
      rw [fX8_drift_l59, if_neg (nI_ge (by omega) (by omega))]
      unfold fX8_draws pf
      rw [hy.1, hl, bnd, hs, ← hs1, up2_at, if_pos ⟨rfl, rfl⟩, draw_eq, e1, rmN (by omega) hL (by omega), bnd, bnd]
      dsimp only
      rw [bnd, up2_at (σ := y) (a := 0) (b := 26), if_pos ⟨rfl, rfl⟩, ← hs2, ← hy2, up2_at (σ := y), if_neg (by omega), hy.2.1, hb, show y2 0 26 = s2 by rw [hy2, up2_at, if_pos ⟨rfl, rfl⟩], draw_eq, e2, rmN (by omega) hB (by omega), bnd, bnd, nI_1, nI_1]
    rw [stepX, stepY]
    by_cases hc : canR q (d1 % L) (d2 % B) = true
    · obtain ⟨x3, a1, a2, a3⟩ := eX_sell hx v hlm hbm hc
      obtain ⟨y3, b1, b2, b3, b4⟩ := eM_buy my v hlm hbm hc
      have hgl := v.2.2.2.1 _ hlm
      obtain ⟨m, q', x', y', r1, r2, r3, r4, r5, r6⟩ := ih n1 n2 (i + 1) (many + 1) x3 y3 (sellR q (d1 % L) (d2 % B)) s2 (by omega) (by omega) (by omega) (sell_rv v hlm) ((sell_nl _ _ _).trans hl) ((sell_nb _ _ _).trans hb) a2 (by rw [a3 1 (by omega) (by omega)]; exact hx0) (by rw [a3 1 (by omega) (by omega)]; exact hx1) b2 (by rw [b3 0 (by omega), hy2, up2_at, if_pos ⟨rfl, rfl⟩]) (by omega)
      refine ⟨m, q', x', y', by rw [a1, bnd, i1]; exact r1, by rw [b1, bnd, if_neg (nI_pos (by omega))]; exact r2, fun c c1 c2 => by rw [r3 c c1 c2, a3 c (by omega) (by omega)], fun c c1 c2 => by rw [r4 c c1 c2, b3 c c2, hy2, up2_row c1, up2_row c1], fun j hj => by rw [r5 j hj, b3 0 (by omega), hy2, up2_at, if_neg (by omega), up2_at, if_neg (by omega)], fun j hj => by rw [r6 j hj, b4 j hj, hy2, up2_row (by omega), up2_row (by omega)]⟩
    · obtain ⟨m, q', x', y', r1, r2, r3, r4, r5, r6⟩ := ih n1 n2 (i + 1) many x y2 q s2 (by omega) (by omega) (by omega) v hl hb hx hx0 hx1 my (by rw [hy2, up2_at, if_pos ⟨rfl, rfl⟩]) (by omega)
      refine ⟨m, q', x', y', by rw [eX_sell0 hx v hlm hbm hc, bnd, i0]; exact r1, by rw [eM_buy0 my v hlm hbm hc, bnd, if_pos (show (-2 : Int32) < 0 by decide), Int32.add_zero]; exact r2, r3, fun c c1 c2 => by rw [r4 c c1 c2, hy2, up2_row c1, up2_row c1], fun j hj => by rw [r5 j hj, hy2, up2_at, if_neg (by omega), up2_at, if_neg (by omega)], fun j hj => by rw [r6 j hj, hy2, up2_row (by omega), up2_row (by omega)]⟩
theorem S_drift (x y : Sg) (v1 v2 v3 : Int32) (h : Inv x y) : StI Inv (oX7_drift x v1 v2 v3) (oX8_drift y v1 v2 v3) := by
  obtain ⟨r, ⟨v, hx, hy⟩, hrest⟩ := id h
  have hl := v.1
  have hb := v.2.1
  unfold oX7_drift oX8_drift fX7_drift fX8_drift
  by_cases ho : out v2 1 60
  · exact stSame h (r := -1) (by rw [(wiI v2 1 60 1 60 (by decide) (by decide)).1 ho, bnd, i0]) (by rw [(inI v2 1 60 1 60 (by decide) (by decide)).1 ho, bnd, i0])
  · rw [(wiI v2 1 60 1 60 (by decide) (by decide)).2 ho, bnd, i1, (inI v2 1 60 1 60 (by decide) (by decide)).2 ho, bnd, i1]
    obtain ⟨N, hN, rfl⟩ := of_in ho (by decide)
    have hN1 : N ≤ 60 := by unfold out at ho; omega
    by_cases ho2 : out v3 0 1
    · exact stSame h (r := -1) (by rw [(wiI v3 0 1 0 1 (by decide) (by decide)).1 ho2, bnd, i0]) (by rw [(inI v3 0 1 0 1 (by decide) (by decide)).1 ho2, bnd, i0])
    · rw [(wiI v3 0 1 0 1 (by decide) (by decide)).2 ho2, bnd, i1, (inI v3 0 1 0 1 (by decide) (by decide)).2 ho2, bnd, i1, hx.1, hx.2.1, hy.1, hy.2.1]
      by_cases hl0 : nl r = 0
      · exact stSame h (r := -2) (by rw [hl0, if_pos (by decide)]) (by rw [hl0, if_pos (by decide)])
      · rw [if_neg (nI_nle (by omega) (by omega)), if_neg (nI_ne0 (by omega) (by omega))]
        by_cases hb0 : nb r = 0
        · exact stSame h (r := -2) (by rw [hb0, if_neg (by decide)]) (by rw [hb0, if_pos (by decide)])
        · rw [if_pos (show (0 : Int32) < nI (nb r) from nI_lt (a := 0) (by omega) (by omega)), if_neg (nI_ne0 (by omega) (by omega))]
          obtain ⟨x1, a1, a2, a3⟩ := eX_copy x 7 1 (by omega) v hx
          obtain ⟨y1, b1, b2, b3, b4⟩ := eM_copy y 0 87 (by omega) (by omega) (by omega)
          have my : MM (up2 y1 0 26 v1) r := ⟨by rw [up2_at, if_neg (by omega), b2 0 (by omega)]; exact hy.1, by rw [up2_at, if_neg (by omega), b2 0 (by omega)]; exact hy.2.1, RM.cg v hy.2.2 (fun j _ _ => by rw [up2_row (by omega), b4 j (by omega)])⟩
          obtain ⟨m, q', x', y', r1, r2, r3, r4, r5, r6⟩ := drift_l N hN1 v1 v3 (nl r) (nb r) (by omega) (by omega) (by omega) (by omega) N 2000 2000 0 0 x1 (up2 y1 0 26 v1) r v1 (by omega) (by omega) (by omega) v rfl rfl a3 (by rw [a2 1 (by omega)]; exact hx.1) (by rw [a2 1 (by omega)]; exact hx.2.1) my (by rw [up2_at, if_pos ⟨rfl, rfl⟩]) (by omega)
          obtain ⟨y2, c1, c2, c3, c4⟩ := eM_copy y' 87 0 (by omega) (by omega) (by omega)
          have c1' : fX8_copies y' 87 0 = some y2 := c1
          have hxe : Inv x' y2 := by
            refine Inv.sc h ⟨by rw [r3 0 (by omega) (by omega), a2 0 (by omega)], by rw [r3 31 (by omega) (by omega), a2 31 (by omega)], fun c hc => by rw [r3 c (by omega) (by omega), a2 c (by omega)]⟩ ⟨fun j hj => ?_, fun j h1 h2 => ?_, fun c hc => ?_⟩ (fun c h1 h2 => by rw [r3 c (by omega) (by omega), a2 c (by omega)]) (fun j hj => ?_)
            · rw [c2 0 (by omega), r5 j (by omega), up2_at, if_neg (by omega), b2 0 (by omega)]
            · rw [c4 j (by omega), r6 j (by omega), up2_row (by omega), b4 j (by omega)]
            · rw [c2 c (by omega), r4 c (by omega) (by omega), up2_row (by omega), b2 c (by omega)]
            · have e := c3 j hj
              rw [Nat.zero_add] at e
              rw [e, r6 (87 + j) (by omega), up2_row (by omega), b3 j hj, Nat.zero_add]
          have eX : ((fX2_copyFrom x 7 1).bind fun σ3 => fX7_drift_l64 v1 (nI N) v3 2000 σ3 v1 0 0) = (if v3 = 0 then some (x', nI m) else some (x', nI (guiR q'))) := by
            rw [a1, bnd]; exact r1
          have eY : ((fX8_copies y 0 87).bind fun σ3 => (pf σ3 0 26 v1).bind fun σ4 => fX8_drift_l59 v1 (nI N) v3 2000 σ4 0 0) = (if v3 = 0 then some (y2, nI m) else some (y2, nI (guiR q'))) := by
            rw [show fX8_copies y 0 87 = some y1 from b1, bnd]
            unfold pf
            rw [bnd, show fX8_drift_l59 v1 (nI N) v3 2000 (up2 y1 0 26 v1) 0 0 = _ from r2, c1', bnd]
          rw [eX, eY]
          by_cases h0 : v3 = 0
          · exact stOf (by rw [if_pos h0]) (by rw [if_pos h0]) hxe
          · exact stOf (by rw [if_neg h0]) (by rw [if_neg h0]) hxe
