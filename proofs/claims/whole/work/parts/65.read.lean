theorem sb {x y : Sg} {q : Rm} (v : RV q) (hx : RX x 7 q) (hy : MM y q) (A B : Int32) : (∃ (x' y' : Sg) (q' : Rm) (w : Int32), RV q' ∧ nl q' = nl q ∧ nb q' = nb q ∧ fX2_sell x 7 A B = some (x', 1) ∧ fX8_buys y A B = some (y', w) ∧ 0 ≤ w ∧ RX x' 7 q' ∧ MM y' q' ∧ (∀ c, c ≠ 8 → c ≠ 12 → x' c = x c) ∧ (∀ c, c ≠ 1 → y' c = y c) ∧ ∀ j, 29 ≤ j → y' 1 j = y 1 j) ∨ (∃ w : Int32, fX2_sell x 7 A B = some (x, 0) ∧ fX8_buys y A B = some (y, w) ∧ ¬ 0 ≤ w) := by
  have hl := v.1
  have hb := v.2.1
  rcases out_n (n := nl q) (by omega) A with ho | ⟨l, hl2, rfl⟩
  · exact Or.inr ⟨-1, by unfold fX2_sell; rw [eX_canL hx ((out_x (by omega)).mp ho), bnd, i0], by unfold fX8_buys; rw [eM_isLn hy v ho, bnd, i0], by decide⟩
  · rcases out_n (n := nb q) (by omega) B with ho | ⟨b, hb2, rfl⟩
    · exact Or.inr ⟨-1, by unfold fX2_sell; rw [eX_canB hx v hl2 ((out_x (by omega)).mp ho), bnd, i0], by unfold fX8_buys; rw [eM_isL hy v hl2, bnd, i1, eM_isBn hy v ho, bnd, i0], by decide⟩
    · by_cases hc : canR q l b = true
      · obtain ⟨σ1, e1, e2, e3⟩ := eX_sell hx v hl2 hb2 hc
        obtain ⟨σ2, g1, g2, g3, g4⟩ := eM_buy hy v hl2 hb2 hc
        have := v.2.2.2.1 l hl2
        exact Or.inl ⟨σ1, σ2, sellR q l b, _, sell_rv v hl2, sell_nl q l b, sell_nb q l b, e1, g1, nI_pos' (by omega), e2, g2, e3, g3, g4⟩
      · exact Or.inr ⟨-2, eX_sell0 hx v hl2 hb2 hc, eM_buy0 hy v hl2 hb2 hc, by decide⟩
theorem addI (f : Int32) {j : Nat} (hj : j < 100) : (f.toInt + j < 2 ^ 31 ∧ (f + nI j).toInt = f.toInt + j) ∨ (2 ^ 31 ≤ f.toInt + j ∧ (f + nI j).toInt < 0) := by
  have h1 := f.toInt_lt
  have h2 := f.le_toInt
  have e : (f + nI j).toInt = (f.toInt + j).bmod (2 ^ 32) := by rw [Int32.toInt_add, nI_toInt (by omega)]
  rw [e]
  rcases Int.lt_or_le (f.toInt + j) (2 ^ 31) with q | q
  · exact Or.inl ⟨q, Int.bmod_eq_of_le (by omega) (by omega)⟩
  · right
    refine ⟨q, ?_⟩
    have e3 : (f.toInt + j).bmod (2 ^ 32) = f.toInt + j - 2 ^ 32 := by
      rw [Int.bmod_def]
      split <;> omega
    rw [e3]; omega
def inP (f : Int32) (j n : Nat) : Prop := 0 ≤ f.toInt + j ∧ f.toInt + j < n
theorem wiJ (f : Int32) {j n : Nat} (hj : j < 100) (hn : n ≤ 40) : (inP f j n → ∃ c : Nat, c < n ∧ f + nI j = nI c) ∧ (inP f j n → fX7_within (f + nI j) 0 (nI n - 1) = some 1) ∧ (¬ inP f j n → fX7_within (f + nI j) 0 (nI n - 1) = some 0) := by
  have hp := pred_ti (n := n) (by omega)
  have ha := addI f hj
  unfold inP
  refine ⟨fun h => ⟨(f.toInt + j).toNat, by omega, Int32.toInt_inj.mp (by rw [nI_toInt (by omega)]; omega)⟩, fun h => (wiI _ 0 (nI n - 1) 0 ((n : Int) - 1) rfl hp).2 (by unfold out; omega), fun h => (wiI _ 0 (nI n - 1) 0 ((n : Int) - 1) rfl hp).1 (by unfold out; omega)⟩
theorem inJ (f : Int32) {j n : Nat} (hj : j < 100) (hn : n ≤ 40) : (inP f j n → fX8_in (f.toInt64 + (nI j).toInt64) 0 (nI n - 1).toInt64 = some 1) ∧ (¬ inP f j n → fX8_in (f.toInt64 + (nI j).toInt64) 0 (nI n - 1).toInt64 = some 0) := by
  have hp := pred_ti (n := n) (by omega)
  have h1 : (f.toInt64 + (nI j).toInt64).toInt = f.toInt + j := by rw [lg_i2l_add, nI_toInt (by omega)]
  have h2 : (nI n - 1).toInt64.toInt = (n : Int) - 1 := by rw [ti64, hp]
  have h0 : (0 : Int64).toInt = 0 := rfl
  unfold fX8_in inP
  constructor
  · intro h
    rw [if_neg (fun q => by have := Int64.lt_iff_toInt_lt.mp ((lgl _ _).mp q); omega), if_neg (fun q => by have := Int64.lt_iff_toInt_lt.mp ((lgg _ _).mp q); omega)]
  · intro h
    by_cases q : f.toInt + j < 0
    · rw [if_pos ((lgl _ _).mpr (Int64.lt_iff_toInt_lt.mpr (by omega)))]
    · rw [if_neg (fun q2 => by have := Int64.lt_iff_toInt_lt.mp ((lgl _ _).mp q2); omega), if_pos ((lgg _ _).mpr (Int64.lt_iff_toInt_lt.mpr (by omega)))]
section RD
variable (K N : Nat) (v2 f : Int32)
theorem exX {v1 v4 : Int32} {n c : Nat} {σ : Sg} {v6 v7 v8 : Int32} (h : v7 ≠ 0) : fX7_read_l59 v1 v2 f v4 (n + 1) σ c v6 v7 v8 = fX7_read_b139 v1 v2 f v4 σ v6 v7 := by
  rw [fX7_read_l59]
  split
  · rfl
  · first | rfl | rw [if_neg h]
theorem exM {v1 v4 : Int32} {n : Nat} {σ : Sg} {v5 v6 v7 : Int32} (h : v5 ≠ 0) : fX8_read_l55 v1 v2 f v4 (n + 1) σ v5 v6 v7 = fX8_read_b196 v1 v2 f v4 σ v5 v6 := by
  rw [fX8_read_l55]
  split
  · rfl
  · first | rfl | rw [if_neg h]
/-- how a reading ends -/
def RE (x y : Sg) (q : Rm) (a b : Option (Sg × Int32)) : Prop := ∃ (x' y' : Sg) (m : Nat), (∀ c, c ≠ 8 → c ≠ 12 → x' c = x c) ∧ (∀ c, c ≠ 1 → y' c = y c) ∧ (∀ j, 29 ≤ j → y' 1 j = y 1 j) ∧ ((∃ (q' : Rm) (t : Int32), RV q' ∧ nl q' = nl q ∧ nb q' = nb q ∧ RX x' 7 q' ∧ MM y' q' ∧ a = fX7_read_b139 (nI K) v2 f (nI N) x' (nI m) t ∧ b = fX8_read_b196 (nI K) v2 f (nI N) y' t (nI m)) ∨ (a = some (x', (-20 : Int32) - nI m) ∧ b = (fX8_copies y' 87 0).bind fun s => some (s, (-20 : Int32) - nI m)))
theorem read_l (hK : K < 4) (hN : N ≤ 20) : ∀ (k n1 n2 i : Nat) (x y : Sg) (q : Rm), i + k = N → k < n1 → 2 * k < n2 → RV q → RX x 7 q → MM y q → ((x (45 + 2 * K) 2 = -4 ∧ y 11 K = -4) ∨ ∃ la n, la ≤ 2 ∧ n ≤ 40 ∧ x (45 + 2 * K) 1 = nI la ∧ x (45 + 2 * K) 2 = nI n ∧ y 11 K = nI la ∧ y 12 K = nI n ∧ ∀ i, i < 40 → x (46 + 2 * K) i = y 13 (40 * K + i)) →
    RE K N v2 f x y q (fX7_read_l59 (nI K) v2 f (nI N) n1 x (45 + 2 * K) (nI i) 0 (nI i)) (fX8_read_l55 (nI K) v2 f (nI N) n2 y 0 (nI i) (nI (2 * i))) := by
  intro k
  induction k with
  | zero =>
    intro n1 n2 i x y q h1 h2 h3 v hx hy hS
    obtain ⟨n1, rfl⟩ := Nat.exists_eq_succ_of_ne_zero (show n1 ≠ 0 by omega)
    obtain ⟨n2, rfl⟩ := Nat.exists_eq_succ_of_ne_zero (show n2 ≠ 0 by omega)
    refine ⟨x, y, i, fun _ _ _ => rfl, fun _ _ => rfl, fun _ _ => rfl, Or.inl ⟨q, 0, v, rfl, rfl, hx, hy, ?_, ?_⟩⟩
    · rw [fX7_read_l59, if_pos (nI_le (by omega) (by omega))]
    · rw [fX8_read_l55, show (2 : Int32) = nI 2 from rfl, nI_mul, if_pos (nI_le (by omega) (by omega))]
  | succ k ih =>
    intro n1 n2 i x y q h1 h2 h3 v hx hy hS
    obtain ⟨n1, rfl⟩ := Nat.exists_eq_succ_of_ne_zero (show n1 ≠ 0 by omega)
    obtain ⟨n2, rfl⟩ := Nat.exists_eq_succ_of_ne_zero (show n2 ≠ 0 by omega)
    obtain ⟨n2, rfl⟩ := Nat.exists_eq_succ_of_ne_zero (show n2 ≠ 0 by omega)
    obtain ⟨n1', rfl⟩ := Nat.exists_eq_succ_of_ne_zero (show n1 ≠ 0 by omega)
    -- a fault at this pair
    have stop : ∀ t : Int32, t ≠ 0 → fX3_faultOfPair x (45 + 2 * K) v2 (f + nI (2 * i)) = some t → fX8_read_l55 (nI K) v2 f (nI N) (n2 + 1 + 1) y 0 (nI i) (nI (2 * i)) = fX8_read_b196 (nI K) v2 f (nI N) y t (nI i) → RE K N v2 f x y q (fX7_read_l59 (nI K) v2 f (nI N) (n1' + 1 + 1) x (45 + 2 * K) (nI i) 0 (nI i)) (fX8_read_l55 (nI K) v2 f (nI N) (n2 + 1 + 1) y 0 (nI i) (nI (2 * i))) := by
      intro t ht e1 e2
      refine ⟨x, y, i, fun _ _ _ => rfl, fun _ _ => rfl, fun _ _ => rfl, Or.inl ⟨q, t, v, rfl, rfl, hx, hy, ?_, e2⟩⟩
      rw [fX7_read_l59, if_neg (nI_ge (by omega) (by omega)), if_pos rfl, show (2 : Int32) = nI 2 from rfl, nI_mul, e1, bnd, if_neg ht]
      exact exX v2 f ht
    have hge : ¬ nI (2 * N) ≤ nI (2 * i) := nI_ge (by omega) (by omega)
    have hge1 : ¬ nI (2 * N) ≤ nI (2 * i + 1) := nI_ge (by omega) (by omega)
    rcases hS with ⟨s1, s2⟩ | ⟨la, n, s1, s2, s3, s4, s5, s6, s7⟩
    · refine stop 1 (by decide) ?_ ?_
      · unfold fX3_faultOfPair fX3_faultOfPair_b19 fX3_faultAt
        rw [s1, if_pos rfl, if_pos rfl, bnd, i1]
      · rw [fX8_read_l55, show (2 : Int32) * nI N = nI (2 * N) from nI_mul 2 N, if_neg hge, if_pos rfl, rdN (by omega) (by omega), bnd, s2, if_pos rfl]
        unfold fX8_read_b125
        rw [i1]
        exact exM v2 f (by decide)
    · by_cases hla : nI la = v2
      · have hX : fX3_faultOfPair x (45 + 2 * K) v2 (f + nI (2 * i)) = fX3_faultOfPair_b19 x (45 + 2 * K) v2 (f + nI (2 * i)) := by
          unfold fX3_faultOfPair
          rw [s4, s3, if_neg (nI_ne4 (by omega)), if_pos hla]
        have hM : ∀ (n3 j : Nat) (c : Int32), ¬ nI (2 * N) ≤ nI j → fX8_read_l55 (nI K) v2 f (nI N) (n3 + 1) y 0 c (nI j) = (fX8_in (f.toInt64 + (nI j).toInt64) 0 (nI n - 1).toInt64).bind fun t4 => if t4 = 0 then fX8_read_b125 (nI K) v2 f (nI N) (fun σ v5 v6 v7 => fX8_read_l55 (nI K) v2 f (nI N) n3 σ v5 v6 v7) y c (nI j) 2 else fX8_read_b125 (nI K) v2 f (nI N) (fun σ v5 v6 v7 => fX8_read_l55 (nI K) v2 f (nI N) n3 σ v5 v6 v7) y c (nI j) 0 := by
          intro n3 j c hj
          rw [fX8_read_l55, show (2 : Int32) * nI N = nI (2 * N) from nI_mul 2 N, if_neg hj, if_pos rfl, rdN (by omega) (by omega), bnd, s5, if_neg (nI_ne4 (by omega)), bnd, if_pos hla, rdN (by omega) (by omega), bnd, s6]
        by_cases p1 : inP f (2 * i) n
        · -- the first cell is there
          have hM1 : fX8_read_l55 (nI K) v2 f (nI N) (n2 + 1 + 1) y 0 (nI i) (nI (2 * i)) = fX8_read_l55 (nI K) v2 f (nI N) (n2 + 1) y 0 (nI i) (nI (2 * i + 1)) := by
            rw [hM (n2 + 1) (2 * i) (nI i) hge, (inJ f (by omega) s2).1 p1, bnd, i1]
            unfold fX8_read_b125
            rw [if_pos rfl, show (2 : Int32) = nI 2 from rfl, rmN (by omega) (by omega) (by omega), bnd, show 2 * i % 2 = 0 by omega, if_neg (by decide), nI_1]
          by_cases p2 : inP f (2 * i + 1) n
          · obtain ⟨c, hc, ec⟩ := (wiJ f (j := 2 * i) (by omega) s2).1 p1
            have ec1 : f + nI (2 * i) + 1 = nI (c + 1) := by rw [ec, nI_1]
            have hc1 : c + 1 < n := by
              obtain ⟨c', hc', ec'⟩ := (wiJ f (j := 2 * i + 1) (by omega) s2).1 p2
              have : nI (c + 1) = nI c' := by rw [← ec1, ← ec', ← nI_1, Int32.add_assoc]
              have := (nI_eq (by omega) (by omega)).mp this
              omega
            have fa : ∀ d, d < n → fX3_faultAt x (45 + 2 * K) (nI d) = some 0 := by
              intro d hd
              unfold fX3_faultAt
              rw [s4, if_neg (nI_ne4 (by omega)), (wiI (nI d) 0 (nI n - 1) 0 ((n : Int) - 1) rfl (pred_ti (by omega))).2 (nout (by omega) hd), bnd, i1]
            have ca : ∀ d, d < n → fX3_cellAt x (45 + 2 * K) (nI d) = some (x (46 + 2 * K) d) := by
              intro d hd
              unfold fX3_cellAt
              rw [fa d hd, bnd, i0, show 45 + 2 * K + 1 = 46 + 2 * K by omega, rdN (by omega) (by omega), bnd]
            have fp : fX3_faultOfPair x (45 + 2 * K) v2 (f + nI (2 * i)) = some 0 := by
              rw [hX]; unfold fX3_faultOfPair_b19
              rw [ec, fa c hc, bnd, i0, nI_1, fa (c + 1) hc1, bnd]
            have ia : (((40 : Int32) * nI K + f) + nI (2 * i + 1)) = nI (40 * K + (c + 1)) := by
              rw [show (40 : Int32) = nI 40 from rfl, nI_mul, Int32.add_assoc, ← nI_1, ← Int32.add_assoc f, ec1, nI_add]
            have ib : (((40 : Int32) * nI K + f) + nI (2 * i + 1)) - 1 = nI (40 * K + c) := by
              rw [ia, show 40 * K + (c + 1) = (40 * K + c) + 1 by omega, nI_pred]
            have stX : fX7_read_l59 (nI K) v2 f (nI N) (n1' + 1 + 1) x (45 + 2 * K) (nI i) 0 (nI i) = (fX2_sell x 7 (x (46 + 2 * K) c) (x (46 + 2 * K) (c + 1))).bind fun u4 => if u4.2 = 0 then some (u4.1, (-20 : Int32) - nI i) else fX7_read_l59 (nI K) v2 f (nI N) (n1' + 1) u4.1 (45 + 2 * K) (nI (i + 1)) 0 (nI (i + 1)) := by
              rw [fX7_read_l59, if_neg (nI_ge (by omega) (by omega)), if_pos rfl, show (2 : Int32) = nI 2 from rfl, nI_mul, fp, bnd, i0, ec1, ec, ca c hc, bnd, ca (c + 1) hc1, bnd, nI_1]
            have stM : fX8_read_l55 (nI K) v2 f (nI N) (n2 + 1 + 1) y 0 (nI i) (nI (2 * i)) = (fX8_buys y (x (46 + 2 * K) c) (x (46 + 2 * K) (c + 1))).bind fun u4 => if 0 ≤ u4.2 then fX8_read_l55 (nI K) v2 f (nI N) n2 u4.1 0 (nI (i + 1)) (nI (2 * (i + 1))) else (fX8_copies u4.1 (87 : Int32) (0 : Int32)).bind fun σ5 => some (σ5, ((-20 : Int32) - nI i)) := by
              rw [hM1, hM n2 (2 * i + 1) (nI i) hge1, (inJ f (by omega) s2).1 p2, bnd, i1]
              unfold fX8_read_b125
              rw [if_pos rfl, show (2 : Int32) = nI 2 from rfl, rmN (by omega) (by omega) (by omega), bnd, show (2 * i + 1) % 2 = 1 by omega, if_pos (show nI 1 = (1 : Int32) from rfl), ib, ia, rdN (by omega) (by omega), bnd, rdN (by omega) (by omega), bnd, nI_1, nI_1, s7 c (by omega), s7 (c + 1) (by omega), show 2 * i + 1 + 1 = 2 * (i + 1) by omega]
            rw [stX, stM]
            rcases sb v hx hy (x (46 + 2 * K) c) (x (46 + 2 * K) (c + 1)) with ⟨x1, y1, q1, w, e1, e2, e3, e4, e5, e6, e7, e8, e9, e10, e11⟩ | ⟨w, e1, e2, e3⟩
            · obtain ⟨x2, y2, m, g1, g2, g3, g4⟩ := ih (n1' + 1) n2 (i + 1) x1 y1 q1 (by omega) (by omega) (by omega) e1 e7 e8 (Or.inr ⟨la, n, s1, s2, by rw [e9 _ (by omega) (by omega)]; exact s3, by rw [e9 _ (by omega) (by omega)]; exact s4, by rw [e10 _ (by omega)]; exact s5, by rw [e10 _ (by omega)]; exact s6, fun i hi => by rw [e9 _ (by omega) (by omega), e10 _ (by omega)]; exact s7 i hi⟩)
              rw [e4, bnd, i1, e5, bnd, if_pos e6]
              refine ⟨x2, y2, m, fun c c1 c2 => by rw [g1 c c1 c2, e9 c c1 c2], fun c c1 => by rw [g2 c c1, e10 c c1], fun j hj => by rw [g3 j hj, e11 j hj], ?_⟩
              rcases g4 with ⟨q', t, a1, a2, a3, a4⟩ | g4
              · exact Or.inl ⟨q', t, a1, a2.trans e2, a3.trans e3, a4⟩
              · exact Or.inr g4
            · rw [e1, bnd, i0, e2, bnd, if_neg e3]
              exact ⟨x, y, i, fun _ _ _ => rfl, fun _ _ => rfl, fun _ _ => rfl, Or.inr ⟨rfl, rfl⟩⟩
          · refine stop 2 (by decide) ?_ ?_
            · rw [hX]
              unfold fX3_faultOfPair_b19 fX3_faultAt
              rw [s4, if_neg (nI_ne4 (by omega)), if_neg (nI_ne4 (by omega)), (wiJ f (by omega) s2).2.1 p1, bnd, i1, bnd, i0, Int32.add_assoc, nI_1, (wiJ f (by omega) s2).2.2 p2, bnd, i0, bnd]
            · rw [hM1, hM n2 (2 * i + 1) (nI i) hge1, (inJ f (by omega) s2).2 p2, bnd, i0]
              unfold fX8_read_b125
              rw [if_neg (by decide)]
              obtain ⟨n2, rfl⟩ := Nat.exists_eq_succ_of_ne_zero (show n2 ≠ 0 by omega)
              exact exM v2 f (by decide)
        · refine stop 2 (by decide) ?_ ?_
          · rw [hX]
            unfold fX3_faultOfPair_b19 fX3_faultAt
            rw [s4, if_neg (nI_ne4 (by omega)), if_neg (nI_ne4 (by omega)), (wiJ f (by omega) s2).2.2 p1, bnd, i0, bnd, if_neg (by decide)]
          · rw [hM (n2 + 1) (2 * i) (nI i) hge, (inJ f (by omega) s2).2 p1, bnd, i0]
            unfold fX8_read_b125
            rw [if_neg (by decide)]
            exact exM v2 f (by decide)
      · refine stop 3 (by decide) ?_ ?_
        · unfold fX3_faultOfPair
          rw [s4, s3, if_neg (nI_ne4 (by omega)), if_neg hla]
        · rw [fX8_read_l55, show (2 : Int32) * nI N = nI (2 * N) from nI_mul 2 N, if_neg hge, if_pos rfl, rdN (by omega) (by omega), bnd, s5, if_neg (nI_ne4 (by omega)), bnd, if_neg hla]
          unfold fX8_read_b125
          rw [if_neg (by decide)]
          exact exM v2 f (by decide)
end RD
theorem S_read (x y : Sg) (v1 v2 v3 v4 : Int32) (h : Inv x y) : StI Inv (oX7_read x v1 v2 v3 v4) (oX8_read y v1 v2 v3 v4) := by
  obtain ⟨r, ⟨v, hx, hy⟩, hrest⟩ := id h
  have hl := v.1
  have hb := v.2.1
  unfold oX7_read oX8_read fX7_read fX8_read
  by_cases ho : out v1 0 3
  · exact stSame h (r := -1) (by rw [(wiI v1 0 3 0 3 (by decide) (by decide)).1 ho, bnd, i0]) (by rw [(inI v1 0 3 0 3 (by decide) (by decide)).1 ho, bnd, i0])
  · rw [(wiI v1 0 3 0 3 (by decide) (by decide)).2 ho, bnd, i1, (inI v1 0 3 0 3 (by decide) (by decide)).2 ho, bnd, i1]
    by_cases ho2 : out v2 0 2
    · exact stSame h (r := -1) (by rw [(wiI v2 0 2 0 2 (by decide) (by decide)).1 ho2, bnd, i0]) (by rw [(inI v2 0 2 0 2 (by decide) (by decide)).1 ho2, bnd, i0])
    · rw [(wiI v2 0 2 0 2 (by decide) (by decide)).2 ho2, bnd, i1, (inI v2 0 2 0 2 (by decide) (by decide)).2 ho2, bnd, i1]
      by_cases ho3 : out v4 0 20
      · exact stSame h (r := -1) (by rw [(wiI v4 0 20 0 20 (by decide) (by decide)).1 ho3, bnd, i0]) (by rw [(inI v4 0 20 0 20 (by decide) (by decide)).1 ho3, bnd, i0])
      · rw [(wiI v4 0 20 0 20 (by decide) (by decide)).2 ho3, bnd, i1, (inI v4 0 20 0 20 (by decide) (by decide)).2 ho3, bnd, i1]
        obtain ⟨K, hK, rfl⟩ := of_in ho (by decide)
        have hK1 : K < 4 := by unfold out at ho; omega
        obtain ⟨N, hN, rfl⟩ := of_in ho3 (by decide)
        have hN1 : N ≤ 20 := by unfold out at ho3; omega
        obtain ⟨x1, a1, a2, a3⟩ := eX_copy x 7 1 (by omega) v hx
        obtain ⟨y1, b1, b2, b3, b4⟩ := eM_copy y 0 87 (by omega) (by omega) (by omega)
        have my : MM y1 r := ⟨by rw [b2 0 (by omega)]; exact hy.1, by rw [b2 0 (by omega)]; exact hy.2.1, RM.cg v hy.2.2 (fun j _ _ => b4 j (by omega))⟩
        have hH := hrest.2.2.2.1 K hK1
        have rl := read_l K N v2 v3 hK1 hN1 N 2000 2000 0 x1 y1 r (by omega) (by omega) (by omega) v a3 my (by rw [a2 _ (by omega), a2 _ (by omega), b2 11 (by omega), b2 12 (by omega), b2 13 (by omega)]; exact hH)
        rw [rxs K hK1, bnd, a1, bnd, show fX8_copies y 0 87 = some y1 from b1, bnd]
        rw [Nat.mul_zero, nI_0] at rl
        obtain ⟨x2, y2, m, g1, g2, g3, ⟨q', t, c1, c2, c3, c4, c5, c6, c7⟩ | ⟨c1, c2⟩⟩ := rl
        · rw [c6, c7]
          unfold fX7_read_b139 fX8_read_b196 pf
          obtain ⟨x3, d1, d2, d3⟩ := eX_copy x2 1 7 (by omega) c1 c4
          rw [d1, bnd, bnd, bnd]
          refine stOf (x' := up2 x3 0 10 t) (y' := up2 y2 0 31 t) (r := nI m) rfl rfl ?_
          obtain ⟨hI, hT, hS, hH', hE⟩ := hrest
          have X : ∀ c, c ≠ 0 → 13 ≤ c → (up2 x3 0 10 t) c = x c := fun c h0 hc => by rw [up2_row h0, d2 c (by omega), g1 c (by omega) (by omega), a2 c (by omega)]
          have Y : ∀ c, c ≠ 0 → c ≠ 1 → (up2 y2 0 31 t) c = y c := fun c h0 h1 => by rw [up2_row h0, g2 c h1, b2 c h1]
          have Y0 : ∀ j, j ≠ 31 → (up2 y2 0 31 t) 0 j = y 0 j := fun j hj => by rw [up2_at, if_neg (by omega), g2 0 (by omega), b2 0 (by omega)]
          refine ⟨q', ⟨c1, d3.cg (fun c h1 h2 => up2_row (by omega)), by rw [up2_at, if_neg (by omega)]; exact c5.1, by rw [up2_at, if_neg (by omega)]; exact c5.2.1, RM.cg c1 c5.2.2 (fun j _ _ => by rw [up2_row (by omega)])⟩, hI.tr c2 c3 (fun c hc => X c (by omega) (by omega)) (Y 10 (by omega) (by omega)) (fun j h1 h2 => by rw [up2_row (by omega), g3 j h1, b4 j (by omega)]), hT.tr (fun c hc => X c (by omega) (by omega)) (Y 3 (by omega) (by omega)) (Y0 9 (by omega)), hS.tr c2 (fun c hc => X c (by omega) (by omega)) (Y 8 (by omega) (by omega)) (Y0 24 (by omega)), hH'.tr (fun c h1 h2 => X c (by omega) (by omega)) (fun c hc => Y c (by omega) (by omega)), ?_, ?_, ?_, ?_⟩
          · rw [X 31 (by omega) (by omega), Y0 10 (by omega)]; exact hE.1
          · rw [up2_at, if_pos ⟨rfl, rfl⟩, up2_at, if_pos ⟨rfl, rfl⟩]
          · rw [Y 4 (by omega) (by omega)]; exact hE.2.2.1
          · rw [Y 5 (by omega) (by omega)]; exact hE.2.2.2
        · obtain ⟨y3, d1, d2, d3, d4⟩ := eM_copy y2 87 0 (by omega) (by omega) (by omega)
          rw [c1, c2, show fX8_copies y2 87 0 = some y3 from d1, bnd]
          refine stOf (x' := x2) (y' := y3) rfl rfl ?_
          refine Inv.sc h ⟨by rw [g1 0 (by omega) (by omega), a2 0 (by omega)], by rw [g1 31 (by omega) (by omega), a2 31 (by omega)], fun c hc => by rw [g1 c (by omega) (by omega), a2 c (by omega)]⟩ ⟨fun j hj => by rw [d2 0 (by omega), g2 0 (by omega), b2 0 (by omega)], fun j h1 h2 => by rw [d4 j (by omega), g3 j h1, b4 j (by omega)], fun c hc => by rw [d2 c (by omega), g2 c (by omega), b2 c (by omega)]⟩ (fun c h1 h2 => by rw [g1 c (by omega) (by omega), a2 c (by omega)]) (fun j hj => ?_)
          have e := d3 j hj
          rw [Nat.zero_add] at e
          rw [e, g3 (87 + j) (by omega), b3 j hj, Nat.zero_add]
