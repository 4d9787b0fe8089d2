-- ask
def carF (r : Rm) (b P s : Nat) : Nat → Nat := fun i => if P.testBit i = true ∧ carR (setOw r b (cw i)) s = true then 1 else 0
theorem otc_l {r : Rm} (v : RV r) {b : Nat} (hb : b < nb r) {P s : Nat} (hP : P < 32) (hPc : ∀ i, P.testBit i = true → i < 5 → cnd r i = true) (hs : s < 16) : ∀ (k n i t : Nat) (σ : Sg), i + k = 5 → k < n → RX σ 7 (setOw r b t) → ∃ σ' : Sg, fX7_ownersThatCarry_l17 (nI b) (nI P) (nI s) n σ (nI (sm i (carF r b P s))) (nI i) = some (σ', nI (sm 5 (carF r b P s))) ∧ ∀ c, c ≠ 12 → σ' c = σ c := by
  have hbn := v.2.1
  intro k
  induction k with
  | zero =>
    intro n i t σ h1 h2 hx
    obtain ⟨n, rfl⟩ := Nat.exists_eq_succ_of_ne_zero (show n ≠ 0 by omega)
    obtain rfl : i = 5 := by omega
    exact ⟨σ, by rw [fX7_ownersThatCarry_l17, if_pos (by decide)], fun _ _ => rfl⟩
  | succ k ih =>
    intro n i t σ h1 h2 hx
    obtain ⟨n, rfl⟩ := Nat.exists_eq_succ_of_ne_zero (show n ≠ 0 by omega)
    rw [fX7_ownersThatCarry_l17, if_neg (show ¬ (4 : Int32) < nI i from nI_nlt (a := 4) (by omega) (by omega)), holdsN (by omega) (by omega), bnd, nI_1, nI_1]
    by_cases hc : P.testBit i = true
    · have hcc := hPc i hc (by omega)
      have hx2 := RX.setOw (i := b) (x := cw i) hx
      rw [setOw_set] at hx2
      obtain ⟨σ', e1, e2⟩ := ih n (i + 1) (cw i) (up2 σ 12 b (oX (cw i))) (by omega) (by omega) hx2
      refine ⟨σ', ?_, fun c hc => by rw [e2 c hc, up2_row hc]⟩
      rw [if_pos hc, i1, eX_cand (by omega), bnd, wrN (by omega) (by omega), bnd, eX_car hx2 (RV.setOw v (cw_le hcc)) (by omega), bnd, ← e1, sm]
      by_cases q : carR (setOw r b (cw i)) s = true
      · have e0 : carF r b P s i = 1 := by unfold carF; rw [if_pos ⟨hc, q⟩]
        rw [if_pos q, i1, e0]
      · have e0 : carF r b P s i = 0 := by unfold carF; rw [if_neg (fun p => q p.2)]
        rw [if_neg q, i0, e0]; rfl
    · obtain ⟨σ', e1, e2⟩ := ih n (i + 1) t σ (by omega) (by omega) hx
      refine ⟨σ', ?_, e2⟩
      have e0 : carF r b P s i = 0 := by unfold carF; rw [if_neg (fun p => hc p.1)]
      rw [if_neg hc, i0, ← e1, sm, e0]; rfl
theorem eX_otc {r : Rm} (v : RV r) {b : Nat} (hb : b < nb r) {P s : Nat} (hP : P < 32) (hPc : ∀ i, P.testBit i = true → i < 5 → cnd r i = true) (hs : s < 16) {x : Sg} (hx : RX x 1 r) : ∃ x' : Sg, fX7_ownersThatCarry x (nI b) (nI P) (nI s) = some (x', nI (sm 5 (carF r b P s))) ∧ ∀ c, c < 7 ∨ 12 < c → x' c = x c := by
  obtain ⟨x1, a1, a2, a3⟩ := eX_copy x 7 1 (by omega) v hx
  obtain ⟨x2, c1, c2⟩ := otc_l v hb hP hPc hs 5 2000 0 (ow r b) x1 (by omega) (by omega) (by rw [setOw_id]; exact a3)
  rw [sm, nI_0] at c1
  exact ⟨x2, by unfold fX7_ownersThatCarry; rw [a1, bnd]; exact c1, fun c hc => by rw [c2 c (by omega), a2 c (by omega)]⟩
def worst (now c : Int32) : Int32 := if c ≤ now - c then now - c else c
theorem imax_w (now c : Int32) : imax c (now - c) = worst now c := by
  unfold imax worst
  by_cases h : c ≤ now - c
  · rw [if_pos h]
    by_cases h2 : c < now - c
    · rw [if_pos h2]
    · rw [if_neg h2]
      apply Int32.toInt_inj.mp
      rw [Int32.le_iff_toInt_le] at h
      rw [Int32.lt_iff_toInt_lt] at h2
      omega
  · rw [if_neg h, if_neg (fun q => h (by rw [Int32.le_iff_toInt_le]; rw [Int32.lt_iff_toInt_lt] at q; omega))]
theorem ask60 {r : Rm} (v : RV r) {b : Nat} (hb : b < nb r) {P s : Nat} (hP : P < 32) (hPc : ∀ i, P.testBit i = true → i < 5 → cnd r i = true) (hs : s < 2 ^ nl r) (w1 w2 v4 v5 v6 : Int32) (k43 : Sg → Int32 → Int32 → Int32 → Int32 → Int32 → Option (Sg × Int32)) {σ : Sg} (h9 : ∀ j, j < 5 → cnd r j = true → σ 9 j = nI (cbN r b j)) : ∀ (k n i : Nat), i + k = 5 → k < n → fX8_ask_l60 w1 w2 k43 n σ (nI P) v4 v5 v6 (nI s) (nI (sm i (carF r b P s))) (nI i) = (if v4 ≤ worst v5 (nI (sm 5 (carF r b P s))) then k43 σ (nI P) v4 v5 v6 (nI (s + 1)) else k43 σ (nI P) (worst v5 (nI (sm 5 (carF r b P s)))) v5 (nI s) (nI (s + 1))) := by
  have hbn := v.2.1
  have hl := v.1
  have hp : 2 ^ nl r ≤ 2 ^ 4 := Nat.pow_le_pow_right (by decide) hl
  intro k
  induction k with
  | zero =>
    intro n i h1 h2
    obtain ⟨n, rfl⟩ := Nat.exists_eq_succ_of_ne_zero (show n ≠ 0 by omega)
    obtain rfl : i = 5 := by omega
    rw [fX8_ask_l60, if_pos (by decide)]
    unfold fX8_ask_b123 fX8_ask_b139
    rw [nI_1]
    unfold worst
    by_cases q : nI (sm 5 (carF r b P s)) ≤ v5 - nI (sm 5 (carF r b P s))
    · rw [if_pos q, if_pos q]
      by_cases q2 : v4 ≤ v5 - nI (sm 5 (carF r b P s))
      · rw [if_pos q2, if_pos q2, if_pos q2]
      · rw [if_neg q2, if_neg q2, if_neg q2]
    · rw [if_neg q, if_neg q]
      by_cases q2 : v4 ≤ nI (sm 5 (carF r b P s))
      · rw [if_pos q2, if_pos q2, if_pos q2]
      · rw [if_neg q2, if_neg q2, if_neg q2]
  | succ k ih =>
    intro n i h1 h2
    obtain ⟨n, rfl⟩ := Nat.exists_eq_succ_of_ne_zero (show n ≠ 0 by omega)
    have e := ih n (i + 1) (by omega) (by omega)
    rw [fX8_ask_l60, if_neg (show ¬ (4 : Int32) < nI i from nI_nlt (a := 4) (by omega) (by omega)), ← e, sm]
    by_cases hc : P.testBit i = true
    · have hcc := hPc i hc (by omega)
      have hlt : cbN r b i < 2 ^ 16 := by
        have := msk_lt (fun s => carR (setOw r b (cw i)) s) (2 ^ nl r)
        have h16 : 2 ^ 2 ^ nl r ≤ 2 ^ 16 := Nat.pow_le_pow_right (by decide) hp
        unfold cbN; omega
      rw [if_pos ((bitP (by omega) (by omega)).mpr hc), rdN (by omega) (by omega), bnd, h9 i (by omega) hcc, bitN (by omega) (by omega), nI_add, nI_1]
      have hb2 : cbN r b i / 2 ^ s % 2 = carF r b P s i := by
        have t := tb (cbN r b i) s
        unfold cbN at t ⊢
        rw [msk_bit] at t
        unfold carF
        by_cases q : carR (setOw r b (cw i)) s = true
        · rw [if_pos ⟨hc, q⟩]; simp [q, hs] at t; omega
        · rw [if_neg (fun p => q p.2)]; simp [q] at t; omega
      rw [hb2]
    · have e0 : carF r b P s i = 0 := by unfold carF; rw [if_neg (fun p => hc p.1)]
      rw [if_neg (fun q => hc ((bitP (by omega) (by omega)).mp q)), Int32.add_zero, nI_1, e0]; rfl
theorem ask_l {r : Rm} (v : RV r) {b : Nat} (hb : b < nb r) {P : Nat} (hP : P < 32) (hPc : ∀ i, P.testBit i = true → i < 5 → cnd r i = true) (w v2 now : Int32) {y : Sg} (hy : y 0 1 = nI (nl r)) (h9 : ∀ j, j < 5 → cnd r j = true → y 9 j = nI (cbN r b j)) : ∀ (k n1 n2 s : Nat) (x : Sg) (few best : Int32), s + k = 2 ^ nl r → k < n1 → k < n2 → RX x 1 r → ∃ (x' : Sg) (z : Int32), fX7_ask_l45 (nI b) v2 n1 x (nI P) now few best (nI s) = some (x', z) ∧ fX8_ask_l43 w v2 n2 y (nI P) few now best (nI s) = some (y, z) ∧ ∀ c, c < 7 ∨ 12 < c → x' c = x c := by
  have hbn := v.2.1
  have hl := v.1
  have hp : 2 ^ nl r ≤ 2 ^ 4 := Nat.pow_le_pow_right (by decide) hl
  have hp0 := Nat.two_pow_pos (nl r)
  intro k
  induction k with
  | zero =>
    intro n1 n2 s x few best h1 h2 h3 hx
    obtain ⟨n1, rfl⟩ := Nat.exists_eq_succ_of_ne_zero (show n1 ≠ 0 by omega)
    obtain ⟨n2, rfl⟩ := Nat.exists_eq_succ_of_ne_zero (show n2 ≠ 0 by omega)
    rw [fX7_ask_l45, eX_everyL hx v, bnd, if_pos (nI_lt (by omega) (by omega)), fX8_ask_l43, hy, shlN (by omega), if_pos (nI_le (by omega) (by omega))]
    by_cases hb4 : best = -4
    · rw [if_pos hb4, if_pos hb4]; exact ⟨x, best, rfl, rfl, fun _ _ => rfl⟩
    · rw [if_neg hb4, if_neg hb4]
      by_cases h0 : v2 = 0
      · rw [if_pos h0, if_pos h0]; exact ⟨x, best, rfl, rfl, fun _ _ => rfl⟩
      · rw [if_neg h0, if_neg h0]; exact ⟨x, few, rfl, rfl, fun _ _ => rfl⟩
  | succ k ih =>
    intro n1 n2 s x few best h1 h2 h3 hx
    obtain ⟨n1, rfl⟩ := Nat.exists_eq_succ_of_ne_zero (show n1 ≠ 0 by omega)
    obtain ⟨n2, rfl⟩ := Nat.exists_eq_succ_of_ne_zero (show n2 ≠ 0 by omega)
    obtain ⟨x1, a1, a2⟩ := eX_otc v hb hP hPc (show s < 16 by omega) hx
    have h60 := ask60 v hb hP hPc (show s < 2 ^ nl r by omega) w v2 few now best (fun σ v3 v4 v5 v6 v7 => fX8_ask_l43 w v2 n2 σ v3 v4 v5 v6 v7) h9 5 2000 0 (by omega) (by omega)
    rw [sm, nI_0] at h60
    have hx1 : RX x1 1 r := hx.cg (fun c c1 c2 => a2 c (by omega))
    rw [fX7_ask_l45, eX_everyL hx v, bnd, if_neg (nI_nlt (by omega) (by omega)), a1, bnd, fX8_ask_l43, hy, shlN (by omega), if_neg (nI_ge (by omega) (by omega)), h60, nI_1]
    dsimp only
    rw [imax_w]
    by_cases q : few ≤ worst now (nI (sm 5 (carF r b P s)))
    · rw [if_pos q, if_pos q]
      obtain ⟨x', z, e1, e2, e3⟩ := ih n1 n2 (s + 1) x1 few best (by omega) (by omega) (by omega) hx1
      exact ⟨x', z, e1, e2, fun c hc => by rw [e3 c hc, a2 c hc]⟩
    · rw [if_neg q, if_neg q]
      obtain ⟨x', z, e1, e2, e3⟩ := ih n1 n2 (s + 1) x1 _ (nI s) (by omega) (by omega) (by omega) hx1
      exact ⟨x', z, e1, e2, fun c hc => by rw [e3 c hc, a2 c hc]⟩
theorem S_ask (x y : Sg) (v1 v2 : Int32) (h : Inv x y) : StI Inv (oX7_ask x v1 v2) (oX8_ask y v1 v2) := by
  obtain ⟨r, ⟨v, hx, hy⟩, hrest⟩ := id h
  have hbn := v.2.1
  have hl := v.1
  have hp : 2 ^ nl r ≤ 2 ^ 4 := Nat.pow_le_pow_right (by decide) hl
  have hp0 := Nat.two_pow_pos (nl r)
  unfold oX7_ask oX8_ask fX7_ask fX8_ask
  rcases out_n (n := nb r) (by omega) v1 with ho | ⟨b, hb, rfl⟩
  · exact stSame h (r := -1) (by rw [eX_hasBn hx ((out_x (by omega)).mp ho), bnd, i0]) (by rw [eM_isBn hy v ho, bnd, i0])
  · rw [eX_hasB hx v hb, bnd, i1, eM_isB hy v hb, bnd, i1]
    by_cases ho2 : out v2 0 1
    · exact stSame h (r := -1) (by rw [(wiI v2 0 1 0 1 (by decide) (by decide)).1 ho2, bnd, i0]) (by rw [(inI v2 0 1 0 1 (by decide) (by decide)).1 ho2, bnd, i0])
    · rw [(wiI v2 0 1 0 1 (by decide) (by decide)).2 ho2, bnd, i1, (inI v2 0 1 0 1 (by decide) (by decide)).2 ho2, bnd, i1]
      obtain ⟨ns, S, D, hn, sx, sy, hS⟩ := InvS.get v hrest.2.2.1
      obtain ⟨x', a1, a2⟩ := eX_pos v hb hn hS hx sx
      obtain ⟨y', c1, c2, c3⟩ := eM_own v hb hn hS hy sy
      have hP := msk_lt (pO r b S D ns) 5
      have hPc : ∀ i, (msk 5 (pO r b S D ns)).testBit i = true → i < 5 → cnd r i = true := by
        intro i hi _
        rw [msk_bit] at hi
        unfold pO at hi
        simp at hi
        exact hi.2.1
      obtain ⟨x2, z, e1, e2, e3⟩ := ask_l v hb (by omega) hPc (nI b) v2 (nI (cnt 6 (msk 5 (pO r b S D ns)))) (y := y') (by rw [c2 0 (by omega)]; exact hy.1) c3 (2 ^ nl r - 1) 2000 2000 1 x' (nI (cnt 6 (msk 5 (pO r b S D ns)))) (-4) (by omega) (by omega) (by omega) (hx.cg (fun c c1 c2 => a2 c (by omega)))
      refine stOf (x' := x2) (y' := y') (r := z) ?_ ?_ ?_
      · rw [a1, bnd]; dsimp only; rw [eJ_bc _ (by omega), bnd]; exact e1
      · rw [c1, bnd]; dsimp only; rw [eM_bits (by omega), bnd, cnt10 _ (by omega)]; exact e2
      · exact Inv.sc h ⟨by rw [e3 0 (by omega), a2 0 (by omega)], by rw [e3 31 (by omega), a2 31 (by omega)], fun c hc => by rw [e3 c (by omega), a2 c (by omega)]⟩ ⟨fun j hj => by rw [c2 0 (by omega)], fun j _ _ => by rw [c2 1 (by omega)], fun c hc => c2 c (by omega)⟩ (fun c h1 h2 => by rw [e3 c (by omega), a2 c (by omega)]) (fun j hj => by rw [c2 1 (by omega)])
