theorem sm_add (f g : Nat → Nat) : ∀ n, sm n (fun i => f i + g i) = sm n f + sm n g
  | 0 => rfl
  | n + 1 => by rw [sm, sm, sm, sm_add f g n]; omega
theorem seats_or {r : Rm} {h s : Nat} (hd : ∀ i, ¬ (h.testBit i = true ∧ s.testBit i = true)) : seatsR r (h ||| s) = seatsR r h + seatsR r s := by
  unfold seatsR
  rw [← sm_add]
  apply sm_congr
  intro i _
  have := hd i
  unfold seatsF
  rw [Nat.testBit_or]
  cases e1 : h.testBit i <;> cases e2 : s.testBit i <;> simp_all
def bX : Option Nat → Int32
  | none => -4
  | some s => nI s
def cX (r : Rm) : Option Nat → Int32
  | none => 0
  | some s => nI (costsR r s)
def cM (r : Rm) : Option Nat → Int32
  | none => -4
  | some s => nI (costsR r s)
theorem nI_ne4' {n : Nat} (h : n < 2 ^ 31) : nI n ≠ (-4 : Int32) := fun q => nI_pos h (by rw [q]; decide)
theorem all1 (r : Rm) : allR r + 1 = 2 ^ nb r := by unfold allR; have := Nat.two_pow_pos (nb r); omega
theorem or64 {h s : Nat} (hh : h < 64) (hs : s < 64) : h ||| s < 64 := Nat.or_lt_two_pow (n := 6) hh hs
theorem cheap_l {x y : Sg} {a : Nat} {r : Rm} (hx : RX x a r) (hy : MM y r) (v : RV r) (h o : Nat) (hh : h < 64) (ho : o ≤ 18) (w v3 : Int32) (hd : ∀ s, s < 64 → (nI s &&& (w ^^^ (-1 : Int32))) = 0 → seatsR r (h ||| s) = o + seatsR r s) :
    ∀ k n1 n2 i (b : Option Nat), i + k = allR r + 1 → k < n1 → k < n2 → (∀ s, b = some s → s < 64) → ∃ b' : Option Nat, (∀ s, b' = some s → s < 64) ∧ fX2_cheapestMajority_l19 x a w (nI o) n1 (nI (seatsR r (allR r))) (bX b) (cX r b) (nI i) = some (bX b') ∧ fX8_cheapest_l11 y (nI h) w v3 n2 (cM r b) (bX b) (nI i) = (if v3 = 0 then some (cM r b') else some (bX b')) := by
  have hal := allR_lt v
  intro k
  induction k with
  | zero =>
    intro n1 n2 i b h1 h2 h3 hb
    obtain ⟨n1, rfl⟩ := Nat.exists_eq_succ_of_ne_zero (show n1 ≠ 0 by omega)
    obtain ⟨n2, rfl⟩ := Nat.exists_eq_succ_of_ne_zero (show n2 ≠ 0 by omega)
    refine ⟨b, hb, ?_, ?_⟩
    · rw [fX2_cheapestMajority_l19, eX_every hx v, bnd, if_pos (nI_lt (by omega) (by omega))]
    · rw [fX8_cheapest_l11, eM_all hy v, bnd, if_pos (nI_lt (by omega) (by omega))]
  | succ k ih =>
    intro n1 n2 i b h1 h2 h3 hb
    obtain ⟨n1, rfl⟩ := Nat.exists_eq_succ_of_ne_zero (show n1 ≠ 0 by omega)
    obtain ⟨n2, rfl⟩ := Nat.exists_eq_succ_of_ne_zero (show n2 ≠ 0 by omega)
    have hno : ¬ (nI (allR r) < nI i) := nI_nlt (by omega) (by omega)
    have hs1 := seatsR_le v i
    have hs2 := seatsR_le v (allR r)
    have hc1 := costsR_le v i
    rw [fX2_cheapestMajority_l19, eX_every hx v, bnd, if_neg hno, fX8_cheapest_l11, eM_all hy v, bnd, if_neg hno]
    have skip := ih n1 n2 (i + 1) b (by omega) (by omega) (by omega) hb
    have takeit := ih n1 n2 (i + 1) (some i) (by omega) (by omega) (by omega) (fun s hs => by cases hs; omega)
    unfold fX8_cheapest_b54 fX8_cheapest_b55 fX8_cheapest_b84 fX8_cheapest_b80 fX8_cheapest_b85 fX8_cheapest_b99 fX2_cheapestMajority_b73
    by_cases hw : (nI i &&& (w ^^^ (-1 : Int32))) = 0
    · have hsum := hd i (by omega) hw
      have hor := or64 hh (show i < 64 by omega)
      rw [if_pos hw, if_pos hw, eX_seats hx v (by omega), bnd, nI_or, eM_seats hy v (by omega), bnd, bnd, eM_seats hy v (by omega), bnd, hsum, nI_add, show (2 : Int32) = nI 2 from rfl, nI_mul]
      by_cases hm : 2 * (o + seatsR r i) ≤ seatsR r (allR r)
      · rw [if_pos (nI_le hm (by omega)), if_pos (nI_le hm (by omega)), i0, i0, i0, nI_1]
        exact skip
      · rw [if_neg (nI_ge (by omega) (by omega)), if_neg (nI_ge (by omega) (by omega)), i1, eX_costs hx v (by omega), bnd]
        cases hbb : b with
        | none =>
          rw [show bX none = -4 from rfl, if_pos rfl, if_pos rfl, i1, i1, eM_costs hy v (by omega), bnd, nI_1]
          exact takeit
        | some s =>
          have hsl := hb s hbb
          have hcs := costsR_le v s
          rw [show bX (some s) = nI s from rfl, if_neg (nI_ne4' (by omega)), if_neg (nI_ne4' (by omega)), eM_costs hy v (by omega), bnd, show cX r (some s) = nI (costsR r s) from rfl, show cM r (some s) = nI (costsR r s) from rfl]
          rw [hbb] at skip
          by_cases hle : costsR r s ≤ costsR r i
          · rw [if_pos (nI_le hle (by omega)), if_pos (nI_le hle (by omega)), i0, i0, nI_1]
            exact skip
          · rw [if_neg (nI_ge (by omega) (by omega)), if_neg (nI_ge (by omega) (by omega)), i1, i1, bnd, nI_1]
            exact takeit
    · rw [if_neg hw, if_neg hw, i0, i0, i0, nI_1]
      exact skip
theorem cheap_eq {x y : Sg} {r : Rm} (hx : RX x 1 r) (hy : MM y r) (v : RV r) (h o : Nat) (hh : h < 64) (w v3 : Int32) (ho : o = seatsR r h) (hv : v3 = 0 ∨ v3 = 1) (wN : Nat) (hwN : w = nI wN) (hw : wN < 64) (hdis : ∀ i, ¬ (h.testBit i = true ∧ wN.testBit i = true)) :
    ∃ z : Int32, ((fX2_cheapestMajority x 1 w (nI o)).bind fun t => fX7_costOrSet x t v3) = some z ∧ fX8_cheapest y (nI h) w v3 = some z := by
  have hal := allR_lt v
  have hd : ∀ s, s < 64 → (nI s &&& (w ^^^ (-1 : Int32))) = 0 → seatsR r (h ||| s) = o + seatsR r s := by
    intro s hs hz
    rw [ho]
    apply seats_or
    intro i ⟨q1, q2⟩
    rw [hwN, andnN (by omega)] at hz
    have hz0 : andn s wN = 0 := by
      have := andn_lt s wN
      exact (nI_eq this (by omega)).mp hz
    have hb := andn_bit (a := s) (b := wN) (i := i) (by omega)
    rw [hz0, q2] at hb
    simp at hb
    exact hdis i ⟨q1, hb⟩
  obtain ⟨b', hb', e1, e2⟩ := cheap_l hx hy v h o hh (by rw [ho]; exact seatsR_le v h) w v3 hd (allR r + 1) 2000 2000 0 none (by omega) (by omega) (by omega) (fun s hs => by cases hs)
  have E1 : fX2_cheapestMajority x 1 w (nI o) = some (bX b') := by
    unfold fX2_cheapestMajority
    rw [eX_every hx v, bnd, eX_seats hx v (by omega), bnd]
    exact e1
  have E2 : fX8_cheapest y (nI h) w v3 = (if v3 = 0 then some (cM r b') else some (bX b')) := e2
  rw [E1, bnd, E2]
  unfold fX7_costOrSet
  cases b' with
  | none => exact ⟨-4, by rw [show bX none = -4 from rfl, if_pos rfl], by rcases hv with rfl | rfl <;> rfl⟩
  | some s =>
    have := hb' s rfl
    have hcs := costsR_le v s
    rw [show bX (some s) = nI s from rfl, if_neg (nI_ne4' (by omega)), eX_costs hx v (by omega), bnd]
    rcases hv with rfl | rfl
    · exact ⟨nI (costsR r s), by rw [if_neg (by decide)], by rw [if_pos rfl]; rfl⟩
    · exact ⟨nI s, by rw [if_pos rfl], by rw [if_neg (by decide)]⟩
theorem in01 {x : Int32} (h : ¬ out x 0 1) : x = 0 ∨ x = 1 := by
  by_cases h0 : x = 0
  · exact Or.inl h0
  · by_cases h1 : x = 1
    · exact Or.inr h1
    · exact absurd (out2 h0 h1) h
theorem andn_all {r : Rm} (v : RV r) (s : Nat) : andn (allR r) s < 64 := by
  have hal := allR_lt v
  apply Nat.lt_of_not_le
  intro hge
  obtain ⟨i, hi, hbit⟩ := Nat.exists_ge_and_testBit_of_ge_two_pow (n := 6) hge
  rw [andn_bit (by omega), all_bit] at hbit
  have := v.2.1
  simp at hbit
  omega
theorem bndE {α β : Type} (o : Option α) (f : α → Option β) (z : β) (h : o.bind f = some z) : (o.bind fun t => (f t).bind fun u => some u) = some z := by
  cases o with
  | none => cases h
  | some t => rw [bnd] at h ⊢; rw [h, bnd]
theorem S_cheap (x y : Sg) (v1 v2 : Int32) (h : Inv x y) : StI Inv (oX7_cheap x v1 v2) (oX8_cheap y v1 v2) := by
  obtain ⟨r, ⟨v, hx, hy⟩, hrest⟩ := id h
  unfold oX7_cheap oX8_cheap fX7_cheap fX8_cheap
  have hl := v.1
  rcases out_n (n := nl r) (by omega) v1 with ho | ⟨l, hl', rfl⟩
  · exact stRO h (r := -1) (by rw [eX_hasLn hx ((out_x (by omega)).mp ho), bnd, i0]) (by rw [eM_isLn hy v ho, bnd, i0])
  · rw [eX_hasL hx v hl', bnd, i1, eM_isL hy v hl', bnd, i1]
    by_cases ho2 : out v2 0 1
    · exact stRO h (r := -1) (by rw [(wiI v2 0 1 0 1 (by decide) (by decide)).1 ho2, bnd, i0]) (by rw [(inI v2 0 1 0 1 (by decide) (by decide)).1 ho2, bnd, i0])
    · rw [(wiI v2 0 1 0 1 (by decide) (by decide)).2 ho2, bnd, i1, (inI v2 0 1 0 1 (by decide) (by decide)).2 ho2, bnd, i1]
      have hp : 2 ^ l < 2 ^ 31 := Nat.pow_lt_pow_right (by decide) (by omega)
      have hh := heldR_lt v (2 ^ l)
      have hal := allR_lt v
      obtain ⟨z, z1, z2⟩ := cheap_eq hx hy v (heldR r (2 ^ l)) (seatsR r (heldR r (2 ^ l))) hh (nI (andn (allR r) (heldR r (2 ^ l)))) v2 rfl (in01 ho2) (andn (allR r) (heldR r (2 ^ l))) rfl (andn_all v _) (fun i q => by
        have q2 := q.2
        rw [andn_bit (by omega), q.1] at q2
        simp at q2)
      exact stRO h (r := z) (by rw [shlN (by omega), eX_held hx v hp, bnd, eX_every hx v, bnd, eX_seats hx v (by omega), bnd, andnN (by omega)]; exact bndE _ _ _ z1) (by rw [shlN (by omega), eM_held hy v hp, bnd, eM_all hy v, bnd, andnN (by omega), z2, bnd])
