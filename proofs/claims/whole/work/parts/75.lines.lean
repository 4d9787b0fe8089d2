-- the text: what has been told so far, both sides
def RW (r : Rm) : Prop := nl r ≤ 4 ∧ nb r ≤ 6 ∧ pr r ≤ 9 ∧ (∀ i, i < nl r → gu r i ≤ 99) ∧ ∀ b, b < nb r → kd r b ≤ 3 ∧ 1 ≤ ho r b ∧ ho r b ≤ 9 ∧ se r b ≤ 3 ∧ ow r b ≤ 4
def RP (y : Sg) (r : Rm) : Prop := (∀ i, i < nl r → y 2 i = nI (gu r i)) ∧ (∀ b, b < nb r → y 2 (4 + b) = nI (kd r b) ∧ y 2 (10 + b) = nI (ho r b) ∧ y 2 (16 + b) = nI (se r b) ∧ y 2 (22 + b) = nI (ow r b)) ∧ (∀ b, nb r ≤ b → b < 6 → y 2 (22 + b) = 0) ∧ y 2 28 = nI (pr r) - 3
def HC (r : Rm) (H : Nat) : Prop := H ≤ 4 ∧ (∀ b, b < nb r → ow r b ≤ H) ∧ (H = 0 ∨ ∃ b, b < nb r ∧ ow r b = H)
def DR (r : Rm) (H : Nat) (x y : Sg) : Prop := RW r ∧ HC r H ∧ RX x 25 r ∧ RP y r ∧ (y 0 4 = nI (nl r) ∧ y 0 5 = nI (nb r) ∧ y 0 7 = nI H - 1) ∧ (x 31 8 = y 0 6 ∧ (y 0 6 = 0 ∨ y 0 6 = 1))
theorem RP.cg {y y' : Sg} {r : Rm} (h : RP y r) (e : ∀ j, y' 2 j = y 2 j) : RP y' r := by
  refine ⟨fun i hi => ?_, fun b hb => ?_, fun b h1 h2 => ?_, ?_⟩
  · rw [e]; exact h.1 i hi
  · rw [e, e, e, e]; exact h.2.1 b hb
  · rw [e]; exact h.2.2.1 b h1 h2
  · rw [e]; exact h.2.2.2
theorem DR.K {r : Rm} {H : Nat} {x y x' y' : Sg} (d : DR r H x y) (kx : KX x x') (ky : KM y y') : DR r H x' y' := by
  obtain ⟨d1, d2, d3, d4, ⟨d5, d6, d7⟩, d8, d9⟩ := d
  refine ⟨d1, d2, d3.cg (fun c h1 h2 => funext fun j => kx c j (by omega)), d4.cg (fun j => ky 2 j (by omega)), ⟨by rw [ky _ _ (by omega), d5], by rw [ky _ _ (by omega), d6], by rw [ky _ _ (by omega), d7]⟩, by rw [kx _ _ (by omega), ky _ _ (by omega), d8], by rw [ky _ _ (by omega)]; exact d9⟩
def FX (x x' : Sg) : Prop := ∀ a b, ¬ (25 ≤ a ∧ a ≤ 31) → x' a b = x a b
def FM (y y' : Sg) : Prop := ∀ a b, ¬ a = 2 → ¬ (a = 0 ∧ ((4 ≤ b ∧ b ≤ 7) ∨ (11 ≤ b ∧ b ≤ 16))) → y' a b = y a b
theorem FX.rf (x : Sg) : FX x x := fun _ _ _ => rfl
theorem FM.rf (y : Sg) : FM y y := fun _ _ _ _ => rfl
theorem FX.tr {a b c : Sg} (h : FX a b) (g : FX b c) : FX a c := fun p q k => (g p q k).trans (h p q k)
theorem FM.tr {a b c : Sg} (h : FM a b) (g : FM b c) : FM a c := fun p q k l => (g p q k l).trans (h p q k l)
theorem KX.F {x x' : Sg} (h : KX x x') : FX x x' := fun a b k => h a b (by omega)
theorem KM.F {y y' : Sg} (h : KM y y') : FM y y' := fun a b k l => h a b (by omega)
theorem FX.up {σ : Sg} {k j : Nat} {v : Int32} (h : 25 ≤ k ∧ k ≤ 31) : FX σ (up2 σ k j v) := fun a b hab => by rw [up2_at, if_neg (by omega)]
theorem FM.pg {σ : Sg} {j : Nat} {v : Int32} : FM σ (up2 σ 2 j v) := fun a b h _ => by rw [up2_at, if_neg (by omega)]
theorem FM.fd {σ : Sg} {j : Nat} {v : Int32} (hj : 4 ≤ j ∧ j ≤ 7) : FM σ (up2 σ 0 j v) := fun a b h g => by rw [up2_at, if_neg (by omega)]
theorem FX.T {tl : Nat} {B : Nat → Nat} {x x' : Sg} (k : FX x x') (h : TX tl B x) : TX tl B x' := h.fr (k _ _ (by omega)) (fun j => k _ _ (by omega))
theorem FM.T {tl : Nat} {B : Nat → Nat} {y y' : Sg} (k : FM y y') (h : TM tl B y) : TM tl B y' := h.fr (k _ _ (by omega) (by omega)) (fun j => k _ _ (by omega) (by omega))
def BR (x y : Sg) : Prop := BK x y ∧ ∃ k, k ≤ 6 ∧ x 25 1 = nI k
-- setters
def addL (r : Rm) (v : Nat) : Rm := (nl r + 1, nb r, pr r, (fun j => if j = nl r then v else gu r j), kd r, ho r, se r, ow r)
def addB (r : Rm) (k h m w : Nat) : Rm := (nl r, nb r + 1, pr r, gu r, (fun j => if j = nb r then k else kd r j), (fun j => if j = nb r then h else ho r j), (fun j => if j = nb r then m else se r j), (fun j => if j = nb r then w else ow r j))
theorem addLX {x : Sg} {n : Nat} (h : x 25 0 = nI n) (hn : n < 4) (w : Int32) : fX2_addLord x 25 w = some (up2 (up2 x 26 n w) 25 0 (nI (n + 1))) := by
  unfold fX2_addLord
  rw [h, if_neg (show ¬ (4 : Int32) ≤ nI n from nI_ge (b := 4) hn (by omega)), wrN hn (by omega), bnd, pfb, up2_row (by omega), h, nI_1]
theorem addLX4 {x : Sg} (h : x 25 0 = nI 4) (w : Int32) : fX2_addLord x 25 w = some x := by
  unfold fX2_addLord
  rw [h, if_pos (by decide)]
theorem addBX {x : Sg} {n : Nat} (h : x 25 1 = nI n) (hn : n < 6) (v1 v2 v3 v4 : Int32) : fX2_addBorough x 25 v1 v2 v3 v4 = some (up2 (up2 (up2 (up2 (up2 x 27 n v1) 28 n v2) 29 n v3) 30 n v4) 25 1 (nI (n + 1))) := by
  unfold fX2_addBorough
  rw [h, if_neg (show ¬ (6 : Int32) ≤ nI n from nI_ge (b := 6) hn (by omega)), wrN hn (by omega), bnd, up2_row (show 25 ≠ 25 + 2 by omega), h, wrN hn (by omega), bnd, up2_row (show 25 ≠ 25 + 3 by omega), up2_row (show 25 ≠ 25 + 2 by omega), h, wrN hn (by omega), bnd, up2_row (show 25 ≠ 25 + 4 by omega), up2_row (show 25 ≠ 25 + 3 by omega), up2_row (show 25 ≠ 25 + 2 by omega), h, wrN hn (by omega), bnd, pfb, up2_row (show 25 ≠ 25 + 5 by omega), up2_row (show 25 ≠ 25 + 4 by omega), up2_row (show 25 ≠ 25 + 3 by omega), up2_row (show 25 ≠ 25 + 2 by omega), h, nI_1]
theorem addBX6 {x : Sg} (h : x 25 1 = nI 6) (v1 v2 v3 v4 : Int32) : fX2_addBorough x 25 v1 v2 v3 v4 = some x := by
  unfold fX2_addBorough
  rw [h, if_pos (by decide)]
def XT (x x' : Sg) : Prop := (∀ b, x' 31 b = x 31 b) ∧ FX x x' ∧ ∃ k, k ≤ 6 ∧ x' 25 1 = nI k
theorem addL_t {x : Sg} {n m : Nat} (h : x 25 0 = nI n) (hn : n ≤ 4) (h1 : x 25 1 = nI m) (hm : m ≤ 6) (w : Int32) : ∃ x', fX2_addLord x 25 w = some x' ∧ XT x x' := by
  by_cases h4 : n = 4
  · subst h4
    exact ⟨x, addLX4 h w, fun _ => rfl, FX.rf x, m, hm, h1⟩
  · refine ⟨_, addLX h (by omega) w, fun b => by rw [up2_at, if_neg (by omega), up2_at, if_neg (by omega)], (FX.up (by omega)).tr (FX.up (by omega)), m, hm, by rw [up2_at, if_neg (by omega), up2_at, if_neg (by omega), h1]⟩
theorem addB_t {x : Sg} {m : Nat} (h1 : x 25 1 = nI m) (hm : m ≤ 6) (v1 v2 v3 v4 : Int32) : ∃ x', fX2_addBorough x 25 v1 v2 v3 v4 = some x' ∧ XT x x' := by
  by_cases h6 : m = 6
  · subst h6
    exact ⟨x, addBX6 h1 _ _ _ _, fun _ => rfl, FX.rf x, 6, by omega, h1⟩
  · refine ⟨_, addBX h1 (by omega) _ _ _ _, fun b => by simp [up2_at], ((((FX.up (by omega)).tr (FX.up (by omega))).tr (FX.up (by omega))).tr (FX.up (by omega))).tr (FX.up (by omega)), m + 1, by omega, by rw [up2_at, if_pos ⟨rfl, rfl⟩]⟩
theorem XT.B {x x' y y' : Sg} (t : XT x x') (h : BK x y) (e1 : y' 0 11 = y 0 11) (e2 : y' 0 12 = y 0 12) : BR x' y' := ⟨h.cg (t.1 2) (t.1 3) e1 e2, t.2.2⟩
theorem XT.b {x x' : Sg} (t : XT x x') (h : ¬ x 31 2 = 0) : ¬ x' 31 2 = 0 := by rw [t.1]; exact h
theorem DR.addL {r : Rm} {H v : Nat} {x y : Sg} (d : DR r H x y) (hn : nl r < 4) (hv : v ≤ 99) : DR (addL r v) H (up2 (up2 x 26 (nl r) (nI v)) 25 0 (nI (nl r + 1))) (up2 (up2 y 2 (nl r) (nI v)) 0 4 (nI (nl r + 1))) := by
  obtain ⟨d1, d2, d3, d4, ⟨d5, d6, d7⟩, d8, d9⟩ := d
  have hb := d1.2.1
  refine ⟨⟨by show nl r + 1 ≤ 4; omega, d1.2.1, d1.2.2.1, fun i hi => ?_, d1.2.2.2.2⟩, d2, ⟨?_, ?_, ?_, fun i hi => ?_, fun b hb => ?_⟩, ⟨fun i hi => ?_, fun b hb => ?_, fun b h1 h2 => ?_, ?_⟩, ⟨?_, ?_, ?_⟩, ?_, ?_⟩
  · have hi2 : i < nl r + 1 := hi
    show (if i = nl r then v else gu r i) ≤ 99
    by_cases hq : i = nl r
    · rw [if_pos hq]; exact hv
    · rw [if_neg hq]; exact d1.2.2.2.1 i (by omega)
  · rw [up2_at, if_pos ⟨rfl, rfl⟩]; rfl
  · rw [up2_at, if_neg (by omega), up2_at, if_neg (by omega)]; exact d3.2.1
  · rw [up2_at, if_neg (by omega), up2_at, if_neg (by omega)]; exact d3.2.2.1
  · have hi2 : i < nl r + 1 := hi
    show _ = nI (if i = nl r then v else gu r i)
    rw [up2_at, if_neg (by omega), up2_at]
    by_cases hq : i = nl r
    · rw [if_pos ⟨rfl, hq⟩, if_pos hq]
    · rw [if_neg (by omega), if_neg hq]; exact d3.2.2.2.1 i (by omega)
  · rw [up2_row (by omega), up2_row (by omega), up2_row (by omega), up2_row (by omega), up2_row (by omega), up2_row (by omega), up2_row (by omega), up2_row (by omega)]; exact d3.2.2.2.2 b hb
  · have hi2 : i < nl r + 1 := hi
    show _ = nI (if i = nl r then v else gu r i)
    rw [up2_row (by omega), up2_at]
    by_cases hq : i = nl r
    · rw [if_pos ⟨rfl, hq⟩, if_pos hq]
    · rw [if_neg (by omega), if_neg hq]; exact d4.1 i (by omega)
  · rw [up2_row (by omega), up2_at, up2_at, up2_at, up2_at, if_neg (by omega), if_neg (by omega), if_neg (by omega), if_neg (by omega)]; exact d4.2.1 b hb
  · rw [up2_row (by omega), up2_at, if_neg (by omega)]; exact d4.2.2.1 b h1 h2
  · rw [up2_row (by omega), up2_at, if_neg (by omega)]; exact d4.2.2.2
  · rw [up2_at, if_pos ⟨rfl, rfl⟩]; rfl
  · rw [up2_at, if_neg (by omega), up2_row (by omega)]; exact d6
  · rw [up2_at, if_neg (by omega), up2_row (by omega)]; exact d7
  · rw [up2_row (by omega), up2_row (by omega), up2_at, if_neg (by omega), up2_row (by omega)]; exact d8
  · rw [up2_at, if_neg (by omega), up2_row (by omega)]; exact d9
theorem DR.pri {r : Rm} {H : Nat} {x y : Sg} (d : DR r H x y) : DR r H (up2 x 31 8 1) (up2 y 0 6 1) := by
  obtain ⟨d1, d2, d3, d4, ⟨d5, d6, d7⟩, d8, d9⟩ := d
  exact ⟨d1, d2, d3.cg (fun c h1 h2 => up2_row (by omega)), d4.cg (fun j => by rw [up2_row (by omega)]), ⟨by rw [up2_at, if_neg (by omega)]; exact d5, by rw [up2_at, if_neg (by omega)]; exact d6, by rw [up2_at, if_neg (by omega)]; exact d7⟩, by rw [up2_at, if_pos ⟨rfl, rfl⟩, up2_at, if_pos ⟨rfl, rfl⟩], Or.inr (by rw [up2_at, if_pos ⟨rfl, rfl⟩])⟩
theorem DR.setP {r : Rm} {H v : Nat} {x y : Sg} (d : DR r H x y) (hv : v ≤ 9) : DR (setPr r v) H (up2 x 25 2 (nI v)) (up2 y 2 28 (nI v - 3)) := by
  obtain ⟨d1, d2, d3, d4, ⟨d5, d6, d7⟩, d8, d9⟩ := d
  have hl := d1.1
  have hb := d1.2.1
  refine ⟨⟨d1.1, d1.2.1, hv, d1.2.2.2⟩, d2, d3.setPr, ⟨fun i hi => ?_, fun b hb => ?_, fun b h1 h2 => ?_, ?_⟩, ⟨by rw [up2_row (by omega)]; exact d5, by rw [up2_row (by omega)]; exact d6, by rw [up2_row (by omega)]; exact d7⟩, by rw [up2_row (by omega), up2_row (by omega)]; exact d8, by rw [up2_row (by omega)]; exact d9⟩
  · have hi2 : i < nl r := hi
    rw [up2_at, if_neg (by omega)]; exact d4.1 i hi
  · have hb2 : b < nb r := hb
    rw [up2_at, up2_at, up2_at, up2_at, if_neg (by omega), if_neg (by omega), if_neg (by omega), if_neg (by omega)]; exact d4.2.1 b hb
  · rw [up2_at, if_neg (by omega)]; exact d4.2.2.1 b h1 h2
  · rw [up2_at, if_pos ⟨rfl, rfl⟩]; rfl
theorem DR.addB {r : Rm} {H k h m w : Nat} {x y y' : Sg} (d : DR r H x y) (hn : nb r < 6) (hk : k ≤ 3) (hh : 1 ≤ h ∧ h ≤ 9) (hm : m ≤ 3) (hw : w ≤ 4)
    (p0 : ∀ j, j ≠ 4 + nb r → j ≠ 10 + nb r → j ≠ 16 + nb r → j ≠ 22 + nb r → y' 2 j = y 2 j) (p1 : y' 2 (4 + nb r) = nI k) (p2 : y' 2 (10 + nb r) = nI h) (p3 : y' 2 (16 + nb r) = nI m) (p4 : y' 2 (22 + nb r) = nI w)
    (q1 : y' 0 4 = y 0 4) (q2 : y' 0 5 = nI (nb r + 1)) (q3 : y' 0 7 = nI (max H w) - 1) (q4 : y' 0 6 = y 0 6) :
    DR (addB r k h m w) (max H w) (up2 (up2 (up2 (up2 (up2 x 27 (nb r) (nI k)) 28 (nb r) (nI h)) 29 (nb r) (nI m)) 30 (nb r) (oX w)) 25 1 (nI (nb r + 1))) y' := by
  obtain ⟨d1, d2, d3, d4, ⟨d5, d6, d7⟩, d8, d9⟩ := d
  have hl := d1.1
  have hH := d2.1
  refine ⟨⟨d1.1, by show nb r + 1 ≤ 6; omega, d1.2.2.1, d1.2.2.2.1, fun b hb => ?_⟩, ⟨by omega, fun b hb => ?_, ?_⟩, ⟨?_, ?_, ?_, fun i hi => ?_, fun b hb => ?_⟩, ⟨fun i hi => ?_, fun b hb => ?_, fun b h1 h2 => ?_, ?_⟩, ⟨by rw [q1]; exact d5, q2, q3⟩, ?_, by rw [q4]; exact d9⟩
  · have hb2 : b < nb r + 1 := hb
    show (if b = nb r then k else kd r b) ≤ 3 ∧ 1 ≤ (if b = nb r then h else ho r b) ∧ (if b = nb r then h else ho r b) ≤ 9 ∧ (if b = nb r then m else se r b) ≤ 3 ∧ (if b = nb r then w else ow r b) ≤ 4
    by_cases hq : b = nb r
    · simp only [if_pos hq]; omega
    · simp only [if_neg hq]; exact d1.2.2.2.2 b (by omega)
  · have hb2 : b < nb r + 1 := hb
    show (if b = nb r then w else ow r b) ≤ max H w
    by_cases hq : b = nb r
    · rw [if_pos hq]; omega
    · rw [if_neg hq]; have := d2.2.1 b (by omega); omega
  · show max H w = 0 ∨ ∃ b, b < nb r + 1 ∧ (if b = nb r then w else ow r b) = max H w
    by_cases hq : H ≤ w
    · exact Or.inr ⟨nb r, by omega, by rw [if_pos rfl]; omega⟩
    · rcases d2.2.2 with q | ⟨b, b1, b2⟩
      · omega
      · exact Or.inr ⟨b, by omega, by rw [if_neg (by omega), b2]; omega⟩
  · simp [up2_at]; exact d3.1
  · simp [up2_at]; rfl
  · simp [up2_at]; exact d3.2.2.1
  · simp [up2_at]; exact d3.2.2.2.1 i hi
  · have hb2 : b < nb r + 1 := hb
    show _ = nI (if b = nb r then k else kd r b) ∧ _ = nI (if b = nb r then h else ho r b) ∧ _ = nI (if b = nb r then m else se r b) ∧ _ = oX (if b = nb r then w else ow r b)
    by_cases hq : b = nb r
    · simp [up2_at, hq]
    · have := d3.2.2.2.2 b (by omega)
      simp [up2_at, hq]; exact this
  · rw [p0 i (by have : i < nl r := hi; omega) (by have : i < nl r := hi; omega) (by have : i < nl r := hi; omega) (by have : i < nl r := hi; omega)]; exact d4.1 i hi
  · have hb2 : b < nb r + 1 := hb
    show _ = nI (if b = nb r then k else kd r b) ∧ _ = nI (if b = nb r then h else ho r b) ∧ _ = nI (if b = nb r then m else se r b) ∧ _ = nI (if b = nb r then w else ow r b)
    by_cases hq : b = nb r
    · subst hq; rw [p1, p2, p3, p4]; simp
    · have := d4.2.1 b (by omega)
      rw [p0 (4 + b) (by omega) (by omega) (by omega) (by omega), p0 (10 + b) (by omega) (by omega) (by omega) (by omega), p0 (16 + b) (by omega) (by omega) (by omega) (by omega), p0 (22 + b) (by omega) (by omega) (by omega) (by omega)]
      simp only [if_neg hq]; exact this
  · have h3 : nb r + 1 ≤ b := h1
    rw [p0 (22 + b) (by omega) (by omega) (by omega) (by omega)]; exact d4.2.2.1 b (by omega) h2
  · rw [p0 28 (by omega) (by omega) (by omega) (by omega)]; exact d4.2.2.2
  · rw [q4]; simp [up2_at]; exact d8
