-- pure rows: numbers
theorem n32 (n : Nat) : (nI n).toBitVec = BitVec.ofNat 32 n := rfl
theorem nI_inj {x y : Int32} (h : x.toBitVec = y.toBitVec) : x = y := Int32.toBitVec_inj.mp h
theorem nI_or (a b : Nat) : nI a ||| nI b = nI (a ||| b) := nI_inj (by rw [Int32.toBitVec_or, n32, n32, n32, BitVec.ofNat_or])
theorem nI_and (a b : Nat) : nI a &&& nI b = nI (a &&& b) := nI_inj (by rw [Int32.toBitVec_and, n32, n32, n32, BitVec.ofNat_and])
theorem nI_mul (a b : Nat) : nI a * nI b = nI (a * b) := pk_mul a b
theorem s31 : ∀ n, n < 32 → ((nI n &&& 31).toBitVec.smod 32).toNat = n := by decide
theorem shlN {b : Nat} (hb : b < 31) : (1 : Int32) <<< (nI b &&& 31) = nI (2 ^ b) := by
  have h1 : 2 ^ b < 2 ^ 31 := Nat.pow_lt_pow_right (by decide) hb
  have h := pk_shlN (n := 1) (nI b &&& 31) b (s31 b (by omega)) (by omega)
  rw [Nat.one_mul] at h
  exact h
theorem bitN {s b : Nat} (hs : s < 2 ^ 31) (hb : b < 32) : (nI s >>> (nI b &&& 31)) &&& 1 = nI (s / 2 ^ b % 2) := by
  rw [pk_shrN hs _ b (s31 b hb)]
  exact pk_andN (Nat.lt_of_le_of_lt (Nat.div_le_self _ _) (by omega)) 1 (by decide)
theorem tb (s b : Nat) : s.testBit b = decide (s / 2 ^ b % 2 = 1) := Nat.testBit_eq_decide_div_mod_eq
theorem bitP {s b : Nat} (hs : s < 2 ^ 31) (hb : b < 32) : ((nI s >>> (nI b &&& 31)) &&& (1 : Int32)) = (1 : Int32) ↔ s.testBit b = true := by
  rw [bitN hs hb, tb, decide_eq_true_iff, show (1 : Int32) = nI 1 from rfl, nI_eq (by omega) (by omega)]
theorem holdsN {s b : Nat} (hs : s < 2 ^ 31) (hb : b < 32) : fX7_holds (nI s) (nI b) = some (if s.testBit b = true then 1 else 0) := by
  unfold fX7_holds
  by_cases h : s.testBit b = true
  · rw [if_pos ((bitP hs hb).mpr h), if_pos h]
  · rw [if_neg (fun q => h ((bitP hs hb).mp q)), if_neg h]
theorem rdN {f : Nat → Int32} {n i : Nat} (h : i < n) (hn : n < 2 ^ 31) : rd f n (nI i) = some (f i) := by
  unfold rd
  rw [nI_clamp (by omega), if_neg]
  rintro (q | q)
  · exact nI_pos (by omega) q
  · omega
theorem wrN {σ : Sg} {k n i : Nat} {v : Int32} (h : i < n) (hn : n < 2 ^ 31) : wr σ k n (nI i) v = some (up2 σ k i v) := by
  unfold wr
  rw [nI_clamp (by omega), if_neg]
  rintro (q | q)
  · exact nI_pos (by omega) q
  · omega
theorem bnd {α β : Type} (a : α) (f : α → Option β) : (some a).bind f = f a := rfl
-- sums and masks
def sm : Nat → (Nat → Nat) → Nat
  | 0, _ => 0
  | n + 1, f => sm n f + f n
def msk : Nat → (Nat → Bool) → Nat
  | 0, _ => 0
  | n + 1, p => msk n p + if p n = true then 2 ^ n else 0
theorem msk_lt (p : Nat → Bool) : ∀ n, msk n p < 2 ^ n
  | 0 => by simp [msk]
  | n + 1 => by
    have := msk_lt p n
    rw [msk, Nat.pow_succ]
    split <;> omega
theorem msk_bit (p : Nat → Bool) : ∀ n i, (msk n p).testBit i = (decide (i < n) && p i)
  | 0, i => by simp [msk]
  | n + 1, i => by
    have h1 := msk_bit p n i
    have h2 := msk_lt p n
    rw [msk]
    by_cases hp : p n = true
    · rw [if_pos hp]
      have h3 : msk n p + 2 ^ n = 2 ^ n ||| msk n p := by
        have := Nat.two_pow_add_eq_or_of_lt h2 1
        rw [Nat.mul_one] at this
        omega
      rw [h3, Nat.testBit_or, Nat.testBit_two_pow, h1]
      by_cases hi : n = i
      · subst hi; simp [hp]
      · simp only [hi, decide_false, Bool.false_or]
        by_cases hl : i < n
        · simp [hl, show i < n + 1 by omega]
        · simp [hl, show ¬ i < n + 1 by omega]
    · rw [if_neg hp, Nat.add_zero, h1]
      by_cases hi : n = i
      · subst hi; simp at hp; simp [hp]
      · by_cases hl : i < n
        · simp [hl, show i < n + 1 by omega]
        · simp [hl, show ¬ i < n + 1 by omega]
theorem orN {a i : Nat} (h : a < 2 ^ i) : nI a ||| nI (2 ^ i) = nI (a + 2 ^ i) := by
  rw [nI_or]
  have := Nat.two_pow_add_eq_or_of_lt h 1
  rw [Nat.mul_one] at this
  rw [Nat.or_comm, ← this, Nat.add_comm]
theorem sm_congr {f g : Nat → Nat} : ∀ {n}, (∀ i, i < n → f i = g i) → sm n f = sm n g
  | 0, _ => rfl
  | n + 1, h => by rw [sm, sm, sm_congr (fun i hi => h i (by omega)), h n (by omega)]
theorem msk_congr {f g : Nat → Bool} : ∀ {n}, (∀ i, i < n → f i = g i) → msk n f = msk n g
  | 0, _ => rfl
  | n + 1, h => by rw [msk, msk, msk_congr (fun i hi => h i (by omega)), h n (by omega)]
theorem sm_le {f : Nat → Nat} {c : Nat} : ∀ {n}, (∀ i, i < n → f i ≤ c) → sm n f ≤ n * c
  | 0, _ => by simp [sm]
  | n + 1, h => by
    have h1 := sm_le (f := f) (c := c) (n := n) (fun i hi => h i (by omega))
    have h2 := h n (by omega)
    rw [sm, Nat.succ_mul]; omega
theorem sm_mono {f g : Nat → Nat} : ∀ {n}, (∀ i, i < n → f i ≤ g i) → sm n f ≤ sm n g
  | 0, _ => Nat.le_refl _
  | n + 1, h => by
    have h1 := sm_mono (f := f) (g := g) (n := n) (fun i hi => h i (by omega))
    have h2 := h n (by omega)
    rw [sm, sm]; omega
-- what a realm is: lords, boroughs, price; guineas, kind, houses, seats, owner (0 nobody, else lord + 1)
abbrev Rm : Type := Nat × Nat × Nat × (Nat → Nat) × (Nat → Nat) × (Nat → Nat) × (Nat → Nat) × (Nat → Nat)
def nl (r : Rm) : Nat := r.1
def nb (r : Rm) : Nat := r.2.1
def pr (r : Rm) : Nat := r.2.2.1
def gu (r : Rm) : Nat → Nat := r.2.2.2.1
def kd (r : Rm) : Nat → Nat := r.2.2.2.2.1
def ho (r : Rm) : Nat → Nat := r.2.2.2.2.2.1
def se (r : Rm) : Nat → Nat := r.2.2.2.2.2.2.1
def ow (r : Rm) : Nat → Nat := r.2.2.2.2.2.2.2
def RV (r : Rm) : Prop := nl r ≤ 4 ∧ nb r ≤ 6 ∧ pr r ≤ 9 ∧ (∀ i, i < nl r → gu r i ≤ 99) ∧ ∀ b, b < nb r → kd r b ≤ 3 ∧ 1 ≤ ho r b ∧ ho r b ≤ 9 ∧ se r b ≤ 3 ∧ ow r b ≤ nl r
def oX (w : Nat) : Int32 := if w = 0 then -4 else nI (w - 1)
def RX (σ : Sg) (a : Nat) (r : Rm) : Prop := σ a 0 = nI (nl r) ∧ σ a 1 = nI (nb r) ∧ σ a 2 = nI (pr r) ∧ (∀ i, i < nl r → σ (a + 1) i = nI (gu r i)) ∧ ∀ b, b < nb r → σ (a + 2) b = nI (kd r b) ∧ σ (a + 3) b = nI (ho r b) ∧ σ (a + 4) b = nI (se r b) ∧ σ (a + 5) b = oX (ow r b)
def RM (σ : Sg) (o : Nat) (r : Rm) : Prop := (∀ i, i < nl r → σ 1 (o + i) = nI (gu r i)) ∧ (∀ b, b < nb r → σ 1 (o + 4 + b) = nI (kd r b) ∧ σ 1 (o + 10 + b) = nI (ho r b) ∧ σ 1 (o + 16 + b) = nI (se r b) ∧ σ 1 (o + 22 + b) = nI (ow r b)) ∧ σ 1 (o + 28) = nI (pr r) - 3
def MM (σ : Sg) (r : Rm) : Prop := σ 0 1 = nI (nl r) ∧ σ 0 2 = nI (nb r) ∧ RM σ 0 r
def inS (s b : Nat) : Bool := s.testBit b
def seatsF (r : Rm) (s : Nat) : Nat → Nat := fun b => if s.testBit b = true then se r b else 0
def seatsR (r : Rm) (s : Nat) : Nat := sm (nb r) (seatsF r s)
def heldP (r : Rm) (s : Nat) : Nat → Bool := fun b => decide (ow r b ≠ 0) && s.testBit (ow r b - 1)
def heldR (r : Rm) (s : Nat) : Nat := msk (nb r) (heldP r s)
def allR (r : Rm) : Nat := 2 ^ nb r - 1
def noP (r : Rm) : Nat → Bool := fun b => decide (ow r b = 0)
def nobR (r : Rm) : Nat := msk (nb r) (noP r)
def guiR (r : Rm) : Nat := sm (nl r) (gu r)
def slP (r : Rm) : Nat → Bool := fun b => decide (se r b = 0)
def slR (r : Rm) : Nat := msk (nb r) (slP r)
def votR (r : Rm) (b : Nat) : Nat := if kd r b = 0 then ho r b else if kd r b = 1 then (ho r b + 1) / 2 else if kd r b = 2 then (ho r b + 1) / 2 + 1 else ho r b + (ho r b + 1) / 2
def cosR (r : Rm) (b : Nat) : Nat := pr r * votR r b
def costsR (r : Rm) (s : Nat) : Nat := sm (nb r) (fun b => if s.testBit b = true then cosR r b else 0)
def carR (r : Rm) (s : Nat) : Bool := decide (seatsR r (allR r) < 2 * seatsR r (heldR r s))
def canR (r : Rm) (l b : Nat) : Bool := decide (ow r b ≠ l + 1) && decide (cosR r b ≤ gu r l)
theorem oX_ne {w : Nat} (h : w ≤ 4) : (oX w = (-4 : Int32)) ↔ w = 0 := by
  rcases (show w = 0 ∨ w = 1 ∨ w = 2 ∨ w = 3 ∨ w = 4 by omega) with rfl | rfl | rfl | rfl | rfl <;> decide
theorem oX_pos {w : Nat} (h : w ≠ 0) : oX w = nI (w - 1) := by unfold oX; rw [if_neg h]
theorem shl1 : ∀ n, n < 11 → ((1 : Int32) <<< (nI n &&& 31)) - (1 : Int32) = nI (2 ^ n - 1) := by decide
