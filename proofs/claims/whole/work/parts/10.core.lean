abbrev lyC : Type := (Nat × List (Option Nat)) ⊕ ((Nat × Nat) ⊕ (Nat × List Nat))
abbrev Ly : Type := List lyC
abbrev Sg : Type := Nat → Nat → Int32
abbrev Sh : Type := va_G × (Nat → ClassId) × (Nat → Nat) × (Nat → Nat) × (Nat → Nat) × Nat × Nat
def ad (Z : Sh) (k : Nat) : Nat := Z.2.2.1 k
def sK (Z : Sh) (i : Nat) : Nat := Z.2.2.2.1 i
def sV (Z : Sh) (i : Nat) : Nat := Z.2.2.2.2.1 i
def oA (Z : Sh) : Nat := Z.2.2.2.2.2.1
def oB (Z : Sh) : Nat := Z.2.2.2.2.2.2
def lenS : List Nat := [5, 5, 4, 5, 4, 5]
def bytS : List (List Int32) := [[112, 108, 97, 105, 110], [109, 111, 117, 110, 100], [116, 101, 110, 116], [116, 119, 105, 99, 101], [108, 111, 114, 100], [112, 114, 105, 99, 101]]
def idxS : List Nat := [72, 78, 80, 82, 84, 86]
def txtS : List String := ["plain", "mound", "tent", "twice", "lord", "price"]
def sBy (i j : Nat) : Int32 := (bytS.getD i []).getD j 0
def sLen (i : Nat) : Int32 := Int32.ofNat (lenS.getD i 0)
def ordL : List Int32 := [1, 1, 2, 6, 24, 120, 720, 5040, 40320, 362880, 3628800]
def ordF (j : Nat) : Int32 := ordL.getD j 0
def prtL : List Int32 := [3628800, 3628800, 1814400, 604800, 151200, 30240, 5040, 720, 90, 10, 1]
def prtF (j : Nat) : Int32 := prtL.getD j 0
def fv (Z : Sh) (g : Nat → Int32) : List (Option Nat) → Nat → List Value
  | [], _ => []
  | (some c) :: l, j => .ref (ad Z c) :: fv Z g l (j + 1)
  | none :: l, j => .int (g j) :: fv Z g l (j + 1)
def pE (Z : Sh) (σ : Sg) (k : Nat) : lyC → va_E
  | .inl o => .inr (o.1, fv Z (σ k) o.2 0)
  | .inr (.inl a) => .inl (Z.2.1 a.1, a.2, .inl (σ k))
  | .inr (.inr a) => .inl (Z.2.1 a.1, a.2.length, .inr (.inr (.inr (.inr (fun j => (a.2[j]?).map (ad Z))))))
def wl (Z : Sh) (y : Ly) (σ : Sg) : va_W := y.zipIdx.map (fun q => (ad Z q.2, pE Z σ q.2 q.1))
def up2 (σ : Sg) (k j : Nat) (v : Int32) : Sg := fun a => if a = k then upd (σ k) j v else σ a
theorem wl_at (Z : Sh) (y : Ly) (σ : Sg) (k : Nat) : (wl Z y σ)[k]? = (y[k]?).map (fun c => (ad Z k, pE Z σ k c)) := by
  unfold wl
  rw [List.getElem?_map, List.getElem?_zipIdx]
  cases y[k]? <;> simp
theorem wl_get {Z : Sh} {y : Ly} {σ : Sg} {k : Nat} {c : lyC} (h : y[k]? = some c) : (wl Z y σ)[k]? = some (ad Z k, pE Z σ k c) := by rw [wl_at, h]; rfl
theorem wl_len (Z : Sh) (y : Ly) (σ : Sg) : (wl Z y σ).length = y.length := by simp [wl]
theorem fv_int {Z : Sh} {g : Nat → Int32} : ∀ {fs : List (Option Nat)} {i j : Nat}, fs[j]? = some none → (fv Z g fs i)[j]? = some (.int (g (i + j)))
  | [], i, j, h => by simp at h
  | (some c) :: l, i, 0, h => by simp at h
  | none :: l, i, 0, h => by simp [fv]
  | (some c) :: l, i, j + 1, h => by
    simp only [List.getElem?_cons_succ] at h
    simp only [fv, List.getElem?_cons_succ]
    rw [fv_int h]; congr 3; omega
  | none :: l, i, j + 1, h => by
    simp only [List.getElem?_cons_succ] at h
    simp only [fv, List.getElem?_cons_succ]
    rw [fv_int h]; congr 3; omega
theorem fv_ref {Z : Sh} {g : Nat → Int32} {c : Nat} : ∀ {fs : List (Option Nat)} {i j : Nat}, fs[j]? = some (some c) → (fv Z g fs i)[j]? = some (.ref (ad Z c))
  | [], i, j, h => by simp at h
  | (some c) :: l, i, 0, h => by simp at h; subst h; simp [fv]
  | none :: l, i, 0, h => by simp at h
  | (some c) :: l, i, j + 1, h => by
    simp only [List.getElem?_cons_succ] at h
    simp only [fv, List.getElem?_cons_succ]
    exact fv_ref h
  | none :: l, i, j + 1, h => by
    simp only [List.getElem?_cons_succ] at h
    simp only [fv, List.getElem?_cons_succ]
    exact fv_ref h
theorem fv_len {Z : Sh} {g : Nat → Int32} : ∀ {fs : List (Option Nat)} {i : Nat}, (fv Z g fs i).length = fs.length
  | [], i => rfl
  | (some c) :: l, i => by simp [fv, fv_len]
  | none :: l, i => by simp [fv, fv_len]
theorem fv_set {Z : Sh} {g : Nat → Int32} {v : Int32} : ∀ {fs : List (Option Nat)} {i j : Nat}, fs[j]? = some none → (fv Z g fs i).set j (.int v) = fv Z (upd g (i + j) v) fs i
  | [], i, j, h => by simp at h
  | (some c) :: l, i, 0, h => by simp at h
  | none :: l, i, 0, h => by
    simp only [fv, List.set_cons_zero, Nat.add_zero]
    congr 1
    · simp [upd]
    · exact (fv_out (Nat.lt_succ_self i)).symm
  | (some c) :: l, i, j + 1, h => by
    simp only [List.getElem?_cons_succ] at h
    simp only [fv, List.set_cons_succ]
    rw [fv_set h]; congr 3; omega
  | none :: l, i, j + 1, h => by
    simp only [List.getElem?_cons_succ] at h
    simp only [fv, List.set_cons_succ]
    rw [fv_set h]
    have e : i + 1 + j = i + (j + 1) := by omega
    rw [e]
    congr 2
    simp [upd]
where
  fv_out {Z : Sh} {g : Nat → Int32} {v : Int32} : ∀ {fs : List (Option Nat)} {i k : Nat}, k < i → fv Z (upd g k v) fs i = fv Z g fs i
    | [], i, k, h => rfl
    | (some c) :: l, i, k, h => by simp only [fv]; rw [fv_out (by omega)]
    | none :: l, i, k, h => by
      simp only [fv]; rw [fv_out (by omega)]; congr 2; simp [upd]; omega
theorem up2_ne {σ : Sg} {k j a : Nat} {v : Int32} (h : a ≠ k) : up2 σ k j v a = σ a := by simp [up2, h]
theorem up2_eq {σ : Sg} {k j : Nat} {v : Int32} : up2 σ k j v k = upd (σ k) j v := by simp [up2]
theorem pE_out {Z : Sh} {σ : Sg} {k j a : Nat} {v : Int32} {c : lyC} (h : a ≠ k) : pE Z (up2 σ k j v) a c = pE Z σ a c := by
  rcases c with o | a1 | a1 <;> simp [pE, up2_ne h]
theorem wl_set {Z : Sh} {y : Ly} {σ : Sg} {k j : Nat} {v : Int32} {c : lyC} {e : va_E} (h : y[k]? = some c) (he : e = pE Z (up2 σ k j v) k c) : (wl Z y σ).set k (ad Z k, e) = wl Z y (up2 σ k j v) := by
  have hl : k < (wl Z y σ).length := by rw [wl_len]; exact (List.getElem?_eq_some_iff.mp h).1
  apply List.ext_getElem?
  intro i
  by_cases hi : i = k
  · subst hi
    rw [List.getElem?_set_self hl, wl_get h, he]
  · rw [List.getElem?_set_ne (Ne.symm hi), wl_at, wl_at]
    cases y[i]? with
    | none => rfl
    | some c2 => simp [pE_out hi]
theorem wl_seto {Z : Sh} {y : Ly} {σ : Sg} {k j ci : Nat} {v : Int32} {fs : List (Option Nat)} (h : y[k]? = some (.inl (ci, fs))) (hj : fs[j]? = some none) : (wl Z y σ).set k (ad Z k, .inr (ci, (fv Z (σ k) fs 0).set j (.int v))) = wl Z y (up2 σ k j v) :=
  wl_set h (by simp only [pE, up2_eq]; rw [fv_set hj, Nat.zero_add])
theorem wl_seta {Z : Sh} {y : Ly} {σ : Sg} {k j t n : Nat} {v : Int32} (h : y[k]? = some (.inr (.inl (t, n)))) : (wl Z y σ).set k (ad Z k, .inl (Z.2.1 t, n, .inl (upd (σ k) j v))) = wl Z y (up2 σ k j v) :=
  wl_set h (by simp only [pE, up2_eq])
def tyl (Z : Sh) : List (ClassId × FieldType) := [(Z.2.1 0, .char), (Z.2.1 1, .int), (Z.2.1 2, .boolean), (Z.2.1 3, .object "MoundVotes$Realm"), (Z.2.1 4, .object "MoundVotes$Sheet")]
def PK (Z : Sh) (U : State) : Prop := va_K Z.1 vwCl (tyl Z) U
def Nst : List Cond := [.fieldLinkNest "MoundVotes$Players" 35 "MoundVotes$Realm" "lords" "I" "MoundVotes", .fieldLinkNest "MoundVotes$Reader" 88 "MoundVotes$Realm" "lords" "I" "MoundVotes", .fieldLinkNest "MoundVotes" 101 "MoundVotes$Realm" "lords" "I" "MoundVotes", .fieldLinkNest "MoundVotes$Smallness" 19 "MoundVotes$Realm" "boroughs" "I" "MoundVotes", .fieldLinkNest "MoundVotes$Players" 45 "MoundVotes$Realm" "boroughs" "I" "MoundVotes", .fieldLinkNest "MoundVotes$Reader" 104 "MoundVotes$Realm" "boroughs" "I" "MoundVotes", .fieldLinkNest "MoundVotes" 104 "MoundVotes$Realm" "boroughs" "I" "MoundVotes", .fieldLinkNest "MoundVotes$Reader" 101 "MoundVotes$Realm" "votePrice" "I" "MoundVotes", .fieldLinkNest "MoundVotes" 107 "MoundVotes$Realm" "votePrice" "I" "MoundVotes", .fieldLinkNest "MoundVotes" 129 "MoundVotes$Realm" "guineas" "[I" "MoundVotes", .fieldLinkNest "MoundVotes" 139 "MoundVotes$Realm" "kind" "[I" "MoundVotes", .fieldLinkNest "MoundVotes" 142 "MoundVotes$Realm" "houses" "[I" "MoundVotes", .fieldLinkNest "MoundVotes$Smallness" 24 "MoundVotes$Realm" "members" "[I" "MoundVotes", .fieldLinkNest "MoundVotes$Players" 51 "MoundVotes$Realm" "members" "[I" "MoundVotes", .fieldLinkNest "MoundVotes" 145 "MoundVotes$Realm" "members" "[I" "MoundVotes", .fieldLinkNest "MoundVotes$Players" 48 "MoundVotes$Realm" "owner" "[I" "MoundVotes", .fieldLinkNest "MoundVotes" 148 "MoundVotes$Realm" "owner" "[I" "MoundVotes", .fieldLinkNest "MoundVotes$Reader" 118 "MoundVotes$Realm" "owner" "[I" "MoundVotes", .fieldLinkNest "MoundVotes" 77 "MoundVotes$Tape" "length" "I" "MoundVotes", .fieldLinkNest "MoundVotes$Reader" 122 "MoundVotes$Tape" "length" "I" "MoundVotes", .fieldLinkNest "MoundVotes" 34 "MoundVotes$Reader" "tape" "LMoundVotes$Tape;" "MoundVotes", .fieldLinkNest "MoundVotes" 91 "MoundVotes$Reader" "draft" "LMoundVotes$Realm;" "MoundVotes", .fieldLinkNest "MoundVotes" 85 "MoundVotes$Reader" "met" "I" "MoundVotes", .fieldLinkNest "MoundVotes" 88 "MoundVotes$Reader" "metAt" "I" "MoundVotes", .fieldLinkNest "MoundVotes" 98 "MoundVotes$Witness" "size" "I" "MoundVotes", .fieldLinkNest "MoundVotes" 215 "MoundVotes$Smallness" "order" "[I" "MoundVotes", .fieldLinkNest "MoundVotes" 168 "MoundVotes$Smallness" "size" "I" "MoundVotes", .fieldLinkNest "MoundVotes" 271 "MoundVotes$Sheet" "size" "I" "MoundVotes", .methodLinkNest "MoundVotes" 9 ⟨"MoundVotes$Realm", "<init>", "()V"⟩ "MoundVotes", .methodLinkNest "MoundVotes" 29 ⟨"MoundVotes$Reader", "<init>", "()V"⟩ "MoundVotes", .methodLinkNest "MoundVotes$Reader" 11 ⟨"MoundVotes$Tape", "<init>", "()V"⟩ "MoundVotes", .methodLinkNest "MoundVotes$Reader" 20 ⟨"MoundVotes$Realm", "<init>", "()V"⟩ "MoundVotes", .methodLinkNest "MoundVotes" 41 ⟨"MoundVotes$Players", "<init>", "()V"⟩ "MoundVotes", .methodLinkNest "MoundVotes" 48 ⟨"MoundVotes$Witness", "<init>", "()V"⟩ "MoundVotes", .methodLinkNest "MoundVotes" 55 ⟨"MoundVotes$Smallness", "<init>", "()V"⟩ "MoundVotes", .methodLinkNest "MoundVotes" 66 ⟨"MoundVotes$Sheet", "<init>", "()V"⟩ "MoundVotes", .methodLinkNest "MoundVotes$Reader" 114 ⟨"MoundVotes", "within", "(III)Z"⟩ "MoundVotes", .methodLinkNest "MoundVotes$Realm" 45 ⟨"MoundVotes", "holds", "(II)Z"⟩ "MoundVotes", .methodLinkNest "MoundVotes$Players" 54 ⟨"MoundVotes", "within", "(III)Z"⟩ "MoundVotes", .methodLinkNest "MoundVotes$Sheet" 22 ⟨"MoundVotes", "within", "(III)Z"⟩ "MoundVotes"]
def isN : Cond → Bool
  | .fieldLinkNest _ _ _ _ _ _ => true
  | .methodLinkNest _ _ _ _ => true
  | _ => false
theorem Nst_isN : Nst.all isN = true := by decide +kernel
def NW (U : State) : Prop := ∀ w ∈ Nst, va_Nw w U
theorem NW.moved {s U : State} (hW : s.WarmedH U.vm) (h : NW s) : NW U := by
  intro w hw
  have h1 := List.all_eq_true.mp Nst_isN w hw
  have h2 := h w hw
  cases w <;> first | exact va_Nw.warmF hW h2 | exact va_Nw.warmM hW h2 | (simp [isN] at h1)
def pA (Z : Sh) (y : Ly) (n : Nat) : Nat → Prop := fun q => (∃ i, i < y.length ∧ q = ad Z i) ∨ n ≤ q
def pI (Z : Sh) (y : Ly) : Prop := ∀ i j, i < y.length → j < y.length → ad Z i = ad Z j → i = j
theorem wl_ix {Z : Sh} {y : Ly} {σ : Sg} {i : Nat} {q : Nat × va_E} (h : (wl Z y σ)[i]? = some q) : i < y.length ∧ q.1 = ad Z i := by
  have hl := (List.getElem?_eq_some_iff.mp h).1
  rw [wl_len] at hl
  rw [wl_at] at h
  cases hy : y[i]? with
  | none => rw [hy] at h; cases h
  | some c => rw [hy] at h; cases h; exact ⟨hl, rfl⟩
theorem pDD {Z : Sh} {y : Ly} {σ : Sg} {n : Nat} (h : pI Z y) : va_D (pA Z y n) (wl Z y σ) := by
  refine ⟨fun i j p q hi hj e => ?_, fun k q hk => ?_⟩
  · obtain ⟨a1, a2⟩ := wl_ix hi
    obtain ⟨b1, b2⟩ := wl_ix hj
    exact h i j a1 b1 (by rw [← a2, ← b2]; exact e)
  · obtain ⟨a1, a2⟩ := wl_ix hk
    exact Or.inl ⟨k, a1, a2⟩
theorem pA_mono {Z : Sh} {y : Ly} {n k : Nat} (h : n ≤ k) {q : Nat} (hq : pA Z y k q) : pA Z y n q := by
  rcases hq with hq | hq
  · exact Or.inl hq
  · exact Or.inr (Nat.le_trans h hq)
/-- facts of the launch that no method changes: statics and text constants -/
def EX (Z : Sh) (y : Ly) (U : State) (H : Heap) : Prop :=
  vk_S 6 lenS bytS (sK Z) (sV Z) (pA Z y H.size) U H ∧ va_Z "java/lang/String" "COMPACT_STRINGS" "Z" (.int 1) (pA Z y H.size) U H ∧ va_Zq "jdk/internal/util/Preconditions" "SIOOBE_FORMATTER" "Ljava/util/function/BiFunction;" (pA Z y H.size) U H ∧
  va_Z "MoundVotes$Players" "ORDERS" "[I" (.ref (oA Z)) (pA Z y H.size) U H ∧ va_T .int (oA Z) 11 (fun j => .int (ordF j)) (pA Z y H.size) U H ∧ (∀ i, i < 6 → vk_R RX1 (idxS.getD i 0) (txtS.getD i "") (sK Z i) U) ∧
  va_Z "MoundVotes$Players" "PARTS" "[I" (.ref (oB Z)) (pA Z y H.size) U H ∧ va_T .int (oB Z) 11 (fun j => .int (prtF j)) (pA Z y H.size) U H
theorem EX.keep {Z : Sh} {y : Ly} {s U : State} {H : Heap} {locs : List Loc} (hW : s.WarmedH U.vm) (hU : U.heap = H) (hS : va_S (pA Z y s.heap.size) s.heap H locs) (h : EX Z y s s.heap) : EX Z y U U.heap := by
  subst hU
  obtain ⟨h1, h2, h3, h4, h5, h6, h7, h8⟩ := h
  have hm : ∀ q, pA Z y U.heap.size q → pA Z y s.heap.size q := fun q h => pA_mono hS.1 h
  exact ⟨vk_S.moved hW.alike ((h1.kept hS.2.1).narrow hm), va_Z.moved hW.alike ((h2.kept hS.2.1).narrow hm), va_Zq.moved hW.alike ((h3.kept hS.2.1).narrow hm), va_Z.moved hW.alike ((h4.kept hS.2.1).narrow hm), va_T.moved hW.alike ((h5.kept hS.2.1).narrow hm), fun i hi => vk_R.warm hW (h6 i hi), va_Z.moved hW.alike ((h7.kept hS.2.1).narrow hm), va_T.moved hW.alike ((h8.kept hS.2.1).narrow hm)⟩
theorem EX.call {Z : Sh} {y : Ly} {U : State} {g : JFrame} {mk : MethodId} {a : Array Value} (h : EX Z y U U.heap) : EX Z y (U.calling g mk a) (U.calling g mk a).heap := by
  obtain ⟨h1, h2, h3, h4, h5, h6, h7, h8⟩ := h
  exact ⟨vk_S.moved (u := U) (Vm.Alike.refl U.vm) h1, va_Z.moved (u := U) (Vm.Alike.refl U.vm) h2, va_Zq.moved (u := U) (Vm.Alike.refl U.vm) h3, va_Z.moved (u := U) (Vm.Alike.refl U.vm) h4, va_T.moved (u := U) (Vm.Alike.refl U.vm) h5, fun i hi => vk_R.same rfl (h6 i hi), va_Z.moved (u := U) (Vm.Alike.refl U.vm) h7, va_T.moved (u := U) (Vm.Alike.refl U.vm) h8⟩
def PW (Z : Sh) (y : Ly) (σ : Sg) (U : State) : Prop := va_P Z.1 vwCl (wl Z y σ) U.heap ∧ PK Z U ∧ NW U ∧ EX Z y U U.heap ∧ pI Z y
def QI (Z : Sh) (y : Ly) (σ : Sg) (r : Int32) (n : Nat) : Array Value → State → Outcome → State → Prop := va_Qi (fun v (_ : Unit) => v = r) (fun _ t => va_P Z.1 vwCl (wl Z y σ) t.heap) (pA Z y n)
def QL (Z : Sh) (y : Ly) (σ : Sg) (r : Int64) (n : Nat) : Array Value → State → Outcome → State → Prop := va_Ql (fun v (_ : Unit) => v = r) (fun _ t => va_P Z.1 vwCl (wl Z y σ) t.heap) (pA Z y n)
def QV (Z : Sh) (y : Ly) (σ : Sg) (n : Nat) : Array Value → State → Outcome → State → Prop := va_Qv (fun (_ : Unit) => True) (fun _ t => va_P Z.1 vwCl (wl Z y σ) t.heap) (pA Z y n)
def PCC (Z : Sh) (y : Ly) (σ : Sg) (av : List Value) (n : Nat) : Array Value → State → Prop := va_Pc av (fun U => U.heap.size = n ∧ PW Z y σ U)
def MI (l : Launch) (Z : Sh) (y : Ly) (x : MethodName) (ws : List Cond) (rm : Room) (av : List Value) (σ σ' : Sg) (r : Int32) : Prop := ∀ n, Met l x ws rm (PCC Z y σ av n) (QI Z y σ' r n) 0 0 (pA Z y n)
def ML (l : Launch) (Z : Sh) (y : Ly) (x : MethodName) (ws : List Cond) (rm : Room) (av : List Value) (σ σ' : Sg) (r : Int64) : Prop := ∀ n, Met l x ws rm (PCC Z y σ av n) (QL Z y σ' r n) 0 0 (pA Z y n)
def MV (l : Launch) (Z : Sh) (y : Ly) (x : MethodName) (ws : List Cond) (rm : Room) (av : List Value) (σ σ' : Sg) : Prop := ∀ n, Met l x ws rm (PCC Z y σ av n) (QV Z y σ' n) 0 0 (pA Z y n)
theorem NW.same {u U : State} (h : u.vm = U.vm) (hN : NW u) : NW U := fun w hw => va_Nw.same (by have h1 := List.all_eq_true.mp Nst_isN w hw; revert h1; cases w <;> simp [isN, Cond.onTables]) h (hN w hw)
theorem PCC.blind (Z : Sh) (y : Ly) (σ : Sg) (av : List Value) (n : Nat) : FrameBlind (PCC Z y σ av n) := by
  intro a U g mk h
  obtain ⟨h0, h1, h2, h3, h4, h5, h6⟩ := h
  exact ⟨h0, h1, h2, va_K.moved (u := U) (U := U.calling g mk a) (Vm.Alike.refl U.vm) h3, NW.same (u := U) (U := U.calling g mk a) rfl h4, EX.call h5, h6⟩
theorem NW.of {s : State} (h : NW s) (w : Cond) (hw : w ∈ Nst) : va_Nw w s := h w hw
/-- the fixed facts of a method under way -/
def Cx (p : Program) (s : State) (m : MethodId) (args : Array Value) (meth : Method) (c : Code) (cc : ByteArray) (nL : Nat) (Ts : List Cond) (own : String) (ret : Option FieldType) (Z : Sh) (y : Ly) : Prop :=
  p.tables.exec = Jvm.exec ∧ c.code = cc ∧ meth.sig.returnType = ret ∧ c.maxLocals = nL ∧ s.vm.findClass own = some m.cls ∧ (∀ w ∈ Ts, w.before args s = true) ∧ meth.locks = false ∧ PK Z s ∧ NW s ∧ EX Z y s s.heap ∧ pI Z y
/-- the machine at pc, with locals lv and stack st, over the world σ, comes to Q -/
def G (p : Program) (l : Launch) (e : Env) (R : Room) (s : State) (m : MethodId) (args : Array Value) (below : List Frame) (meth : Method) (c : Code) (nL : Nat) (Z : Sh) (y : Ly) (Q : State → Prop) (σ : Sg) (pc : Nat) (lv : List (Nat × Value)) (st : List Value) : Prop :=
  ∀ (H : Heap) (locs : List Loc) (ls : Array Slot), lv_has ls nL lv → va_P Z.1 vwCl (wl Z y σ) H → va_S (pA Z y s.heap.size) s.heap H locs → W p l e R s m args below meth c H locs 0 0 Q (F0 m pc ls st)
theorem bs {α β : Type} {x : Option α} {f : α → Option β} {o : β} (h : x.bind f = some o) : ∃ a, x = some a ∧ f a = some o := by
  cases x with
  | none => cases h
  | some a => exact ⟨a, rfl, h⟩
theorem pfst {α β : Type} {a : α} {b : β} {u : α × β} (h : some (a, b) = some u) : a = u.1 := by cases h; rfl
theorem psnd {α β : Type} {a : α} {b : β} {u : α × β} (h : some (a, b) = some u) : b = u.2 := by cases h; rfl
def rd (f : Nat → Int32) (n : Nat) (i : Int32) : Option Int32 := if i < 0 ∨ n ≤ i.toNatClampNeg then none else some (f i.toNatClampNeg)
def wr (σ : Sg) (k n : Nat) (i v : Int32) : Option Sg := if i < 0 ∨ n ≤ i.toNatClampNeg then none else some (up2 σ k i.toNatClampNeg v)
def pf (σ : Sg) (k j : Nat) (v : Int32) : Option Sg := some (up2 σ k j v)
def pz (σ : Sg) (k j : Nat) (v : Int32) : Option Sg := if v = 0 ∨ v = 1 then some (up2 σ k j v) else none
def rz (v : Int32) : Option Int32 := if v = 0 ∨ v = 1 then some v else none
def rc (v : Int32) : Option Int32 := if vp_nar .char v = v then some v else none
def dv (a b : Int32) : Option Int32 := if b = 0 then none else some (a / b)
def rm (a b : Int32) : Option Int32 := if b = 0 then none else some (a - a / b * b)
def dvL (a b : Int64) : Option Int64 := if b = 0 then none else some (a / b)
def rmL (a b : Int64) : Option Int64 := if b = 0 then none else some (a - a / b * b)
def rx (l : List Nat) (i : Int32) : Option Nat := if i < 0 ∨ l.length ≤ i.toNatClampNeg then none else l[i.toNatClampNeg]?
theorem rd_in {f : Nat → Int32} {n : Nat} {i v : Int32} (h : rd f n i = some v) : vp_in i n ∧ f i.toNatClampNeg = v := by
  unfold rd at h
  by_cases hc : i < 0 ∨ n ≤ i.toNatClampNeg
  · rw [if_pos hc] at h; cases h
  · rw [if_neg hc] at h; cases h; exact ⟨hc, rfl⟩
theorem wr_in {σ σ1 : Sg} {k n : Nat} {i v : Int32} (h : wr σ k n i v = some σ1) : vp_in i n ∧ up2 σ k i.toNatClampNeg v = σ1 := by
  unfold wr at h
  by_cases hc : i < 0 ∨ n ≤ i.toNatClampNeg
  · rw [if_pos hc] at h; cases h
  · rw [if_neg hc] at h; cases h; exact ⟨hc, rfl⟩
theorem rx_in {l : List Nat} {i : Int32} {k : Nat} (h : rx l i = some k) : vp_in i l.length ∧ l[i.toNatClampNeg]? = some k := by
  unfold rx at h
  by_cases hc : i < 0 ∨ l.length ≤ i.toNatClampNeg
  · rw [if_pos hc] at h; cases h
  · rw [if_neg hc] at h; exact ⟨hc, h⟩
theorem pz_in {σ σ1 : Sg} {k j : Nat} {v : Int32} (h : pz σ k j v = some σ1) : (v = 0 ∨ v = 1) ∧ up2 σ k j v = σ1 := by
  unfold pz at h
  by_cases hc : v = 0 ∨ v = 1
  · rw [if_pos hc] at h; cases h; exact ⟨hc, rfl⟩
  · rw [if_neg hc] at h; cases h
theorem z_nar {v : Int32} (h : v = 0 ∨ v = 1) : narrow .boolean (.int v) = .int v := by rcases h with rfl | rfl <;> decide
theorem z_fit {v : Int32} (h : v = 0 ∨ v = 1) : fits .boolean (.int v) = true := by rcases h with rfl | rfl <;> decide
theorem ne_ti {x v : Int32} (h : ¬ x = v) : x.toInt ≠ v.toInt := fun h2 => h (Int32.toInt_inj.mp h2)
section GR
variable {p : Program} {l : Launch} {e : Env} {R : Room} {s : State} {m : MethodId} {args : Array Value} {below : List Frame} {meth : Method} {c : Code} {nL : Nat} {Z : Sh} {y : Ly} {Q : State → Prop} {σ : Sg} {pc : Nat} {lv : List (Nat × Value)} {st : List Value} {cc : ByteArray} {Ts : List Cond} {own : String} {ret : Option FieldType}
theorem g_iconst (C : Cx p s m args meth c cc nL Ts own ret Z y) {n : Int} {v : Int32} (hd : decode cc pc = .ok (.iconst n, 1)) (hv : Int32.ofInt n = v) (k : G p l e R s m args below meth c nL Z y Q σ (pc + 1) lv (.int v :: st)) : G p l e R s m args below meth c nL Z y Q σ pc lv st := fun H locs ls a b d => lv_iconst C.1 C.2.1 hd hv (k H locs ls a b d)
theorem g_bipush (C : Cx p s m args meth c cc nL Ts own ret Z y) {n : Int} {v : Int32} (hd : decode cc pc = .ok (.bipush n, 2)) (hv : (Int8.ofInt n).toInt32 = v) (k : G p l e R s m args below meth c nL Z y Q σ (pc + 2) lv (.int v :: st)) : G p l e R s m args below meth c nL Z y Q σ pc lv st := fun H locs ls a b d => lv_bipush C.1 C.2.1 hd hv (k H locs ls a b d)
theorem g_sipush (C : Cx p s m args meth c cc nL Ts own ret Z y) {n : Int} {v : Int32} (hd : decode cc pc = .ok (.sipush n, 3)) (hv : (Int16.ofInt n).toInt32 = v) (k : G p l e R s m args below meth c nL Z y Q σ (pc + 3) lv (.int v :: st)) : G p l e R s m args below meth c nL Z y Q σ pc lv st := fun H locs ls a b d => lv_sipush C.1 C.2.1 hd hv (k H locs ls a b d)
theorem g_lconst (C : Cx p s m args meth c cc nL Ts own ret Z y) {n : Fin 2} {v : Int64} (hd : decode cc pc = .ok (.lconst n, 1)) (hv : Int64.ofNat (n : Nat) = v) (k : G p l e R s m args below meth c nL Z y Q σ (pc + 1) lv (.long v :: st)) : G p l e R s m args below meth c nL Z y Q σ pc lv st := fun H locs ls a b d => lv_lconst C.1 C.2.1 hd hv (k H locs ls a b d)
theorem g_iload_n (C : Cx p s m args meth c cc nL Ts own ret Z y) {k : Fin 4} {i : Nat} {x : Int32} (hd : decode cc pc = .ok (.iload_n k, 1)) (hi : (k : Nat) = i) (j : Nat) (hj : lv[j]? = some (i, .int x)) (k2 : G p l e R s m args below meth c nL Z y Q σ (pc + 1) lv (.int x :: st)) : G p l e R s m args below meth c nL Z y Q σ pc lv st := fun H locs ls a b d => lv_iload_n C.1 C.2.1 hd hi (lv_at a j hj) (k2 H locs ls a b d)
theorem g_iload (C : Cx p s m args meth c cc nL Ts own ret Z y) {i : Nat} {x : Int32} (hd : decode cc pc = .ok (.iload i, 2)) (j : Nat) (hj : lv[j]? = some (i, .int x)) (k2 : G p l e R s m args below meth c nL Z y Q σ (pc + 2) lv (.int x :: st)) : G p l e R s m args below meth c nL Z y Q σ pc lv st := fun H locs ls a b d => lv_iload C.1 C.2.1 hd (lv_at a j hj) (k2 H locs ls a b d)
theorem g_istore_n (C : Cx p s m args meth c cc nL Ts own ret Z y) {k : Fin 4} {i : Nat} {x : Int32} {lv2 : List (Nat × Value)} (hd : decode cc pc = .ok (.istore_n k, 1)) (hi : (k : Nat) = i) (hn : i < nL) (hl : (i, Value.int x) :: lv.filter (fun q => !(q.1 == i) && !(q.1 + 1 == i && q.2.category == 2)) = lv2) (k2 : G p l e R s m args below meth c nL Z y Q σ (pc + 1) lv2 st) : G p l e R s m args below meth c nL Z y Q σ pc lv (.int x :: st) := fun H locs ls a b d => lv_istore_n C.1 C.2.1 hd hi a hn hl (fun ls2 h2 => k2 H locs ls2 h2 b d)
theorem g_istore (C : Cx p s m args meth c cc nL Ts own ret Z y) {i : Nat} {x : Int32} {lv2 : List (Nat × Value)} (hd : decode cc pc = .ok (.istore i, 2)) (hn : i < nL) (hl : (i, Value.int x) :: lv.filter (fun q => !(q.1 == i) && !(q.1 + 1 == i && q.2.category == 2)) = lv2) (k2 : G p l e R s m args below meth c nL Z y Q σ (pc + 2) lv2 st) : G p l e R s m args below meth c nL Z y Q σ pc lv (.int x :: st) := fun H locs ls a b d => lv_istore C.1 C.2.1 hd a hn hl (fun ls2 h2 => k2 H locs ls2 h2 b d)
theorem g_lload_n (C : Cx p s m args meth c cc nL Ts own ret Z y) {k : Fin 4} {i : Nat} {x : Int64} (hd : decode cc pc = .ok (.lload_n k, 1)) (hi : (k : Nat) = i) (j : Nat) (hj : lv[j]? = some (i, .long x)) (k2 : G p l e R s m args below meth c nL Z y Q σ (pc + 1) lv (.long x :: st)) : G p l e R s m args below meth c nL Z y Q σ pc lv st := fun H locs ls a b d => lv_lload_n C.1 C.2.1 hd hi (lv_at a j hj) (k2 H locs ls a b d)
theorem g_lload (C : Cx p s m args meth c cc nL Ts own ret Z y) {i : Nat} {x : Int64} (hd : decode cc pc = .ok (.lload i, 2)) (j : Nat) (hj : lv[j]? = some (i, .long x)) (k2 : G p l e R s m args below meth c nL Z y Q σ (pc + 2) lv (.long x :: st)) : G p l e R s m args below meth c nL Z y Q σ pc lv st := fun H locs ls a b d => lv_lload C.1 C.2.1 hd (lv_at a j hj) (k2 H locs ls a b d)
theorem g_lstore_n (C : Cx p s m args meth c cc nL Ts own ret Z y) {k : Fin 4} {i : Nat} {x : Int64} {lv2 : List (Nat × Value)} (hd : decode cc pc = .ok (.lstore_n k, 1)) (hi : (k : Nat) = i) (hn : i + 1 < nL) (hl : (i, Value.long x) :: lv.filter (fun q => !(q.1 == i) && (!(q.1 == i + 1) && !(q.1 + 1 == i && q.2.category == 2))) = lv2) (k2 : G p l e R s m args below meth c nL Z y Q σ (pc + 1) lv2 st) : G p l e R s m args below meth c nL Z y Q σ pc lv (.long x :: st) := fun H locs ls a b d => lv_lstore_n C.1 C.2.1 hd hi a hn hl (fun ls2 h2 => k2 H locs ls2 h2 b d)
theorem g_lstore (C : Cx p s m args meth c cc nL Ts own ret Z y) {i : Nat} {x : Int64} {lv2 : List (Nat × Value)} (hd : decode cc pc = .ok (.lstore i, 2)) (hn : i + 1 < nL) (hl : (i, Value.long x) :: lv.filter (fun q => !(q.1 == i) && (!(q.1 == i + 1) && !(q.1 + 1 == i && q.2.category == 2))) = lv2) (k2 : G p l e R s m args below meth c nL Z y Q σ (pc + 2) lv2 st) : G p l e R s m args below meth c nL Z y Q σ pc lv (.long x :: st) := fun H locs ls a b d => lv_lstore C.1 C.2.1 hd a hn hl (fun ls2 h2 => k2 H locs ls2 h2 b d)
theorem g_aload_n (C : Cx p s m args meth c cc nL Ts own ret Z y) {k : Fin 4} {i : Nat} {x : Nat} (hd : decode cc pc = .ok (.aload_n k, 1)) (hi : (k : Nat) = i) (j : Nat) (hj : lv[j]? = some (i, .ref x)) (k2 : G p l e R s m args below meth c nL Z y Q σ (pc + 1) lv (.ref x :: st)) : G p l e R s m args below meth c nL Z y Q σ pc lv st := fun H locs ls a b d => lv_aload_n C.1 C.2.1 hd hi (lv_at a j hj) (k2 H locs ls a b d)
theorem g_aload (C : Cx p s m args meth c cc nL Ts own ret Z y) {i : Nat} {x : Nat} (hd : decode cc pc = .ok (.aload i, 2)) (j : Nat) (hj : lv[j]? = some (i, .ref x)) (k2 : G p l e R s m args below meth c nL Z y Q σ (pc + 2) lv (.ref x :: st)) : G p l e R s m args below meth c nL Z y Q σ pc lv st := fun H locs ls a b d => lv_aload C.1 C.2.1 hd (lv_at a j hj) (k2 H locs ls a b d)
theorem g_astore_n (C : Cx p s m args meth c cc nL Ts own ret Z y) {k : Fin 4} {i : Nat} {x : Nat} {lv2 : List (Nat × Value)} (hd : decode cc pc = .ok (.astore_n k, 1)) (hi : (k : Nat) = i) (hn : i < nL) (hl : (i, Value.ref x) :: lv.filter (fun q => !(q.1 == i) && !(q.1 + 1 == i && q.2.category == 2)) = lv2) (k2 : G p l e R s m args below meth c nL Z y Q σ (pc + 1) lv2 st) : G p l e R s m args below meth c nL Z y Q σ pc lv (.ref x :: st) := fun H locs ls a b d => lv_astore_n C.1 C.2.1 hd hi a hn hl (fun ls2 h2 => k2 H locs ls2 h2 b d)
theorem g_astore (C : Cx p s m args meth c cc nL Ts own ret Z y) {i : Nat} {x : Nat} {lv2 : List (Nat × Value)} (hd : decode cc pc = .ok (.astore i, 2)) (hn : i < nL) (hl : (i, Value.ref x) :: lv.filter (fun q => !(q.1 == i) && !(q.1 + 1 == i && q.2.category == 2)) = lv2) (k2 : G p l e R s m args below meth c nL Z y Q σ (pc + 2) lv2 st) : G p l e R s m args below meth c nL Z y Q σ pc lv (.ref x :: st) := fun H locs ls a b d => lv_astore C.1 C.2.1 hd a hn hl (fun ls2 h2 => k2 H locs ls2 h2 b d)
theorem g_iinc (C : Cx p s m args meth c cc nL Ts own ret Z y) {i j : Nat} {n : Int} {x v : Int32} {lv2 : List (Nat × Value)} (hd : decode cc pc = .ok (.iinc i n, 3)) (hj : lv[j]? = some (i, .int x)) (hv : x + Int32.ofInt n = v) (hn : i < nL) (hl : (i, Value.int v) :: lv.filter (fun q => !(q.1 == i) && !(q.1 + 1 == i && q.2.category == 2)) = lv2) (k2 : G p l e R s m args below meth c nL Z y Q σ (pc + 3) lv2 st) : G p l e R s m args below meth c nL Z y Q σ pc lv st := fun H locs ls a b d => lv_iinc C.1 C.2.1 hd a hj hv hn hl (fun ls2 h2 => k2 H locs ls2 h2 b d)
theorem g_iadd (C : Cx p s m args meth c cc nL Ts own ret Z y) {x z : Int32} (hd : decode cc pc = .ok (.iadd, 1)) (k : G p l e R s m args below meth c nL Z y Q σ (pc + 1) lv (.int (x + z) :: st)) : G p l e R s m args below meth c nL Z y Q σ pc lv (.int z :: .int x :: st) := fun H locs ls a b d => lv_iadd C.1 C.2.1 hd (k H locs ls a b d)
theorem g_isub (C : Cx p s m args meth c cc nL Ts own ret Z y) {x z : Int32} (hd : decode cc pc = .ok (.isub, 1)) (k : G p l e R s m args below meth c nL Z y Q σ (pc + 1) lv (.int (x - z) :: st)) : G p l e R s m args below meth c nL Z y Q σ pc lv (.int z :: .int x :: st) := fun H locs ls a b d => lv_isub C.1 C.2.1 hd (k H locs ls a b d)
theorem g_imul (C : Cx p s m args meth c cc nL Ts own ret Z y) {x z : Int32} (hd : decode cc pc = .ok (.imul, 1)) (k : G p l e R s m args below meth c nL Z y Q σ (pc + 1) lv (.int (x * z) :: st)) : G p l e R s m args below meth c nL Z y Q σ pc lv (.int z :: .int x :: st) := fun H locs ls a b d => lv_imul C.1 C.2.1 hd (k H locs ls a b d)
theorem g_iand (C : Cx p s m args meth c cc nL Ts own ret Z y) {x z : Int32} (hd : decode cc pc = .ok (.iand, 1)) (k : G p l e R s m args below meth c nL Z y Q σ (pc + 1) lv (.int (x &&& z) :: st)) : G p l e R s m args below meth c nL Z y Q σ pc lv (.int z :: .int x :: st) := fun H locs ls a b d => lv_iand C.1 C.2.1 hd (k H locs ls a b d)
theorem g_ior (C : Cx p s m args meth c cc nL Ts own ret Z y) {x z : Int32} (hd : decode cc pc = .ok (.ior, 1)) (k : G p l e R s m args below meth c nL Z y Q σ (pc + 1) lv (.int (x ||| z) :: st)) : G p l e R s m args below meth c nL Z y Q σ pc lv (.int z :: .int x :: st) := fun H locs ls a b d => lv_ior C.1 C.2.1 hd (k H locs ls a b d)
theorem g_ixor (C : Cx p s m args meth c cc nL Ts own ret Z y) {x z : Int32} (hd : decode cc pc = .ok (.ixor, 1)) (k : G p l e R s m args below meth c nL Z y Q σ (pc + 1) lv (.int (x ^^^ z) :: st)) : G p l e R s m args below meth c nL Z y Q σ pc lv (.int z :: .int x :: st) := fun H locs ls a b d => lv_ixor C.1 C.2.1 hd (k H locs ls a b d)
theorem g_ishl (C : Cx p s m args meth c cc nL Ts own ret Z y) {x z : Int32} (hd : decode cc pc = .ok (.ishl, 1)) (k : G p l e R s m args below meth c nL Z y Q σ (pc + 1) lv (.int (x <<< (z &&& 31)) :: st)) : G p l e R s m args below meth c nL Z y Q σ pc lv (.int z :: .int x :: st) := fun H locs ls a b d => lv_ishl C.1 C.2.1 hd (k H locs ls a b d)
theorem g_ishr (C : Cx p s m args meth c cc nL Ts own ret Z y) {x z : Int32} (hd : decode cc pc = .ok (.ishr, 1)) (k : G p l e R s m args below meth c nL Z y Q σ (pc + 1) lv (.int (x >>> (z &&& 31)) :: st)) : G p l e R s m args below meth c nL Z y Q σ pc lv (.int z :: .int x :: st) := fun H locs ls a b d => lv_ishr C.1 C.2.1 hd (k H locs ls a b d)
theorem g_ladd (C : Cx p s m args meth c cc nL Ts own ret Z y) {x z : Int64} (hd : decode cc pc = .ok (.ladd, 1)) (k : G p l e R s m args below meth c nL Z y Q σ (pc + 1) lv (.long (x + z) :: st)) : G p l e R s m args below meth c nL Z y Q σ pc lv (.long z :: .long x :: st) := fun H locs ls a b d => lv_ladd C.1 C.2.1 hd (k H locs ls a b d)
theorem g_lsub (C : Cx p s m args meth c cc nL Ts own ret Z y) {x z : Int64} (hd : decode cc pc = .ok (.lsub, 1)) (k : G p l e R s m args below meth c nL Z y Q σ (pc + 1) lv (.long (x - z) :: st)) : G p l e R s m args below meth c nL Z y Q σ pc lv (.long z :: .long x :: st) := fun H locs ls a b d => lv_lsub C.1 C.2.1 hd (k H locs ls a b d)
theorem g_lmul (C : Cx p s m args meth c cc nL Ts own ret Z y) {x z : Int64} (hd : decode cc pc = .ok (.lmul, 1)) (k : G p l e R s m args below meth c nL Z y Q σ (pc + 1) lv (.long (x * z) :: st)) : G p l e R s m args below meth c nL Z y Q σ pc lv (.long z :: .long x :: st) := fun H locs ls a b d => lv_lmul C.1 C.2.1 hd (k H locs ls a b d)
theorem g_ineg (C : Cx p s m args meth c cc nL Ts own ret Z y) {x : Int32} (hd : decode cc pc = .ok (.ineg, 1)) (k : G p l e R s m args below meth c nL Z y Q σ (pc + 1) lv (.int (-x) :: st)) : G p l e R s m args below meth c nL Z y Q σ pc lv (.int x :: st) := fun H locs ls a b d => lv_ineg C.1 C.2.1 hd (k H locs ls a b d)
theorem g_i2l (C : Cx p s m args meth c cc nL Ts own ret Z y) {x : Int32} (hd : decode cc pc = .ok (.i2l, 1)) (k : G p l e R s m args below meth c nL Z y Q σ (pc + 1) lv (.long x.toInt64 :: st)) : G p l e R s m args below meth c nL Z y Q σ pc lv (.int x :: st) := fun H locs ls a b d => lv_i2l C.1 C.2.1 hd rfl (k H locs ls a b d)
theorem g_l2i (C : Cx p s m args meth c cc nL Ts own ret Z y) {x : Int64} (hd : decode cc pc = .ok (.l2i, 1)) (k : G p l e R s m args below meth c nL Z y Q σ (pc + 1) lv (.int x.toInt32 :: st)) : G p l e R s m args below meth c nL Z y Q σ pc lv (.long x :: st) := fun H locs ls a b d => lv_l2i C.1 C.2.1 hd rfl (k H locs ls a b d)
theorem g_i2b (C : Cx p s m args meth c cc nL Ts own ret Z y) {x : Int32} (hd : decode cc pc = .ok (.i2b, 1)) (k : G p l e R s m args below meth c nL Z y Q σ (pc + 1) lv (.int x.toInt8.toInt32 :: st)) : G p l e R s m args below meth c nL Z y Q σ pc lv (.int x :: st) := fun H locs ls a b d => lv_i2b C.1 C.2.1 hd rfl (k H locs ls a b d)
theorem g_i2s (C : Cx p s m args meth c cc nL Ts own ret Z y) {x : Int32} (hd : decode cc pc = .ok (.i2s, 1)) (k : G p l e R s m args below meth c nL Z y Q σ (pc + 1) lv (.int x.toInt16.toInt32 :: st)) : G p l e R s m args below meth c nL Z y Q σ pc lv (.int x :: st) := fun H locs ls a b d => lv_i2s C.1 C.2.1 hd rfl (k H locs ls a b d)
theorem g_i2c (C : Cx p s m args meth c cc nL Ts own ret Z y) {x : Int32} (hd : decode cc pc = .ok (.i2c, 1)) (k : G p l e R s m args below meth c nL Z y Q σ (pc + 1) lv (.int (x.toUInt32 % 65536).toInt32 :: st)) : G p l e R s m args below meth c nL Z y Q σ pc lv (.int x :: st) := fun H locs ls a b d => lv_i2c C.1 C.2.1 hd rfl (k H locs ls a b d)
theorem g_iushr (C : Cx p s m args meth c cc nL Ts own ret Z y) {x z : Int32} (hd : decode cc pc = .ok (.iushr, 1)) (k : G p l e R s m args below meth c nL Z y Q σ (pc + 1) lv (.int (x.toUInt32 >>> (z.toUInt32 &&& Int32.toUInt32 31)).toInt32 :: st)) : G p l e R s m args below meth c nL Z y Q σ pc lv (.int z :: .int x :: st) := fun H locs ls a b d => lv_iushr C.1 C.2.1 hd rfl (k H locs ls a b d)
theorem g_lcmp (C : Cx p s m args meth c cc nL Ts own ret Z y) {x z : Int64} (hd : decode cc pc = .ok (.lcmp, 1)) (k : G p l e R s m args below meth c nL Z y Q σ (pc + 1) lv (.int (lg_cmp x z) :: st)) : G p l e R s m args below meth c nL Z y Q σ pc lv (.long z :: .long x :: st) := fun H locs ls a b d => W.lcmp C.1 C.2.1 hd (k H locs ls a b d)
theorem g_dup (C : Cx p s m args meth c cc nL Ts own ret Z y) {v : Value} (hv : v.category = 1) (hd : decode cc pc = .ok (.dup, 1)) (k : G p l e R s m args below meth c nL Z y Q σ (pc + 1) lv (v :: v :: st)) : G p l e R s m args below meth c nL Z y Q σ pc lv (v :: st) := fun H locs ls a b d => lv_dup C.1 C.2.1 hd hv (k H locs ls a b d)
theorem g_pop (C : Cx p s m args meth c cc nL Ts own ret Z y) {v : Value} (hv : v.category = 1) (hd : decode cc pc = .ok (.pop, 1)) (k : G p l e R s m args below meth c nL Z y Q σ (pc + 1) lv st) : G p l e R s m args below meth c nL Z y Q σ pc lv (v :: st) := fun H locs ls a b d => lv_pop C.1 C.2.1 hd hv (k H locs ls a b d)
theorem g_dup_x1 (C : Cx p s m args meth c cc nL Ts own ret Z y) {v w : Value} (hv : v.category = 1) (hw : w.category = 1) (hd : decode cc pc = .ok (.dup_x1, 1)) (k : G p l e R s m args below meth c nL Z y Q σ (pc + 1) lv (v :: w :: v :: st)) : G p l e R s m args below meth c nL Z y Q σ pc lv (v :: w :: st) := fun H locs ls a b d => lv_dup_x1 C.1 C.2.1 hd hv hw (k H locs ls a b d)
theorem g_dup2 (C : Cx p s m args meth c cc nL Ts own ret Z y) {v w : Value} (hv : v.category = 1) (hw : w.category = 1) (hd : decode cc pc = .ok (.dup2, 1)) (k : G p l e R s m args below meth c nL Z y Q σ (pc + 1) lv (v :: w :: v :: w :: st)) : G p l e R s m args below meth c nL Z y Q σ pc lv (v :: w :: st) := fun H locs ls a b d => lv_dup2_11 C.1 C.2.1 hd hv hw (k H locs ls a b d)
theorem g_idiv (C : Cx p s m args meth c cc nL Ts own ret Z y) {x z v : Int32} (hd : decode cc pc = .ok (.idiv, 1)) (hv : dv x z = some v) (k : G p l e R s m args below meth c nL Z y Q σ (pc + 1) lv (.int v :: st)) : G p l e R s m args below meth c nL Z y Q σ pc lv (.int z :: .int x :: st) := by
  unfold dv at hv
  by_cases hz : z = 0
  · rw [if_pos hz] at hv; cases hv
  · rw [if_neg hz] at hv; cases hv
    exact fun H locs ls a b d => lv_idiv C.1 C.2.1 hd hz (k H locs ls a b d)
theorem g_irem (C : Cx p s m args meth c cc nL Ts own ret Z y) {x z v : Int32} (hd : decode cc pc = .ok (.irem, 1)) (hv : rm x z = some v) (k : G p l e R s m args below meth c nL Z y Q σ (pc + 1) lv (.int v :: st)) : G p l e R s m args below meth c nL Z y Q σ pc lv (.int z :: .int x :: st) := by
  unfold rm at hv
  by_cases hz : z = 0
  · rw [if_pos hz] at hv; cases hv
  · rw [if_neg hz] at hv; cases hv
    exact fun H locs ls a b d => lv_irem C.1 C.2.1 hd hz (k H locs ls a b d)
theorem g_ldiv (C : Cx p s m args meth c cc nL Ts own ret Z y) {x z v : Int64} (hd : decode cc pc = .ok (.ldiv, 1)) (hv : dvL x z = some v) (k : G p l e R s m args below meth c nL Z y Q σ (pc + 1) lv (.long v :: st)) : G p l e R s m args below meth c nL Z y Q σ pc lv (.long z :: .long x :: st) := by
  unfold dvL at hv
  by_cases hz : z = 0
  · rw [if_pos hz] at hv; cases hv
  · rw [if_neg hz] at hv; cases hv
    exact fun H locs ls a b d => lv_ldiv C.1 C.2.1 hd hz (k H locs ls a b d)
theorem g_lrem (C : Cx p s m args meth c cc nL Ts own ret Z y) {x z v : Int64} (hd : decode cc pc = .ok (.lrem, 1)) (hv : rmL x z = some v) (k : G p l e R s m args below meth c nL Z y Q σ (pc + 1) lv (.long v :: st)) : G p l e R s m args below meth c nL Z y Q σ pc lv (.long z :: .long x :: st) := by
  unfold rmL at hv
  by_cases hz : z = 0
  · rw [if_pos hz] at hv; cases hv
  · rw [if_neg hz] at hv; cases hv
    exact fun H locs ls a b d => lv_lrem C.1 C.2.1 hd hz (k H locs ls a b d)
theorem g_if_eq (C : Cx p s m args meth c cc nL Ts own ret Z y) {x : Int32} {off : Int} {tgt : Nat} {α : Type} {A B o : α} (hd : decode cc pc = .ok (.ifCond .eq off, 3)) (ht : (pc : Int) + off = (tgt : Int)) (h : (if x = 0 then A else B) = o) (kt : x = 0 → A = o → G p l e R s m args below meth c nL Z y Q σ tgt lv st) (kf : ¬ (x = 0) → B = o → G p l e R s m args below meth c nL Z y Q σ (pc + 3) lv st) : G p l e R s m args below meth c nL Z y Q σ pc lv (.int x :: st) := fun H locs ls a b d => lv_if_eq C.1 C.2.1 hd ht (fun hc => kt hc (by rw [← h, if_pos hc]) H locs ls a b d) (fun hc => kf hc (by rw [← h, if_neg hc]) H locs ls a b d)
theorem g_icmp_eq (C : Cx p s m args meth c cc nL Ts own ret Z y) {x z : Int32} {off : Int} {tgt : Nat} {α : Type} {A B o : α} (hd : decode cc pc = .ok (.if_icmp .eq off, 3)) (ht : (pc : Int) + off = (tgt : Int)) (h : (if x = z then A else B) = o) (kt : x = z → A = o → G p l e R s m args below meth c nL Z y Q σ tgt lv st) (kf : ¬ (x = z) → B = o → G p l e R s m args below meth c nL Z y Q σ (pc + 3) lv st) : G p l e R s m args below meth c nL Z y Q σ pc lv (.int z :: .int x :: st) := fun H locs ls a b d => lv_icmp_eq C.1 C.2.1 hd ht (fun hc => kt hc (by rw [← h, if_pos hc]) H locs ls a b d) (fun hc => kf hc (by rw [← h, if_neg hc]) H locs ls a b d)
theorem g_if_ne (C : Cx p s m args meth c cc nL Ts own ret Z y) {x : Int32} {off : Int} {tgt : Nat} {α : Type} {A B o : α} (hd : decode cc pc = .ok (.ifCond .ne off, 3)) (ht : (pc : Int) + off = (tgt : Int)) (h : (if x = 0 then B else A) = o) (kt : ¬ (x = 0) → A = o → G p l e R s m args below meth c nL Z y Q σ tgt lv st) (kf : x = 0 → B = o → G p l e R s m args below meth c nL Z y Q σ (pc + 3) lv st) : G p l e R s m args below meth c nL Z y Q σ pc lv (.int x :: st) := fun H locs ls a b d => lv_if_ne C.1 C.2.1 hd ht (fun hc => kt hc (by rw [← h, if_neg hc]) H locs ls a b d) (fun hc => kf hc (by rw [← h, if_pos hc]) H locs ls a b d)
theorem g_icmp_ne (C : Cx p s m args meth c cc nL Ts own ret Z y) {x z : Int32} {off : Int} {tgt : Nat} {α : Type} {A B o : α} (hd : decode cc pc = .ok (.if_icmp .ne off, 3)) (ht : (pc : Int) + off = (tgt : Int)) (h : (if x = z then B else A) = o) (kt : ¬ (x = z) → A = o → G p l e R s m args below meth c nL Z y Q σ tgt lv st) (kf : x = z → B = o → G p l e R s m args below meth c nL Z y Q σ (pc + 3) lv st) : G p l e R s m args below meth c nL Z y Q σ pc lv (.int z :: .int x :: st) := fun H locs ls a b d => lv_icmp_ne C.1 C.2.1 hd ht (fun hc => kt hc (by rw [← h, if_neg hc]) H locs ls a b d) (fun hc => kf hc (by rw [← h, if_pos hc]) H locs ls a b d)
theorem g_if_lt (C : Cx p s m args meth c cc nL Ts own ret Z y) {x : Int32} {off : Int} {tgt : Nat} {α : Type} {A B o : α} (hd : decode cc pc = .ok (.ifCond .lt off, 3)) (ht : (pc : Int) + off = (tgt : Int)) (h : (if x < 0 then A else B) = o) (kt : x < 0 → A = o → G p l e R s m args below meth c nL Z y Q σ tgt lv st) (kf : ¬ (x < 0) → B = o → G p l e R s m args below meth c nL Z y Q σ (pc + 3) lv st) : G p l e R s m args below meth c nL Z y Q σ pc lv (.int x :: st) := fun H locs ls a b d => lv_if_lt C.1 C.2.1 hd ht (fun hc => kt hc (by rw [← h, if_pos hc]) H locs ls a b d) (fun hc => kf hc (by rw [← h, if_neg hc]) H locs ls a b d)
theorem g_icmp_lt (C : Cx p s m args meth c cc nL Ts own ret Z y) {x z : Int32} {off : Int} {tgt : Nat} {α : Type} {A B o : α} (hd : decode cc pc = .ok (.if_icmp .lt off, 3)) (ht : (pc : Int) + off = (tgt : Int)) (h : (if x < z then A else B) = o) (kt : x < z → A = o → G p l e R s m args below meth c nL Z y Q σ tgt lv st) (kf : ¬ (x < z) → B = o → G p l e R s m args below meth c nL Z y Q σ (pc + 3) lv st) : G p l e R s m args below meth c nL Z y Q σ pc lv (.int z :: .int x :: st) := fun H locs ls a b d => lv_icmp_lt C.1 C.2.1 hd ht (fun hc => kt hc (by rw [← h, if_pos hc]) H locs ls a b d) (fun hc => kf hc (by rw [← h, if_neg hc]) H locs ls a b d)
theorem g_if_ge (C : Cx p s m args meth c cc nL Ts own ret Z y) {x : Int32} {off : Int} {tgt : Nat} {α : Type} {A B o : α} (hd : decode cc pc = .ok (.ifCond .ge off, 3)) (ht : (pc : Int) + off = (tgt : Int)) (h : (if 0 ≤ x then A else B) = o) (kt : 0 ≤ x → A = o → G p l e R s m args below meth c nL Z y Q σ tgt lv st) (kf : ¬ (0 ≤ x) → B = o → G p l e R s m args below meth c nL Z y Q σ (pc + 3) lv st) : G p l e R s m args below meth c nL Z y Q σ pc lv (.int x :: st) := fun H locs ls a b d => lv_if_ge C.1 C.2.1 hd ht (fun hc => kt hc (by rw [← h, if_pos hc]) H locs ls a b d) (fun hc => kf hc (by rw [← h, if_neg hc]) H locs ls a b d)
theorem g_icmp_ge (C : Cx p s m args meth c cc nL Ts own ret Z y) {x z : Int32} {off : Int} {tgt : Nat} {α : Type} {A B o : α} (hd : decode cc pc = .ok (.if_icmp .ge off, 3)) (ht : (pc : Int) + off = (tgt : Int)) (h : (if z ≤ x then A else B) = o) (kt : z ≤ x → A = o → G p l e R s m args below meth c nL Z y Q σ tgt lv st) (kf : ¬ (z ≤ x) → B = o → G p l e R s m args below meth c nL Z y Q σ (pc + 3) lv st) : G p l e R s m args below meth c nL Z y Q σ pc lv (.int z :: .int x :: st) := fun H locs ls a b d => lv_icmp_ge C.1 C.2.1 hd ht (fun hc => kt hc (by rw [← h, if_pos hc]) H locs ls a b d) (fun hc => kf hc (by rw [← h, if_neg hc]) H locs ls a b d)
theorem g_if_gt (C : Cx p s m args meth c cc nL Ts own ret Z y) {x : Int32} {off : Int} {tgt : Nat} {α : Type} {A B o : α} (hd : decode cc pc = .ok (.ifCond .gt off, 3)) (ht : (pc : Int) + off = (tgt : Int)) (h : (if 0 < x then A else B) = o) (kt : 0 < x → A = o → G p l e R s m args below meth c nL Z y Q σ tgt lv st) (kf : ¬ (0 < x) → B = o → G p l e R s m args below meth c nL Z y Q σ (pc + 3) lv st) : G p l e R s m args below meth c nL Z y Q σ pc lv (.int x :: st) := fun H locs ls a b d => lv_if_gt C.1 C.2.1 hd ht (fun hc => kt hc (by rw [← h, if_pos hc]) H locs ls a b d) (fun hc => kf hc (by rw [← h, if_neg hc]) H locs ls a b d)
theorem g_icmp_gt (C : Cx p s m args meth c cc nL Ts own ret Z y) {x z : Int32} {off : Int} {tgt : Nat} {α : Type} {A B o : α} (hd : decode cc pc = .ok (.if_icmp .gt off, 3)) (ht : (pc : Int) + off = (tgt : Int)) (h : (if z < x then A else B) = o) (kt : z < x → A = o → G p l e R s m args below meth c nL Z y Q σ tgt lv st) (kf : ¬ (z < x) → B = o → G p l e R s m args below meth c nL Z y Q σ (pc + 3) lv st) : G p l e R s m args below meth c nL Z y Q σ pc lv (.int z :: .int x :: st) := fun H locs ls a b d => lv_icmp_gt C.1 C.2.1 hd ht (fun hc => kt hc (by rw [← h, if_pos hc]) H locs ls a b d) (fun hc => kf hc (by rw [← h, if_neg hc]) H locs ls a b d)
theorem g_if_le (C : Cx p s m args meth c cc nL Ts own ret Z y) {x : Int32} {off : Int} {tgt : Nat} {α : Type} {A B o : α} (hd : decode cc pc = .ok (.ifCond .le off, 3)) (ht : (pc : Int) + off = (tgt : Int)) (h : (if x ≤ 0 then A else B) = o) (kt : x ≤ 0 → A = o → G p l e R s m args below meth c nL Z y Q σ tgt lv st) (kf : ¬ (x ≤ 0) → B = o → G p l e R s m args below meth c nL Z y Q σ (pc + 3) lv st) : G p l e R s m args below meth c nL Z y Q σ pc lv (.int x :: st) := fun H locs ls a b d => lv_if_le C.1 C.2.1 hd ht (fun hc => kt hc (by rw [← h, if_pos hc]) H locs ls a b d) (fun hc => kf hc (by rw [← h, if_neg hc]) H locs ls a b d)
theorem g_icmp_le (C : Cx p s m args meth c cc nL Ts own ret Z y) {x z : Int32} {off : Int} {tgt : Nat} {α : Type} {A B o : α} (hd : decode cc pc = .ok (.if_icmp .le off, 3)) (ht : (pc : Int) + off = (tgt : Int)) (h : (if x ≤ z then A else B) = o) (kt : x ≤ z → A = o → G p l e R s m args below meth c nL Z y Q σ tgt lv st) (kf : ¬ (x ≤ z) → B = o → G p l e R s m args below meth c nL Z y Q σ (pc + 3) lv st) : G p l e R s m args below meth c nL Z y Q σ pc lv (.int z :: .int x :: st) := fun H locs ls a b d => lv_icmp_le C.1 C.2.1 hd ht (fun hc => kt hc (by rw [← h, if_pos hc]) H locs ls a b d) (fun hc => kf hc (by rw [← h, if_neg hc]) H locs ls a b d)
theorem g_goto (C : Cx p s m args meth c cc nL Ts own ret Z y) {off : Int} {tgt : Nat} (hd : decode cc pc = .ok (.goto off, 3)) (ht : (pc : Int) + off = (tgt : Int)) (k : G p l e R s m args below meth c nL Z y Q σ tgt lv st) : G p l e R s m args below meth c nL Z y Q σ pc lv st := fun H locs ls a b d => lv_goto C.1 C.2.1 hd ht (k H locs ls a b d)
theorem g_sw (C : Cx p s m args meth c cc nL Ts own ret Z y) {x : Int32} {dflt lo hi off : Int} {offs : Array Int} {len tgt : Nat} {α : Type} {A B o : α} (v : Int32) (hd : decode cc pc = .ok (.tableswitch dflt lo hi offs, len)) (h1 : ¬ v.toInt < lo) (h2 : ¬ hi < v.toInt) (ho : offs[(v.toInt - lo).toNat]? = some off) (ht : (pc : Int) + off = (tgt : Int)) (h : (if x = v then A else B) = o) (kt : x = v → A = o → G p l e R s m args below meth c nL Z y Q σ tgt lv st) (kf : ¬ x = v → B = o → G p l e R s m args below meth c nL Z y Q σ pc lv (.int x :: st)) : G p l e R s m args below meth c nL Z y Q σ pc lv (.int x :: st) := by
  by_cases hc : x = v
  · rw [if_pos hc] at h
    exact fun H locs ls a b d => lv_tableIn C.1 C.2.1 hd (by rw [hc]; exact h1) (by rw [hc]; exact h2) (by rw [hc]; exact ho) ht (kt hc h H locs ls a b d)
  · rw [if_neg hc] at h
    exact kf hc h
theorem g_swd (C : Cx p s m args meth c cc nL Ts own ret Z y) {x : Int32} {dflt lo hi : Int} {offs : Array Int} {len tgt : Nat} (hd : decode cc pc = .ok (.tableswitch dflt lo hi offs, len)) (hc : x.toInt < lo ∨ hi < x.toInt) (ht : (pc : Int) + dflt = (tgt : Int)) (k : G p l e R s m args below meth c nL Z y Q σ tgt lv st) : G p l e R s m args below meth c nL Z y Q σ pc lv (.int x :: st) := fun H locs ls a b d => lv_tableOut C.1 C.2.1 hd hc ht (k H locs ls a b d)
theorem g_lsw (C : Cx p s m args meth c cc nL Ts own ret Z y) {x : Int32} {dflt off : Int} {ps : Array (Int × Int)} {len tgt : Nat} (hd : decode cc pc = .ok (.lookupswitch dflt ps, len)) (hp : (ps.toList.zip (ps.toList.drop 1)).all (fun (a, next) => a.1 < next.1) = true) (ho : Op.lookupswitch.offset ps.toList dflt x.toInt = off) (ht : (pc : Int) + off = (tgt : Int)) (k : G p l e R s m args below meth c nL Z y Q σ tgt lv st) : G p l e R s m args below meth c nL Z y Q σ pc lv (.int x :: st) := fun H locs ls a b d => lv_lookup C.1 C.2.1 hd hp ho ht (k H locs ls a b d)
theorem g_ldc (C : Cx p s m args meth c cc nL Ts own ret Z y) {index : Nat} {v : Int32} (hw : Cond.constant own index v ∈ Ts) (hd : decode cc pc = .ok (.ldc index, 2)) (k : G p l e R s m args below meth c nL Z y Q σ (pc + 2) lv (.int v :: st)) : G p l e R s m args below meth c nL Z y Q σ pc lv st := fun H locs ls a b d => lv_ldc C.1 C.2.1 C.2.2.2.2.1 (C.2.2.2.2.2.1 _ hw) hd (k H locs ls a b d)
theorem g_ldc2 (C : Cx p s m args meth c cc nL Ts own ret Z y) {index : Nat} {v : Int64} (hw : Cond.constantLong own index v ∈ Ts) (hd : decode cc pc = .ok (.ldc2_w index, 3)) (k : G p l e R s m args below meth c nL Z y Q σ (pc + 3) lv (.long v :: st)) : G p l e R s m args below meth c nL Z y Q σ pc lv st := fun H locs ls a b d => lv_ldc2 C.1 C.2.1 C.2.2.2.2.1 (C.2.2.2.2.2.1 _ hw) hd (k H locs ls a b d)
theorem g_ldcw (C : Cx p s m args meth c cc nL Ts own ret Z y) {index : Nat} {v : Int32} (hw : Cond.constant own index v ∈ Ts) (hd : decode cc pc = .ok (.ldc_w index, 3)) (k : G p l e R s m args below meth c nL Z y Q σ (pc + 3) lv (.int v :: st)) : G p l e R s m args below meth c nL Z y Q σ pc lv st := fun H locs ls a b d => lv_ldcw C.1 C.2.1 C.2.2.2.2.1 (C.2.2.2.2.2.1 _ hw) hd (k H locs ls a b d)
def imax (x z : Int32) : Int32 := if x < z then z else x
def imin (x z : Int32) : Int32 := if z < x then z else x
theorem g_mmax (C : Cx p s m args meth c cc nL Ts own ret Z y) {index : Nat} {x z : Int32} (h1 : Cond.methodLink own index Lib.Math.max.name ∈ Ts) (h2 : Cond.static Lib.Math.max.name ∈ Ts) (h3 : Cond.initialized "java/lang/Math" ∈ Ts) (h4 : Cond.code Lib.Math.max.name Lib.Math.max.code 2 (some .int) ∈ Ts) (h5 : 1 ≤ R.frames) (h6 : 21 ≤ R.locals) (hst : (st.map fun v => v.category).sum ≤ 8) (hd : decode cc pc = .ok (.invokestatic index, 3)) (k : G p l e R s m args below meth c nL Z y Q σ (pc + 3) lv (.int (imax x z) :: st)) : G p l e R s m args below meth c nL Z y Q σ pc lv (.int z :: .int x :: st) := fun H locs ls a b d => va_mmax C.1 C.2.1 (C.2.2.2.1.trans a.1.symm) C.2.2.2.2.1 (C.2.2.2.2.2.1 _ h1) (C.2.2.2.2.2.1 _ h2) (C.2.2.2.2.2.1 _ h3) (C.2.2.2.2.2.1 _ h4) h5 (by omega) (Nat.zero_le _) (Nat.zero_le _) hd (k H locs ls a b d)
theorem g_mmin (C : Cx p s m args meth c cc nL Ts own ret Z y) {index : Nat} {x z : Int32} (h1 : Cond.methodLink own index Lib.Math.min.name ∈ Ts) (h2 : Cond.static Lib.Math.min.name ∈ Ts) (h3 : Cond.initialized "java/lang/Math" ∈ Ts) (h4 : Cond.code Lib.Math.min.name Lib.Math.min.code 2 (some .int) ∈ Ts) (h5 : 1 ≤ R.frames) (h6 : 21 ≤ R.locals) (hst : (st.map fun v => v.category).sum ≤ 8) (hd : decode cc pc = .ok (.invokestatic index, 3)) (k : G p l e R s m args below meth c nL Z y Q σ (pc + 3) lv (.int (imin x z) :: st)) : G p l e R s m args below meth c nL Z y Q σ pc lv (.int z :: .int x :: st) := fun H locs ls a b d => va_mmin C.1 C.2.1 (C.2.2.2.1.trans a.1.symm) C.2.2.2.2.1 (C.2.2.2.2.2.1 _ h1) (C.2.2.2.2.2.1 _ h2) (C.2.2.2.2.2.1 _ h3) (C.2.2.2.2.2.1 _ h4) h5 (by omega) (Nat.zero_le _) (Nat.zero_le _) hd (k H locs ls a b d)
theorem g_geti (C : Cx p s m args meth c cc nL Ts own ret Z y) {Cn : String} {T : u_T} {N ci k j index : Nat} {fs : List (Option Nat)} (hin : ∀ w ∈ u_ws Cn T N, w ∈ Ts) (hk : y[k]? = some (.inl (ci, fs))) (hc : vwCl[ci]? = some (Cn, T, N)) (hj : j < N) (hw : Cond.fieldLink own index (T j).1 (T j).2.1 (T j).2.2.1 ∈ Ts) {q : Nat} (hf : fs[j]? = some (none)) (hd : decode cc pc = .ok (.getfield index, 3)) (k2 : G p l e R s m args below meth c nL Z y Q σ (pc + 3) lv (.int (σ k j) :: st)) : G p l e R s m args below meth c nL Z y Q σ pc lv (.ref (ad Z k) :: st) := fun H locs ls a b d => va_get (D := Z.1) (ws := wl Z y σ) C.1 C.2.1 C.2.2.2.2.2.1 hin C.2.2.2.2.1 C.2.2.2.2.2.2.2.1 b k (wl_get hk) hc j hj (C.2.2.2.2.2.1 _ hw) (fun _ h9 => h9) (by have h9 := fv_int (Z := Z) (g := σ k) (i := 0) hf; rwa [Nat.zero_add] at h9) hd (k2 H locs ls a b d)
theorem g_getr (C : Cx p s m args meth c cc nL Ts own ret Z y) {Cn : String} {T : u_T} {N ci k j index : Nat} {fs : List (Option Nat)} (hin : ∀ w ∈ u_ws Cn T N, w ∈ Ts) (hk : y[k]? = some (.inl (ci, fs))) (hc : vwCl[ci]? = some (Cn, T, N)) (hj : j < N) (hw : Cond.fieldLink own index (T j).1 (T j).2.1 (T j).2.2.1 ∈ Ts) {q : Nat} (hf : fs[j]? = some (some q)) (hd : decode cc pc = .ok (.getfield index, 3)) (k2 : G p l e R s m args below meth c nL Z y Q σ (pc + 3) lv (.ref (ad Z q) :: st)) : G p l e R s m args below meth c nL Z y Q σ pc lv (.ref (ad Z k) :: st) := fun H locs ls a b d => va_get (D := Z.1) (ws := wl Z y σ) C.1 C.2.1 C.2.2.2.2.2.1 hin C.2.2.2.2.1 C.2.2.2.2.2.2.2.1 b k (wl_get hk) hc j hj (C.2.2.2.2.2.1 _ hw) (fun _ h9 => h9) (fv_ref hf) hd (k2 H locs ls a b d)
theorem g_puti (C : Cx p s m args meth c cc nL Ts own ret Z y) {Cn : String} {T : u_T} {N ci k j index : Nat} {fs : List (Option Nat)} (hin : ∀ w ∈ u_ws Cn T N, w ∈ Ts) (hk : y[k]? = some (.inl (ci, fs))) (hc : vwCl[ci]? = some (Cn, T, N)) (hj : j < N) (hw : Cond.fieldLink own index (T j).1 (T j).2.1 (T j).2.2.1 ∈ Ts) {σ1 : Sg} {v : Int32} (ty0 : Nat → FieldType) (hty : ∀ k, k < N → parseFieldDescriptor (T k).2.2.1 = some (ty0 k)) (hnm : ∀ a, a < N → ∀ b, b < N → a ≠ b → (T a).2.1 ≠ (T b).2.1) (hfin : (T j).2.2.2 = false) (hpd : parseFieldDescriptor (T j).2.2.1 = some (.int)) (hf : fs[j]? = some none) (hv : pf σ k j v = some σ1) (hd : decode cc pc = .ok (.putfield index, 3)) (k2 : G p l e R s m args below meth c nL Z y Q σ1 (pc + 3) lv st) : G p l e R s m args below meth c nL Z y Q σ pc lv (.int v :: .ref (ad Z k) :: st) := by
  cases hv
  intro H locs ls a b d
  refine va_put (D := Z.1) (ws := wl Z y σ) C.1 C.2.1 C.2.2.2.2.2.1 hin ty0 hty hnm C.2.2.2.2.1 C.2.2.2.2.2.2.2.1 b (pDD C.2.2.2.2.2.2.2.2.2.2) d k (wl_get hk) hc j hj (C.2.2.2.2.2.1 _ hw) (fun _ h9 => h9) hfin hpd rfl rfl (by rw [fv_len]; exact (List.getElem?_eq_some_iff.mp hf).1) hd (fun H1 locs1 b1 _ d1 => ?_)
  rw [wl_seto hk hf] at b1
  exact k2 H1 locs1 ls a b1 d1
theorem g_putz (C : Cx p s m args meth c cc nL Ts own ret Z y) {Cn : String} {T : u_T} {N ci k j index : Nat} {fs : List (Option Nat)} (hin : ∀ w ∈ u_ws Cn T N, w ∈ Ts) (hk : y[k]? = some (.inl (ci, fs))) (hc : vwCl[ci]? = some (Cn, T, N)) (hj : j < N) (hw : Cond.fieldLink own index (T j).1 (T j).2.1 (T j).2.2.1 ∈ Ts) {σ1 : Sg} {v : Int32} (ty0 : Nat → FieldType) (hty : ∀ k, k < N → parseFieldDescriptor (T k).2.2.1 = some (ty0 k)) (hnm : ∀ a, a < N → ∀ b, b < N → a ≠ b → (T a).2.1 ≠ (T b).2.1) (hfin : (T j).2.2.2 = false) (hpd : parseFieldDescriptor (T j).2.2.1 = some (.boolean)) (hf : fs[j]? = some none) (hv : pz σ k j v = some σ1) (hd : decode cc pc = .ok (.putfield index, 3)) (k2 : G p l e R s m args below meth c nL Z y Q σ1 (pc + 3) lv st) : G p l e R s m args below meth c nL Z y Q σ pc lv (.int v :: .ref (ad Z k) :: st) := by
  obtain ⟨hz, rfl⟩ := pz_in hv
  intro H locs ls a b d
  refine va_put (D := Z.1) (ws := wl Z y σ) C.1 C.2.1 C.2.2.2.2.2.1 hin ty0 hty hnm C.2.2.2.2.1 C.2.2.2.2.2.2.2.1 b (pDD C.2.2.2.2.2.2.2.2.2.2) d k (wl_get hk) hc j hj (C.2.2.2.2.2.1 _ hw) (fun _ h9 => h9) hfin hpd (z_nar hz) (z_fit hz) (by rw [fv_len]; exact (List.getElem?_eq_some_iff.mp hf).1) hd (fun H1 locs1 b1 _ d1 => ?_)
  rw [wl_seto hk hf] at b1
  exact k2 H1 locs1 ls a b1 d1
theorem g_getiN (C : Cx p s m args meth c cc nL Ts own ret Z y) {Cn : String} {T : u_T} {N ci k j index : Nat} {fs : List (Option Nat)} (hin : ∀ w ∈ u_ws Cn T N, w ∈ Ts) (hk : y[k]? = some (.inl (ci, fs))) (hc : vwCl[ci]? = some (Cn, T, N)) (hj : j < N) {host : String} (hw : Cond.fieldLinkNest own index (T j).1 (T j).2.1 (T j).2.2.1 host ∈ Nst) {q : Nat} (hf : fs[j]? = some (none)) (hd : decode cc pc = .ok (.getfield index, 3)) (k2 : G p l e R s m args below meth c nL Z y Q σ (pc + 3) lv (.int (σ k j) :: st)) : G p l e R s m args below meth c nL Z y Q σ pc lv (.ref (ad Z k) :: st) := fun H locs ls a b d => va_getN (D := Z.1) (ws := wl Z y σ) C.1 C.2.1 C.2.2.2.2.2.1 hin C.2.2.2.2.1 C.2.2.2.2.2.2.2.1 b k (wl_get hk) hc j hj (va_Nw.use rfl (C.2.2.2.2.2.2.2.2.1 _ hw)) (fun _ h9 => h9) (by have h9 := fv_int (Z := Z) (g := σ k) (i := 0) hf; rwa [Nat.zero_add] at h9) hd (k2 H locs ls a b d)
theorem g_getrN (C : Cx p s m args meth c cc nL Ts own ret Z y) {Cn : String} {T : u_T} {N ci k j index : Nat} {fs : List (Option Nat)} (hin : ∀ w ∈ u_ws Cn T N, w ∈ Ts) (hk : y[k]? = some (.inl (ci, fs))) (hc : vwCl[ci]? = some (Cn, T, N)) (hj : j < N) {host : String} (hw : Cond.fieldLinkNest own index (T j).1 (T j).2.1 (T j).2.2.1 host ∈ Nst) {q : Nat} (hf : fs[j]? = some (some q)) (hd : decode cc pc = .ok (.getfield index, 3)) (k2 : G p l e R s m args below meth c nL Z y Q σ (pc + 3) lv (.ref (ad Z q) :: st)) : G p l e R s m args below meth c nL Z y Q σ pc lv (.ref (ad Z k) :: st) := fun H locs ls a b d => va_getN (D := Z.1) (ws := wl Z y σ) C.1 C.2.1 C.2.2.2.2.2.1 hin C.2.2.2.2.1 C.2.2.2.2.2.2.2.1 b k (wl_get hk) hc j hj (va_Nw.use rfl (C.2.2.2.2.2.2.2.2.1 _ hw)) (fun _ h9 => h9) (fv_ref hf) hd (k2 H locs ls a b d)
theorem g_putiN (C : Cx p s m args meth c cc nL Ts own ret Z y) {Cn : String} {T : u_T} {N ci k j index : Nat} {fs : List (Option Nat)} (hin : ∀ w ∈ u_ws Cn T N, w ∈ Ts) (hk : y[k]? = some (.inl (ci, fs))) (hc : vwCl[ci]? = some (Cn, T, N)) (hj : j < N) {host : String} (hw : Cond.fieldLinkNest own index (T j).1 (T j).2.1 (T j).2.2.1 host ∈ Nst) {σ1 : Sg} {v : Int32} (ty0 : Nat → FieldType) (hty : ∀ k, k < N → parseFieldDescriptor (T k).2.2.1 = some (ty0 k)) (hnm : ∀ a, a < N → ∀ b, b < N → a ≠ b → (T a).2.1 ≠ (T b).2.1) (hfin : (T j).2.2.2 = false) (hpd : parseFieldDescriptor (T j).2.2.1 = some (.int)) (hf : fs[j]? = some none) (hv : pf σ k j v = some σ1) (hd : decode cc pc = .ok (.putfield index, 3)) (k2 : G p l e R s m args below meth c nL Z y Q σ1 (pc + 3) lv st) : G p l e R s m args below meth c nL Z y Q σ pc lv (.int v :: .ref (ad Z k) :: st) := by
  cases hv
  intro H locs ls a b d
  refine va_putN (D := Z.1) (ws := wl Z y σ) C.1 C.2.1 C.2.2.2.2.2.1 hin ty0 hty hnm C.2.2.2.2.1 C.2.2.2.2.2.2.2.1 b (pDD C.2.2.2.2.2.2.2.2.2.2) d k (wl_get hk) hc j hj (va_Nw.use rfl (C.2.2.2.2.2.2.2.2.1 _ hw)) (fun _ h9 => h9) hfin hpd rfl rfl (by rw [fv_len]; exact (List.getElem?_eq_some_iff.mp hf).1) hd (fun H1 locs1 b1 _ d1 => ?_)
  rw [wl_seto hk hf] at b1
  exact k2 H1 locs1 ls a b1 d1
theorem g_putzN (C : Cx p s m args meth c cc nL Ts own ret Z y) {Cn : String} {T : u_T} {N ci k j index : Nat} {fs : List (Option Nat)} (hin : ∀ w ∈ u_ws Cn T N, w ∈ Ts) (hk : y[k]? = some (.inl (ci, fs))) (hc : vwCl[ci]? = some (Cn, T, N)) (hj : j < N) {host : String} (hw : Cond.fieldLinkNest own index (T j).1 (T j).2.1 (T j).2.2.1 host ∈ Nst) {σ1 : Sg} {v : Int32} (ty0 : Nat → FieldType) (hty : ∀ k, k < N → parseFieldDescriptor (T k).2.2.1 = some (ty0 k)) (hnm : ∀ a, a < N → ∀ b, b < N → a ≠ b → (T a).2.1 ≠ (T b).2.1) (hfin : (T j).2.2.2 = false) (hpd : parseFieldDescriptor (T j).2.2.1 = some (.boolean)) (hf : fs[j]? = some none) (hv : pz σ k j v = some σ1) (hd : decode cc pc = .ok (.putfield index, 3)) (k2 : G p l e R s m args below meth c nL Z y Q σ1 (pc + 3) lv st) : G p l e R s m args below meth c nL Z y Q σ pc lv (.int v :: .ref (ad Z k) :: st) := by
  obtain ⟨hz, rfl⟩ := pz_in hv
  intro H locs ls a b d
  refine va_putN (D := Z.1) (ws := wl Z y σ) C.1 C.2.1 C.2.2.2.2.2.1 hin ty0 hty hnm C.2.2.2.2.1 C.2.2.2.2.2.2.2.1 b (pDD C.2.2.2.2.2.2.2.2.2.2) d k (wl_get hk) hc j hj (va_Nw.use rfl (C.2.2.2.2.2.2.2.2.1 _ hw)) (fun _ h9 => h9) hfin hpd (z_nar hz) (z_fit hz) (by rw [fv_len]; exact (List.getElem?_eq_some_iff.mp hf).1) hd (fun H1 locs1 b1 _ d1 => ?_)
  rw [wl_seto hk hf] at b1
  exact k2 H1 locs1 ls a b1 d1
theorem g_iald (C : Cx p s m args meth c cc nL Ts own ret Z y) {k n : Nat} {i v : Int32} (hk : y[k]? = some (.inr (.inl (1, n)))) (hv : rd (σ k) n i = some v) (hd : decode cc pc = .ok (.iaload, 1)) (k2 : G p l e R s m args below meth c nL Z y Q σ (pc + 1) lv (.int v :: st)) : G p l e R s m args below meth c nL Z y Q σ pc lv (.int i :: .ref (ad Z k) :: st) := by
  obtain ⟨h1, rfl⟩ := rd_in hv
  exact fun H locs ls a b d => va_iald (D := Z.1) (ws := wl Z y σ) C.1 C.2.1 C.2.2.2.2.2.2.2.1 b k 1 (wl_get hk) rfl h1 hd (k2 H locs ls a b d)
theorem g_zald (C : Cx p s m args meth c cc nL Ts own ret Z y) {k n : Nat} {i v : Int32} (hk : y[k]? = some (.inr (.inl (2, n)))) (hv : rd (σ k) n i = some v) (hd : decode cc pc = .ok (.baload, 1)) (k2 : G p l e R s m args below meth c nL Z y Q σ (pc + 1) lv (.int v :: st)) : G p l e R s m args below meth c nL Z y Q σ pc lv (.int i :: .ref (ad Z k) :: st) := by
  obtain ⟨h1, rfl⟩ := rd_in hv
  exact fun H locs ls a b d => va_zald (D := Z.1) (ws := wl Z y σ) C.1 C.2.1 C.2.2.2.2.2.2.2.1 b k 2 (wl_get hk) rfl h1 hd (k2 H locs ls a b d)
theorem g_cald (C : Cx p s m args meth c cc nL Ts own ret Z y) {k n : Nat} {i v : Int32} (hk : y[k]? = some (.inr (.inl (0, n)))) (hv : rd (σ k) n i = some v) (hd : decode cc pc = .ok (.caload, 1)) (k2 : G p l e R s m args below meth c nL Z y Q σ (pc + 1) lv (.int v :: st)) : G p l e R s m args below meth c nL Z y Q σ pc lv (.int i :: .ref (ad Z k) :: st) := by
  obtain ⟨h1, rfl⟩ := rd_in hv
  exact fun H locs ls a b d => va_cald (D := Z.1) (ws := wl Z y σ) C.1 C.2.1 C.2.2.2.2.2.2.2.1 b k 0 (wl_get hk) rfl h1 hd (k2 H locs ls a b d)
theorem g_iast (C : Cx p s m args meth c cc nL Ts own ret Z y) {k n : Nat} {i v : Int32} {σ1 : Sg} (hk : y[k]? = some (.inr (.inl (1, n)))) (hv : wr σ k n i v = some σ1) (hd : decode cc pc = .ok (.iastore, 1)) (k2 : G p l e R s m args below meth c nL Z y Q σ1 (pc + 1) lv st) : G p l e R s m args below meth c nL Z y Q σ pc lv (.int v :: .int i :: .ref (ad Z k) :: st) := by
  obtain ⟨h1, rfl⟩ := wr_in hv
  intro H locs ls a b d
  refine va_iast (D := Z.1) (ws := wl Z y σ) C.1 C.2.1 C.2.2.2.2.2.2.2.1 b (pDD C.2.2.2.2.2.2.2.2.2.2) d k 1 (wl_get hk) rfl h1 hd (fun H1 locs1 b1 _ d1 => ?_)
  rw [wl_seta hk] at b1
  exact k2 H1 locs1 ls a b1 d1
theorem g_zast (C : Cx p s m args meth c cc nL Ts own ret Z y) {k n : Nat} {i v : Int32} {σ1 : Sg} (hk : y[k]? = some (.inr (.inl (2, n)))) (hv : wr σ k n i (vp_nar .boolean v) = some σ1) (hd : decode cc pc = .ok (.bastore, 1)) (k2 : G p l e R s m args below meth c nL Z y Q σ1 (pc + 1) lv st) : G p l e R s m args below meth c nL Z y Q σ pc lv (.int v :: .int i :: .ref (ad Z k) :: st) := by
  obtain ⟨h1, rfl⟩ := wr_in hv
  intro H locs ls a b d
  refine va_zast (D := Z.1) (ws := wl Z y σ) C.1 C.2.1 C.2.2.2.2.2.2.2.1 b (pDD C.2.2.2.2.2.2.2.2.2.2) d k 2 (wl_get hk) rfl h1 hd (fun H1 locs1 b1 _ d1 => ?_)
  rw [wl_seta hk] at b1
  exact k2 H1 locs1 ls a b1 d1
theorem g_cast (C : Cx p s m args meth c cc nL Ts own ret Z y) {k n : Nat} {i v : Int32} {σ1 : Sg} (hk : y[k]? = some (.inr (.inl (0, n)))) (hv : wr σ k n i (vp_nar .char v) = some σ1) (hd : decode cc pc = .ok (.castore, 1)) (k2 : G p l e R s m args below meth c nL Z y Q σ1 (pc + 1) lv st) : G p l e R s m args below meth c nL Z y Q σ pc lv (.int v :: .int i :: .ref (ad Z k) :: st) := by
  obtain ⟨h1, rfl⟩ := wr_in hv
  intro H locs ls a b d
  refine va_cast (D := Z.1) (ws := wl Z y σ) C.1 C.2.1 C.2.2.2.2.2.2.2.1 b (pDD C.2.2.2.2.2.2.2.2.2.2) d k 0 (wl_get hk) rfl h1 hd (fun H1 locs1 b1 _ d1 => ?_)
  rw [wl_seta hk] at b1
  exact k2 H1 locs1 ls a b1 d1
theorem g_aald (C : Cx p s m args meth c cc nL Ts own ret Z y) {k t q : Nat} {D : String} {l2 : List Nat} {i : Int32} (hk : y[k]? = some (.inr (.inr (t, l2)))) (ht : (tyl Z)[t]? = some (Z.2.1 t, .object D)) (hv : rx l2 i = some q) (hd : decode cc pc = .ok (.aaload, 1)) (k2 : G p l e R s m args below meth c nL Z y Q σ (pc + 1) lv (.ref (ad Z q) :: st)) : G p l e R s m args below meth c nL Z y Q σ pc lv (.int i :: .ref (ad Z k) :: st) := by
  obtain ⟨h1, h2⟩ := rx_in hv
  intro H locs ls a b d
  refine va_aldq (D := Z.1) (ws := wl Z y σ) C.1 C.2.1 C.2.2.2.2.2.2.2.1 b k t (wl_get hk) ht h1 hd ?_
  simp only [h2, Option.map]
  exact k2 H locs ls a b d
theorem g_alen (C : Cx p s m args meth c cc nL Ts own ret Z y) {k t n : Nat} {ty : FieldType} {v : Int32} (hk : y[k]? = some (.inr (.inl (t, n)))) (ht : (tyl Z)[t]? = some (Z.2.1 t, ty)) (hv : Int32.ofNat n = v) (hd : decode cc pc = .ok (.arraylength, 1)) (k2 : G p l e R s m args below meth c nL Z y Q σ (pc + 1) lv (.int v :: st)) : G p l e R s m args below meth c nL Z y Q σ pc lv (.ref (ad Z k) :: st) := fun H locs ls a b d => va_alen (D := Z.1) (ws := wl Z y σ) C.1 C.2.1 C.2.2.2.2.2.2.2.1 b k t (wl_get hk) ht hv hd (k2 H locs ls a b d)
theorem g_lk (C : Cx p s m args meth c cc nL Ts own ret Z y) {x : Int32} {dflt off : Int} {ps : Array (Int × Int)} {len tgt : Nat} {α : Type} {A B o : α} (v : Int32) (hd : decode cc pc = .ok (.lookupswitch dflt ps, len)) (hp : (ps.toList.zip (ps.toList.drop 1)).all (fun (a, next) => a.1 < next.1) = true) (ho : Op.lookupswitch.offset ps.toList dflt v.toInt = off) (ht : (pc : Int) + off = (tgt : Int)) (h : (if x = v then A else B) = o) (kt : x = v → A = o → G p l e R s m args below meth c nL Z y Q σ tgt lv st) (kf : ¬ x = v → B = o → G p l e R s m args below meth c nL Z y Q σ pc lv (.int x :: st)) : G p l e R s m args below meth c nL Z y Q σ pc lv (.int x :: st) := by
  by_cases hc : x = v
  · rw [if_pos hc] at h
    exact g_lsw C hd hp (by rw [hc]; exact ho) ht (kt hc h)
  · rw [if_neg hc] at h
    exact kf hc h
theorem g_gso (C : Cx p s m args meth c cc nL Ts own ret Z y) {index : Nat} (hw : Cond.fieldLink own index "MoundVotes$Players" "ORDERS" "[I" ∈ Ts) (hd : decode cc pc = .ok (.getstatic index, 3)) (k : G p l e R s m args below meth c nL Z y Q σ (pc + 3) lv (.ref (oA Z) :: st)) : G p l e R s m args below meth c nL Z y Q σ pc lv st := fun H locs ls a b d => va_gets C.1 C.2.1 C.2.2.2.2.2.2.2.2.2.1.2.2.2.1 d C.2.2.2.2.1 (C.2.2.2.2.2.1 _ hw) (fun _ h => h) hd (k H locs ls a b d)
theorem g_gsp (C : Cx p s m args meth c cc nL Ts own ret Z y) {index : Nat} (hw : Cond.fieldLink own index "MoundVotes$Players" "PARTS" "[I" ∈ Ts) (hd : decode cc pc = .ok (.getstatic index, 3)) (k : G p l e R s m args below meth c nL Z y Q σ (pc + 3) lv (.ref (oB Z) :: st)) : G p l e R s m args below meth c nL Z y Q σ pc lv st := fun H locs ls a b d => va_gets C.1 C.2.1 C.2.2.2.2.2.2.2.2.2.1.2.2.2.2.2.2.1 d C.2.2.2.2.1 (C.2.2.2.2.2.1 _ hw) (fun _ h => h) hd (k H locs ls a b d)
theorem g_gsc (C : Cx p s m args meth c cc nL Ts own ret Z y) {index : Nat} (hw : Cond.fieldLink own index "java/lang/String" "COMPACT_STRINGS" "Z" ∈ Ts) (hd : decode cc pc = .ok (.getstatic index, 3)) (k : G p l e R s m args below meth c nL Z y Q σ (pc + 3) lv (.int 1 :: st)) : G p l e R s m args below meth c nL Z y Q σ pc lv st := fun H locs ls a b d => va_gets C.1 C.2.1 C.2.2.2.2.2.2.2.2.2.1.2.1 d C.2.2.2.2.1 (C.2.2.2.2.2.1 _ hw) (fun _ h => h) hd (k H locs ls a b d)
theorem g_gsq (C : Cx p s m args meth c cc nL Ts own ret Z y) {index : Nat} (hw : Cond.fieldLink own index "jdk/internal/util/Preconditions" "SIOOBE_FORMATTER" "Ljava/util/function/BiFunction;" ∈ Ts) (hd : decode cc pc = .ok (.getstatic index, 3)) (k : ∀ r : Option Nat, G p l e R s m args below meth c nL Z y Q σ (pc + 3) lv (va_rf r :: st)) : G p l e R s m args below meth c nL Z y Q σ pc lv st := by
  intro H locs ls a b d
  rcases C.2.2.2.2.2.2.2.2.2.1.2.2.1 with hz | ⟨t, hz⟩
  · exact va_gets C.1 C.2.1 hz d C.2.2.2.2.1 (C.2.2.2.2.2.1 _ hw) (fun _ h => h) hd (k none H locs ls a b d)
  · exact va_gets C.1 C.2.1 hz d C.2.2.2.2.1 (C.2.2.2.2.2.1 _ hw) (fun _ h => h) hd (k (some t) H locs ls a b d)
theorem g_ord (C : Cx p s m args meth c cc nL Ts own ret Z y) {i v : Int32} (hv : rd ordF 11 i = some v) (hd : decode cc pc = .ok (.iaload, 1)) (k : G p l e R s m args below meth c nL Z y Q σ (pc + 1) lv (.int v :: st)) : G p l e R s m args below meth c nL Z y Q σ pc lv (.int i :: .ref (oA Z) :: st) := by
  obtain ⟨h1, rfl⟩ := rd_in hv
  exact fun H locs ls a b d => va_ti C.1 C.2.1 C.2.2.2.2.2.2.2.2.2.1.2.2.2.2.1 d h1 rfl hd (k H locs ls a b d)
theorem g_prt (C : Cx p s m args meth c cc nL Ts own ret Z y) {i v : Int32} (hv : rd prtF 11 i = some v) (hd : decode cc pc = .ok (.iaload, 1)) (k : G p l e R s m args below meth c nL Z y Q σ (pc + 1) lv (.int v :: st)) : G p l e R s m args below meth c nL Z y Q σ pc lv (.int i :: .ref (oB Z) :: st) := by
  obtain ⟨h1, rfl⟩ := rd_in hv
  exact fun H locs ls a b d => va_ti C.1 C.2.1 C.2.2.2.2.2.2.2.2.2.1.2.2.2.2.2.2.2 d h1 rfl hd (k H locs ls a b d)
theorem g_ldcS (C : Cx p s m args meth c cc nL Ts RX1 ret Z y) {i index : Nat} (hi : i < 6) (hx : idxS.getD i 0 = index) (hd : decode cc pc = .ok (.ldc index, 2)) (k : G p l e R s m args below meth c nL Z y Q σ (pc + 2) lv (.ref (sK Z i) :: st)) : G p l e R s m args below meth c nL Z y Q σ pc lv st := by
  subst hx
  exact fun H locs ls a b d => va_ldcS C.1 C.2.1 C.2.2.2.2.1 (C.2.2.2.2.2.2.2.2.2.1.2.2.2.2.2.1 i hi) hd (k H locs ls a b d)
theorem g_sgv (C : Cx p s m args meth c cc nL Ts own ret Z y) {i index : Nat} (hi : i < 6) (hw : Cond.fieldLink own index "java/lang/String" "value" "[B" ∈ Ts) (hd : decode cc pc = .ok (.getfield index, 3)) (k : G p l e R s m args below meth c nL Z y Q σ (pc + 3) lv (.ref (sV Z i) :: st)) : G p l e R s m args below meth c nL Z y Q σ pc lv (.ref (sK Z i) :: st) := fun H locs ls a b d => vk_getf C.1 C.2.1 (C.2.2.2.2.2.2.2.2.2.1.1.1 i hi).2.2.1 d C.2.2.2.2.1 (C.2.2.2.2.2.1 _ hw) (fun _ h => h) hd (k H locs ls a b d)
theorem g_sgc (C : Cx p s m args meth c cc nL Ts own ret Z y) {i index : Nat} (hi : i < 6) (hw : Cond.fieldLink own index "java/lang/String" "coder" "B" ∈ Ts) (hd : decode cc pc = .ok (.getfield index, 3)) (k : G p l e R s m args below meth c nL Z y Q σ (pc + 3) lv (.int 0 :: st)) : G p l e R s m args below meth c nL Z y Q σ pc lv (.ref (sK Z i) :: st) := fun H locs ls a b d => vk_getf C.1 C.2.1 (C.2.2.2.2.2.2.2.2.2.1.1.1 i hi).2.1 d C.2.2.2.2.1 (C.2.2.2.2.2.1 _ hw) (fun _ h => h) hd (k H locs ls a b d)
theorem g_slen (C : Cx p s m args meth c cc nL Ts own ret Z y) {i : Nat} (hi : i < 6) (hd : decode cc pc = .ok (.arraylength, 1)) (k : G p l e R s m args below meth c nL Z y Q σ (pc + 1) lv (.int (sLen i) :: st)) : G p l e R s m args below meth c nL Z y Q σ pc lv (.ref (sV Z i) :: st) := fun H locs ls a b d => va_tlen C.1 C.2.1 (C.2.2.2.2.2.2.2.2.2.1.1.1 i hi).2.2.2 d rfl hd (k H locs ls a b d)
theorem g_sald (C : Cx p s m args meth c cc nL Ts own ret Z y) {i : Nat} {j v : Int32} (hi : i < 6) (hv : rd (sBy i) (lenS.getD i 0) j = some v) (hd : decode cc pc = .ok (.baload, 1)) (k : G p l e R s m args below meth c nL Z y Q σ (pc + 1) lv (.int v :: st)) : G p l e R s m args below meth c nL Z y Q σ pc lv (.int j :: .ref (sV Z i) :: st) := by
  obtain ⟨h1, rfl⟩ := rd_in hv
  exact fun H locs ls a b d => va_tb C.1 C.2.1 (C.2.2.2.2.2.2.2.2.2.1.1.1 i hi).2.2.2 d h1 rfl hd (k H locs ls a b d)
theorem g_sub {lv2 : List (Nat × Value)} (ks : List Nat) (hl : lv_pick lv ks = lv2) (k : G p l e R s m args below meth c nL Z y Q σ pc lv2 st) : G p l e R s m args below meth c nL Z y Q σ pc lv st := fun H locs ls a b d => k H locs ls (lv_sub a ks hl) b d
theorem g_at {pc2 : Nat} (h : pc = pc2) (k : G p l e R s m args below meth c nL Z y Q σ pc2 lv st) : G p l e R s m args below meth c nL Z y Q σ pc lv st := h ▸ k
end GR
section GRet
variable {p : Program} {l : Launch} {e : Env} {R : Room} {s : State} {m : MethodId} {args : Array Value} {below : List Frame} {meth : Method} {c : Code} {nL : Nat} {Z : Sh} {y : Ly} {σ σ' : Sg} {pc : Nat} {lv : List (Nat × Value)} {cc : ByteArray} {Ts : List Cond} {own : String}
theorem g_iret (C : Cx p s m args meth c cc nL Ts own (some .int) Z y) {v r : Int32} (hd : decode cc pc = .ok (.ireturn, 1)) (hs : σ = σ') (h : v = r) : G p l e R s m args below meth c nL Z y (MQ below (QI Z y σ' r s.heap.size) args s 0 0 (pA Z y s.heap.size)) σ pc lv [.int v] := by
  subst hs; subst h
  exact fun H locs ls a b d => W.iret C.1 C.2.1 C.2.2.1 (fun t ht hW => ⟨⟨v, (), rfl, rfl, by show va_P _ _ _ t.heap; rw [ht]; exact b⟩, d.F ht⟩) d.2.2 hd C.2.2.2.2.2.2.1
theorem rz_in {v r : Int32} (h : rz v = some r) : (v = 0 ∨ v = 1) ∧ v = r := by
  unfold rz at h
  by_cases hc : v = 0 ∨ v = 1
  · rw [if_pos hc] at h; cases h; exact ⟨hc, rfl⟩
  · rw [if_neg hc] at h; cases h
theorem g_zret (C : Cx p s m args meth c cc nL Ts own (some .boolean) Z y) {v r : Int32} (hd : decode cc pc = .ok (.ireturn, 1)) (hs : σ = σ') (h : rz v = some r) : G p l e R s m args below meth c nL Z y (MQ below (QI Z y σ' r s.heap.size) args s 0 0 (pA Z y s.heap.size)) σ pc lv [.int v] := by
  obtain ⟨hz, rfl⟩ := rz_in h
  subst hs
  exact fun H locs ls a b d => W.zret C.1 C.2.1 C.2.2.1 (z_nar hz) (fun t ht hW => ⟨⟨v, (), rfl, rfl, by show va_P _ _ _ t.heap; rw [ht]; exact b⟩, d.F ht⟩) d.2.2 hd C.2.2.2.2.2.2.1
theorem rc_in {v r : Int32} (h : rc v = some r) : narrow .char (.int v) = .int v ∧ v = r := by
  unfold rc at h
  by_cases hc : vp_nar .char v = v
  · rw [if_pos hc] at h; cases h
    refine ⟨?_, rfl⟩
    have h1 : narrow .char (.int v) = .int (vp_nar .char v) := rfl
    rw [h1, hc]
  · rw [if_neg hc] at h; cases h
theorem g_cret (C : Cx p s m args meth c cc nL Ts own (some .char) Z y) {v r : Int32} (hd : decode cc pc = .ok (.ireturn, 1)) (hs : σ = σ') (h : rc v = some r) : G p l e R s m args below meth c nL Z y (MQ below (QI Z y σ' r s.heap.size) args s 0 0 (pA Z y s.heap.size)) σ pc lv [.int v] := by
  obtain ⟨hz, rfl⟩ := rc_in h
  subst hs
  exact fun H locs ls a b d => W.zret C.1 C.2.1 C.2.2.1 hz (fun t ht hW => ⟨⟨v, (), rfl, rfl, by show va_P _ _ _ t.heap; rw [ht]; exact b⟩, d.F ht⟩) d.2.2 hd C.2.2.2.2.2.2.1
theorem g_lret (C : Cx p s m args meth c cc nL Ts own (some .long) Z y) {v r : Int64} (hd : decode cc pc = .ok (.lreturn, 1)) (hs : σ = σ') (h : v = r) : G p l e R s m args below meth c nL Z y (MQ below (QL Z y σ' r s.heap.size) args s 0 0 (pA Z y s.heap.size)) σ pc lv [.long v] := by
  subst hs; subst h
  exact fun H locs ls a b d => W.lret C.1 C.2.1 C.2.2.1 (fun t ht hW => ⟨⟨v, (), rfl, rfl, by show va_P _ _ _ t.heap; rw [ht]; exact b⟩, d.F ht⟩) d.2.2 hd C.2.2.2.2.2.2.1
theorem g_nret {ty : FieldType} (C : Cx p s m args meth c cc nL Ts own (some ty) Z y) {v r : Int32} (hn : narrow ty (.int v) = .int v) (hd : decode cc pc = .ok (.ireturn, 1)) (hs : σ = σ') (h : v = r) : G p l e R s m args below meth c nL Z y (MQ below (QI Z y σ' r s.heap.size) args s 0 0 (pA Z y s.heap.size)) σ pc lv [.int v] := by
  subst hs; subst h
  exact fun H locs ls a b d => W.zret C.1 C.2.1 C.2.2.1 hn (fun t ht hW => ⟨⟨v, (), rfl, rfl, by show va_P _ _ _ t.heap; rw [ht]; exact b⟩, d.F ht⟩) d.2.2 hd C.2.2.2.2.2.2.1
theorem g_vret (C : Cx p s m args meth c cc nL Ts own none Z y) (hd : decode cc pc = .ok (.return_, 1)) (hs : σ = σ') : G p l e R s m args below meth c nL Z y (MQ below (QV Z y σ' s.heap.size) args s 0 0 (pA Z y s.heap.size)) σ pc lv [] := by
  subst hs
  exact fun H locs ls a b d => W.vret C.1 C.2.1 C.2.2.1 (fun t ht hW => ⟨⟨(), rfl, trivial, by show va_P _ _ _ t.heap; rw [ht]; exact b⟩, d.F ht⟩) d.2.2 hd C.2.2.2.2.2.2.1
end GRet
theorem MI.of {l : Launch} {Z : Sh} {y : Ly} {x : MethodName} {ws ws' : List Cond} {R : Room} {av : List Value} {σ σ' : Sg} {r : Int32} {cc : ByteArray} {maxL : Nat} {ret : Option FieldType} (hy : plainName x.cls = true) (hw : ws = Cond.code x cc maxL ret :: ws') (hlen : (lg_sl av).length ≤ maxL)
    (body : ∀ (p : Program) (e : Env) (s : State) (m : MethodId) (below : List Frame) (meth : Method) (c : Code), Cx p s m av.toArray meth c cc maxL ws x.cls ret Z y → G p l e R s m av.toArray below meth c maxL Z y (MQ below (QI Z y σ' r s.heap.size) av.toArray s 0 0 (pA Z y s.heap.size)) σ 0 (lv_args 0 av) []) : MI l Z y x ws R av σ σ' r := by
  intro n
  refine Met.ofW (cc := cc) (maxL := maxL) (ret := ret) hy hw ?_
  intro p e s m args below meth c s₁ B hml hv
  obtain ⟨rfl, hn, h2, h3, h4, h5, h6⟩ := hv
  subst hn
  have hown : s.vm.findClass x.cls = some m.cls := findClass_of_methodNamed B.named
  have hl := lv_entry av (n := maxL) hlen
  rw [lg_entry_eq]
  exact body p e s m below meth c ⟨B.exec, B.bytes, B.returns, hml, hown, atoms_spec (ws := ws) B.pre, B.notSynchronized, h3, h4, h5, h6⟩ s.heap [] _ hl h2 va_S.rf
theorem ML.of {l : Launch} {Z : Sh} {y : Ly} {x : MethodName} {ws ws' : List Cond} {R : Room} {av : List Value} {σ σ' : Sg} {r : Int64} {cc : ByteArray} {maxL : Nat} {ret : Option FieldType} (hy : plainName x.cls = true) (hw : ws = Cond.code x cc maxL ret :: ws') (hlen : (lg_sl av).length ≤ maxL)
    (body : ∀ (p : Program) (e : Env) (s : State) (m : MethodId) (below : List Frame) (meth : Method) (c : Code), Cx p s m av.toArray meth c cc maxL ws x.cls ret Z y → G p l e R s m av.toArray below meth c maxL Z y (MQ below (QL Z y σ' r s.heap.size) av.toArray s 0 0 (pA Z y s.heap.size)) σ 0 (lv_args 0 av) []) : ML l Z y x ws R av σ σ' r := by
  intro n
  refine Met.ofW (cc := cc) (maxL := maxL) (ret := ret) hy hw ?_
  intro p e s m args below meth c s₁ B hml hv
  obtain ⟨rfl, hn, h2, h3, h4, h5, h6⟩ := hv
  subst hn
  have hown : s.vm.findClass x.cls = some m.cls := findClass_of_methodNamed B.named
  have hl := lv_entry av (n := maxL) hlen
  rw [lg_entry_eq]
  exact body p e s m below meth c ⟨B.exec, B.bytes, B.returns, hml, hown, atoms_spec (ws := ws) B.pre, B.notSynchronized, h3, h4, h5, h6⟩ s.heap [] _ hl h2 va_S.rf
theorem MV.of {l : Launch} {Z : Sh} {y : Ly} {x : MethodName} {ws ws' : List Cond} {R : Room} {av : List Value} {σ σ' : Sg} {cc : ByteArray} {maxL : Nat} {ret : Option FieldType} (hy : plainName x.cls = true) (hw : ws = Cond.code x cc maxL ret :: ws') (hlen : (lg_sl av).length ≤ maxL)
    (body : ∀ (p : Program) (e : Env) (s : State) (m : MethodId) (below : List Frame) (meth : Method) (c : Code), Cx p s m av.toArray meth c cc maxL ws x.cls ret Z y → G p l e R s m av.toArray below meth c maxL Z y (MQ below (QV Z y σ' s.heap.size) av.toArray s 0 0 (pA Z y s.heap.size)) σ 0 (lv_args 0 av) []) : MV l Z y x ws R av σ σ' := by
  intro n
  refine Met.ofW (cc := cc) (maxL := maxL) (ret := ret) hy hw ?_
  intro p e s m args below meth c s₁ B hml hv
  obtain ⟨rfl, hn, h2, h3, h4, h5, h6⟩ := hv
  subst hn
  have hown : s.vm.findClass x.cls = some m.cls := findClass_of_methodNamed B.named
  have hl := lv_entry av (n := maxL) hlen
  rw [lg_entry_eq]
  exact body p e s m below meth c ⟨B.exec, B.bytes, B.returns, hml, hown, atoms_spec (ws := ws) B.pre, B.notSynchronized, h3, h4, h5, h6⟩ s.heap [] _ hl h2 va_S.rf
section GCall
variable {p : Program} {l : Launch} {e : Env} {R : Room} {s : State} {m : MethodId} {args : Array Value} {below : List Frame} {meth : Method} {c : Code} {nL : Nat} {Z : Sh} {y : Ly} {Q : State → Prop} {σ σ1 : Sg} {pc : Nat} {lv : List (Nat × Value)} {st rest As : List Value} {cc : ByteArray} {Ts : List Cond} {own : String} {ret : Option FieldType} {x : MethodName} {ws : List Cond} {rm2 : Room} {index : Nat}
theorem pre_of (C : Cx p s m args meth c cc nL Ts own ret Z y) {H : Heap} {locs : List Loc} (b : va_P Z.1 vwCl (wl Z y σ) H) (d : va_S (pA Z y s.heap.size) s.heap H locs) (av : List Value) (U : State) (hU : U.heap = H) (hW : s.WarmedH U.vm) : PCC Z y σ av H.size av.toArray U :=
  ⟨rfl, by rw [hU], by rw [hU]; exact b, va_K.moved hW.alike C.2.2.2.2.2.2.2.1, NW.moved hW C.2.2.2.2.2.2.2.2.1, EX.keep hW hU d C.2.2.2.2.2.2.2.2.2.1, C.2.2.2.2.2.2.2.2.2.2⟩

theorem g_callVi (C : Cx p s m args meth c cc nL Ts own ret Z y) {r : Int32} {Cn : String} {T : u_T} {N ci k maxL n : Nat} {bytes : ByteArray} {ret2 : Option FieldType} {fs : List (Option Nat)} (hk : y[k]? = some (.inl (ci, fs))) (hc : vwCl[ci]? = some (Cn, T, N)) (cw : CallW R s args own Cn index x bytes maxL ret2 ws rm2 0 0 n) (hM : MI l Z y x ws rm2 (.ref (ad Z k) :: As) σ σ1 r) (hn : As.length = n) (hst : st = As.reverse ++ .ref (ad Z k) :: rest) (hW : (rest.map fun v => v.category).sum ≤ 8) (hd : decode cc pc = .ok (.invokevirtual index, 3)) (k2 : G p l e R s m args below meth c nL Z y Q σ1 (pc + 3) lv (.int r :: rest)) : G p l e R s m args below meth c nL Z y Q σ pc lv st := by
  intro H locs ls a b d
  have hR : va_Run p l e R s m args below meth c H locs 0 0 0 0 (F0 m pc ls st) rest _ _ := va_runV ⟨C.1, C.2.1, C.2.2.2.1, C.2.2.2.2.1, C.2.2.2.2.2.1⟩ (hM H.size) cw ⟨PCC.blind _ _ _ _ _, va_recv C.2.2.2.2.2.2.2.1 b hc (wl_get hk), pre_of C b d _⟩ rfl hn a.1 hst (lv_room hW) hd ⟨by omega, by omega⟩
  refine va_calli hR d (fun q _ h => pA_mono d.1 h) (fun q h => pA_mono d.1 h) (fun r2 u t H1 locs1 e1 _ e2 e3 _ _ e6 => ?_)
  subst e2; subst e1
  exact k2 _ locs1 ls a e3 e6
theorem g_callVNi (C : Cx p s m args meth c cc nL Ts own ret Z y) {r : Int32} {Cn host : String} {T : u_T} {N ci k maxL n : Nat} {bytes : ByteArray} {ret2 : Option FieldType} {fs : List (Option Nat)} (hk : y[k]? = some (.inl (ci, fs))) (hc : vwCl[ci]? = some (Cn, T, N)) (cw : va_CN R s args own index x host bytes maxL ret2 ws rm2 0 0 n ∧ (Cond.instanceMethod x).before args s = true ∧ (Cond.selects Cn x x).before args s = true) (hM : MI l Z y x ws rm2 (.ref (ad Z k) :: As) σ σ1 r) (hn : As.length = n) (hst : st = As.reverse ++ .ref (ad Z k) :: rest) (hW : (rest.map fun v => v.category).sum ≤ 8) (hd : decode cc pc = .ok (.invokevirtual index, 3)) (k2 : G p l e R s m args below meth c nL Z y Q σ1 (pc + 3) lv (.int r :: rest)) : G p l e R s m args below meth c nL Z y Q σ pc lv st := by
  intro H locs ls a b d
  have hR : va_Run p l e R s m args below meth c H locs 0 0 0 0 (F0 m pc ls st) rest _ _ := va_runVN ⟨C.1, C.2.1, C.2.2.2.1, C.2.2.2.2.1, C.2.2.2.2.2.1⟩ (hM H.size) cw ⟨PCC.blind _ _ _ _ _, va_recv C.2.2.2.2.2.2.2.1 b hc (wl_get hk), pre_of C b d _⟩ rfl hn a.1 hst (lv_room hW) hd ⟨by omega, by omega⟩
  refine va_calli hR d (fun q _ h => pA_mono d.1 h) (fun q h => pA_mono d.1 h) (fun r2 u t H1 locs1 e1 _ e2 e3 _ _ e6 => ?_)
  subst e2; subst e1
  exact k2 _ locs1 ls a e3 e6
theorem g_callSi (C : Cx p s m args meth c cc nL Ts own ret Z y) {r : Int32} {maxL n : Nat} {bytes : ByteArray} {ret2 : Option FieldType} (cw : CallB R s args own index x bytes maxL ret2 ws rm2 0 0 n ∧ (Cond.static x).before args s = true) (hM : MI l Z y x ws rm2 (As) σ σ1 r) (hn : As.length = n) (hst : st = As.reverse ++ rest) (hW : (rest.map fun v => v.category).sum ≤ 8) (hd : decode cc pc = .ok (.invokestatic index, 3)) (k2 : G p l e R s m args below meth c nL Z y Q σ1 (pc + 3) lv (.int r :: rest)) : G p l e R s m args below meth c nL Z y Q σ pc lv st := by
  intro H locs ls a b d
  have hR : va_Run p l e R s m args below meth c H locs 0 0 0 0 (F0 m pc ls st) rest _ _ := va_runS ⟨C.1, C.2.1, C.2.2.2.1, C.2.2.2.2.1, C.2.2.2.2.2.1⟩ (hM H.size) cw ⟨PCC.blind _ _ _ _ _, pre_of C b d _⟩ rfl hn a.1 hst (lv_room hW) hd ⟨by omega, by omega⟩
  refine va_calli hR d (fun q _ h => pA_mono d.1 h) (fun q h => pA_mono d.1 h) (fun r2 u t H1 locs1 e1 _ e2 e3 _ _ e6 => ?_)
  subst e2; subst e1
  exact k2 _ locs1 ls a e3 e6
theorem g_callSNi (C : Cx p s m args meth c cc nL Ts own ret Z y) {r : Int32} {host : String} {maxL n : Nat} {bytes : ByteArray} {ret2 : Option FieldType} (cw : va_CN R s args own index x host bytes maxL ret2 ws rm2 0 0 n ∧ (Cond.static x).before args s = true ∧ True) (hM : MI l Z y x ws rm2 (As) σ σ1 r) (hn : As.length = n) (hst : st = As.reverse ++ rest) (hW : (rest.map fun v => v.category).sum ≤ 8) (hd : decode cc pc = .ok (.invokestatic index, 3)) (k2 : G p l e R s m args below meth c nL Z y Q σ1 (pc + 3) lv (.int r :: rest)) : G p l e R s m args below meth c nL Z y Q σ pc lv st := by
  intro H locs ls a b d
  have hR : va_Run p l e R s m args below meth c H locs 0 0 0 0 (F0 m pc ls st) rest _ _ := va_runSN ⟨C.1, C.2.1, C.2.2.2.1, C.2.2.2.2.1, C.2.2.2.2.2.1⟩ (hM H.size) cw ⟨PCC.blind _ _ _ _ _, pre_of C b d _⟩ rfl hn a.1 hst (lv_room hW) hd ⟨by omega, by omega⟩
  refine va_calli hR d (fun q _ h => pA_mono d.1 h) (fun q h => pA_mono d.1 h) (fun r2 u t H1 locs1 e1 _ e2 e3 _ _ e6 => ?_)
  subst e2; subst e1
  exact k2 _ locs1 ls a e3 e6
theorem g_callVl (C : Cx p s m args meth c cc nL Ts own ret Z y) {r : Int64} {Cn : String} {T : u_T} {N ci k maxL n : Nat} {bytes : ByteArray} {ret2 : Option FieldType} {fs : List (Option Nat)} (hk : y[k]? = some (.inl (ci, fs))) (hc : vwCl[ci]? = some (Cn, T, N)) (cw : CallW R s args own Cn index x bytes maxL ret2 ws rm2 0 0 n) (hM : ML l Z y x ws rm2 (.ref (ad Z k) :: As) σ σ1 r) (hn : As.length = n) (hst : st = As.reverse ++ .ref (ad Z k) :: rest) (hW : (rest.map fun v => v.category).sum ≤ 8) (hd : decode cc pc = .ok (.invokevirtual index, 3)) (k2 : G p l e R s m args below meth c nL Z y Q σ1 (pc + 3) lv (.long r :: rest)) : G p l e R s m args below meth c nL Z y Q σ pc lv st := by
  intro H locs ls a b d
  have hR : va_Run p l e R s m args below meth c H locs 0 0 0 0 (F0 m pc ls st) rest _ _ := va_runV ⟨C.1, C.2.1, C.2.2.2.1, C.2.2.2.2.1, C.2.2.2.2.2.1⟩ (hM H.size) cw ⟨PCC.blind _ _ _ _ _, va_recv C.2.2.2.2.2.2.2.1 b hc (wl_get hk), pre_of C b d _⟩ rfl hn a.1 hst (lv_room hW) hd ⟨by omega, by omega⟩
  refine va_calll hR d (fun q _ h => pA_mono d.1 h) (fun q h => pA_mono d.1 h) (fun r2 u t H1 locs1 e1 _ e2 e3 _ _ e6 => ?_)
  subst e2; subst e1
  exact k2 _ locs1 ls a e3 e6
theorem g_callVNl (C : Cx p s m args meth c cc nL Ts own ret Z y) {r : Int64} {Cn host : String} {T : u_T} {N ci k maxL n : Nat} {bytes : ByteArray} {ret2 : Option FieldType} {fs : List (Option Nat)} (hk : y[k]? = some (.inl (ci, fs))) (hc : vwCl[ci]? = some (Cn, T, N)) (cw : va_CN R s args own index x host bytes maxL ret2 ws rm2 0 0 n ∧ (Cond.instanceMethod x).before args s = true ∧ (Cond.selects Cn x x).before args s = true) (hM : ML l Z y x ws rm2 (.ref (ad Z k) :: As) σ σ1 r) (hn : As.length = n) (hst : st = As.reverse ++ .ref (ad Z k) :: rest) (hW : (rest.map fun v => v.category).sum ≤ 8) (hd : decode cc pc = .ok (.invokevirtual index, 3)) (k2 : G p l e R s m args below meth c nL Z y Q σ1 (pc + 3) lv (.long r :: rest)) : G p l e R s m args below meth c nL Z y Q σ pc lv st := by
  intro H locs ls a b d
  have hR : va_Run p l e R s m args below meth c H locs 0 0 0 0 (F0 m pc ls st) rest _ _ := va_runVN ⟨C.1, C.2.1, C.2.2.2.1, C.2.2.2.2.1, C.2.2.2.2.2.1⟩ (hM H.size) cw ⟨PCC.blind _ _ _ _ _, va_recv C.2.2.2.2.2.2.2.1 b hc (wl_get hk), pre_of C b d _⟩ rfl hn a.1 hst (lv_room hW) hd ⟨by omega, by omega⟩
  refine va_calll hR d (fun q _ h => pA_mono d.1 h) (fun q h => pA_mono d.1 h) (fun r2 u t H1 locs1 e1 _ e2 e3 _ _ e6 => ?_)
  subst e2; subst e1
  exact k2 _ locs1 ls a e3 e6
theorem g_callSl (C : Cx p s m args meth c cc nL Ts own ret Z y) {r : Int64} {maxL n : Nat} {bytes : ByteArray} {ret2 : Option FieldType} (cw : CallB R s args own index x bytes maxL ret2 ws rm2 0 0 n ∧ (Cond.static x).before args s = true) (hM : ML l Z y x ws rm2 (As) σ σ1 r) (hn : As.length = n) (hst : st = As.reverse ++ rest) (hW : (rest.map fun v => v.category).sum ≤ 8) (hd : decode cc pc = .ok (.invokestatic index, 3)) (k2 : G p l e R s m args below meth c nL Z y Q σ1 (pc + 3) lv (.long r :: rest)) : G p l e R s m args below meth c nL Z y Q σ pc lv st := by
  intro H locs ls a b d
  have hR : va_Run p l e R s m args below meth c H locs 0 0 0 0 (F0 m pc ls st) rest _ _ := va_runS ⟨C.1, C.2.1, C.2.2.2.1, C.2.2.2.2.1, C.2.2.2.2.2.1⟩ (hM H.size) cw ⟨PCC.blind _ _ _ _ _, pre_of C b d _⟩ rfl hn a.1 hst (lv_room hW) hd ⟨by omega, by omega⟩
  refine va_calll hR d (fun q _ h => pA_mono d.1 h) (fun q h => pA_mono d.1 h) (fun r2 u t H1 locs1 e1 _ e2 e3 _ _ e6 => ?_)
  subst e2; subst e1
  exact k2 _ locs1 ls a e3 e6
theorem g_callSNl (C : Cx p s m args meth c cc nL Ts own ret Z y) {r : Int64} {host : String} {maxL n : Nat} {bytes : ByteArray} {ret2 : Option FieldType} (cw : va_CN R s args own index x host bytes maxL ret2 ws rm2 0 0 n ∧ (Cond.static x).before args s = true ∧ True) (hM : ML l Z y x ws rm2 (As) σ σ1 r) (hn : As.length = n) (hst : st = As.reverse ++ rest) (hW : (rest.map fun v => v.category).sum ≤ 8) (hd : decode cc pc = .ok (.invokestatic index, 3)) (k2 : G p l e R s m args below meth c nL Z y Q σ1 (pc + 3) lv (.long r :: rest)) : G p l e R s m args below meth c nL Z y Q σ pc lv st := by
  intro H locs ls a b d
  have hR : va_Run p l e R s m args below meth c H locs 0 0 0 0 (F0 m pc ls st) rest _ _ := va_runSN ⟨C.1, C.2.1, C.2.2.2.1, C.2.2.2.2.1, C.2.2.2.2.2.1⟩ (hM H.size) cw ⟨PCC.blind _ _ _ _ _, pre_of C b d _⟩ rfl hn a.1 hst (lv_room hW) hd ⟨by omega, by omega⟩
  refine va_calll hR d (fun q _ h => pA_mono d.1 h) (fun q h => pA_mono d.1 h) (fun r2 u t H1 locs1 e1 _ e2 e3 _ _ e6 => ?_)
  subst e2; subst e1
  exact k2 _ locs1 ls a e3 e6
theorem g_callVv (C : Cx p s m args meth c cc nL Ts own ret Z y) {Cn : String} {T : u_T} {N ci k maxL n : Nat} {bytes : ByteArray} {ret2 : Option FieldType} {fs : List (Option Nat)} (hk : y[k]? = some (.inl (ci, fs))) (hc : vwCl[ci]? = some (Cn, T, N)) (cw : CallW R s args own Cn index x bytes maxL ret2 ws rm2 0 0 n) (hM : MV l Z y x ws rm2 (.ref (ad Z k) :: As) σ σ1) (hn : As.length = n) (hst : st = As.reverse ++ .ref (ad Z k) :: rest) (hW : (rest.map fun v => v.category).sum ≤ 8) (hd : decode cc pc = .ok (.invokevirtual index, 3)) (k2 : G p l e R s m args below meth c nL Z y Q σ1 (pc + 3) lv rest) : G p l e R s m args below meth c nL Z y Q σ pc lv st := by
  intro H locs ls a b d
  have hR : va_Run p l e R s m args below meth c H locs 0 0 0 0 (F0 m pc ls st) rest _ _ := va_runV ⟨C.1, C.2.1, C.2.2.2.1, C.2.2.2.2.1, C.2.2.2.2.2.1⟩ (hM H.size) cw ⟨PCC.blind _ _ _ _ _, va_recv C.2.2.2.2.2.2.2.1 b hc (wl_get hk), pre_of C b d _⟩ rfl hn a.1 hst (lv_room hW) hd ⟨by omega, by omega⟩
  refine va_callv hR d (fun q _ h => pA_mono d.1 h) (fun q h => pA_mono d.1 h) (fun u t H1 locs1 e1 _ e2 e3 _ _ e6 => ?_)
  subst e1
  exact k2 _ locs1 ls a e3 e6
theorem g_callVNv (C : Cx p s m args meth c cc nL Ts own ret Z y) {Cn host : String} {T : u_T} {N ci k maxL n : Nat} {bytes : ByteArray} {ret2 : Option FieldType} {fs : List (Option Nat)} (hk : y[k]? = some (.inl (ci, fs))) (hc : vwCl[ci]? = some (Cn, T, N)) (cw : va_CN R s args own index x host bytes maxL ret2 ws rm2 0 0 n ∧ (Cond.instanceMethod x).before args s = true ∧ (Cond.selects Cn x x).before args s = true) (hM : MV l Z y x ws rm2 (.ref (ad Z k) :: As) σ σ1) (hn : As.length = n) (hst : st = As.reverse ++ .ref (ad Z k) :: rest) (hW : (rest.map fun v => v.category).sum ≤ 8) (hd : decode cc pc = .ok (.invokevirtual index, 3)) (k2 : G p l e R s m args below meth c nL Z y Q σ1 (pc + 3) lv rest) : G p l e R s m args below meth c nL Z y Q σ pc lv st := by
  intro H locs ls a b d
  have hR : va_Run p l e R s m args below meth c H locs 0 0 0 0 (F0 m pc ls st) rest _ _ := va_runVN ⟨C.1, C.2.1, C.2.2.2.1, C.2.2.2.2.1, C.2.2.2.2.2.1⟩ (hM H.size) cw ⟨PCC.blind _ _ _ _ _, va_recv C.2.2.2.2.2.2.2.1 b hc (wl_get hk), pre_of C b d _⟩ rfl hn a.1 hst (lv_room hW) hd ⟨by omega, by omega⟩
  refine va_callv hR d (fun q _ h => pA_mono d.1 h) (fun q h => pA_mono d.1 h) (fun u t H1 locs1 e1 _ e2 e3 _ _ e6 => ?_)
  subst e1
  exact k2 _ locs1 ls a e3 e6
theorem g_callSv (C : Cx p s m args meth c cc nL Ts own ret Z y) {maxL n : Nat} {bytes : ByteArray} {ret2 : Option FieldType} (cw : CallB R s args own index x bytes maxL ret2 ws rm2 0 0 n ∧ (Cond.static x).before args s = true) (hM : MV l Z y x ws rm2 (As) σ σ1) (hn : As.length = n) (hst : st = As.reverse ++ rest) (hW : (rest.map fun v => v.category).sum ≤ 8) (hd : decode cc pc = .ok (.invokestatic index, 3)) (k2 : G p l e R s m args below meth c nL Z y Q σ1 (pc + 3) lv rest) : G p l e R s m args below meth c nL Z y Q σ pc lv st := by
  intro H locs ls a b d
  have hR : va_Run p l e R s m args below meth c H locs 0 0 0 0 (F0 m pc ls st) rest _ _ := va_runS ⟨C.1, C.2.1, C.2.2.2.1, C.2.2.2.2.1, C.2.2.2.2.2.1⟩ (hM H.size) cw ⟨PCC.blind _ _ _ _ _, pre_of C b d _⟩ rfl hn a.1 hst (lv_room hW) hd ⟨by omega, by omega⟩
  refine va_callv hR d (fun q _ h => pA_mono d.1 h) (fun q h => pA_mono d.1 h) (fun u t H1 locs1 e1 _ e2 e3 _ _ e6 => ?_)
  subst e1
  exact k2 _ locs1 ls a e3 e6
theorem g_callSNv (C : Cx p s m args meth c cc nL Ts own ret Z y) {host : String} {maxL n : Nat} {bytes : ByteArray} {ret2 : Option FieldType} (cw : va_CN R s args own index x host bytes maxL ret2 ws rm2 0 0 n ∧ (Cond.static x).before args s = true ∧ True) (hM : MV l Z y x ws rm2 (As) σ σ1) (hn : As.length = n) (hst : st = As.reverse ++ rest) (hW : (rest.map fun v => v.category).sum ≤ 8) (hd : decode cc pc = .ok (.invokestatic index, 3)) (k2 : G p l e R s m args below meth c nL Z y Q σ1 (pc + 3) lv rest) : G p l e R s m args below meth c nL Z y Q σ pc lv st := by
  intro H locs ls a b d
  have hR : va_Run p l e R s m args below meth c H locs 0 0 0 0 (F0 m pc ls st) rest _ _ := va_runSN ⟨C.1, C.2.1, C.2.2.2.1, C.2.2.2.2.1, C.2.2.2.2.2.1⟩ (hM H.size) cw ⟨PCC.blind _ _ _ _ _, pre_of C b d _⟩ rfl hn a.1 hst (lv_room hW) hd ⟨by omega, by omega⟩
  refine va_callv hR d (fun q _ h => pA_mono d.1 h) (fun q h => pA_mono d.1 h) (fun u t H1 locs1 e1 _ e2 e3 _ _ e6 => ?_)
  subst e1
  exact k2 _ locs1 ls a e3 e6
theorem g_callVs (C : Cx p s m args meth c cc nL Ts own ret Z y) {r : Int32} {i maxL n : Nat} {bytes : ByteArray} {ret2 : Option FieldType} (hi : i < 6) (cw : CallW R s args own "java/lang/String" index x bytes maxL ret2 ws rm2 0 0 n) (hM : MI l Z y x ws rm2 (.ref (sK Z i) :: As) σ σ1 r) (hn : As.length = n) (hst : st = As.reverse ++ .ref (sK Z i) :: rest) (hW : (rest.map fun v => v.category).sum ≤ 8) (hd : decode cc pc = .ok (.invokevirtual index, 3)) (k2 : G p l e R s m args below meth c nL Z y Q σ1 (pc + 3) lv (.int r :: rest)) : G p l e R s m args below meth c nL Z y Q σ pc lv st := by
  intro H locs ls a b d
  have hR : va_Run p l e R s m args below meth c H locs 0 0 0 0 (F0 m pc ls st) rest _ _ := va_runV ⟨C.1, C.2.1, C.2.2.2.1, C.2.2.2.2.1, C.2.2.2.2.2.1⟩ (hM H.size) cw ⟨PCC.blind _ _ _ _ _, vk_recv C.2.2.2.2.2.2.2.2.2.1.1 hi d, pre_of C b d _⟩ rfl hn a.1 hst (lv_room hW) hd ⟨by omega, by omega⟩
  refine va_calli hR d (fun q _ h => pA_mono d.1 h) (fun q h => pA_mono d.1 h) (fun r2 u t H1 locs1 e1 _ e2 e3 _ _ e6 => ?_)
  subst e2; subst e1
  exact k2 _ locs1 ls a e3 e6
end GCall
