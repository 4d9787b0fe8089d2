def rX2_copyFrom : Room := { frames := 0, cells := 0, slots := 0, locals := 0 }
theorem uX2_copyFrom_X2 : ∀ w ∈ wsX20, w ∈ wsX2_copyFrom := by decide +kernel
def fX2_copyFrom_l51 (a : Nat) (b : Nat)  : Nat → Sg → Int32 → Option (Sg)
  | 0, _, _ => none
  | n + 1, σ, v2 => if (6 : Int32) ≤ v2 then some σ else (rd (σ (b + 2)) 6 v2).bind fun t1 => (wr σ (a + 2) 6 v2 t1).bind fun σ2 => (rd (σ2 (b + 3)) 6 v2).bind fun t3 => (wr σ2 (a + 3) 6 v2 t3).bind fun σ4 => (rd (σ4 (b + 4)) 6 v2).bind fun t5 => (wr σ4 (a + 4) 6 v2 t5).bind fun σ6 => (rd (σ6 (b + 5)) 6 v2).bind fun t7 => (wr σ6 (a + 5) 6 v2 t7).bind fun σ8 => fX2_copyFrom_l51 a b n σ8 (v2 + 1)
def fX2_copyFrom_l26 (a : Nat) (b : Nat)  : Nat → Sg → Int32 → Option (Sg)
  | 0, _, _ => none
  | n + 1, σ, v2 => if (4 : Int32) ≤ v2 then fX2_copyFrom_l51 a b 2000 σ (0 : Int32) else (rd (σ (b + 1)) 4 v2).bind fun t1 => (wr σ (a + 1) 4 v2 t1).bind fun σ2 => fX2_copyFrom_l26 a b n σ2 (v2 + 1)
def fX2_copyFrom (σ : Sg) (a : Nat) (b : Nat) : Option (Sg) := (pf σ a 0 (σ b 0)).bind fun σ1 => (pf σ1 a 1 (σ1 b 1)).bind fun σ2 => (pf σ2 a 2 (σ2 b 2)).bind fun σ3 => fX2_copyFrom_l26 a b 2000 σ3 (0 : Int32)
set_option maxHeartbeats 1000000 in
set_option maxRecDepth 20000 in
theorem kX2_copyFrom_l51 {p : Program} {l : Launch} {e : Env} {s : State} {m : MethodId} {args : Array Value} {below : List Frame} {meth : Method} {c : Code} {Z : Sh} (C : Cx p s m args meth c cX2_copyFrom 3 wsX2_copyFrom RX2 none Z layX) {a : Nat} {b : Nat} {u : Sg} (h_a : IsR a) (h_b : IsR b)  : ∀ (n : Nat) (σ : Sg) (v2 : Int32), fX2_copyFrom_l51 a b n σ v2 = some u → G p l e rX2_copyFrom s m args below meth c 3 Z layX (MQ below (QV Z layX u s.heap.size) args s 0 0 (pA Z layX s.heap.size)) σ 51 [(0, .ref (ad Z a)), (1, .ref (ad Z b)), (2, .int v2)] [] := by
  intro n
  induction n with
  | zero => intro σ v2 h; exact absurd h (by simp [fX2_copyFrom_l51])
  | succ n ih =>
    intro σ v2 h
    rw [fX2_copyFrom_l51] at h
    refine g_iload_n (pc := 51) C dX2_copyFrom_51 rfl 2 rfl ?_
    refine g_bipush (pc := 52) C (v := (6 : Int32)) dX2_copyFrom_52 (by decide) ?_
    refine g_icmp_ge (pc := 54) C (tgt := 111) dX2_copyFrom_54 (by decide) h (fun hc54 h => ?_) (fun hc54 h => ?_)
    · exact g_vret C dX2_copyFrom_111 (Option.some.inj h)
    · refine g_aload_n (pc := 57) C dX2_copyFrom_57 rfl 0 rfl ?_
      refine g_getr (pc := 58) C (Cn := RX2) (T := TX2) (N := 8) (ci := 2) (k := a) (j := 4) uX2_copyFrom_X2 h_a.1 rfl (by decide) (by decide +kernel) (q := (a + 2)) rfl dX2_copyFrom_58 ?_
      refine g_iload_n (pc := 61) C dX2_copyFrom_61 rfl 2 rfl ?_
      refine g_aload_n (pc := 62) C dX2_copyFrom_62 rfl 1 rfl ?_
      refine g_getr (pc := 63) C (Cn := RX2) (T := TX2) (N := 8) (ci := 2) (k := b) (j := 4) uX2_copyFrom_X2 h_b.1 rfl (by decide) (by decide +kernel) (q := (b + 2)) rfl dX2_copyFrom_63 ?_
      refine g_iload_n (pc := 66) C dX2_copyFrom_66 rfl 2 rfl ?_
      obtain ⟨t1, et1, h⟩ := bs h
      refine g_iald (pc := 67) C (k := (b + 2)) (n := 6) h_b.2.2.1 et1 dX2_copyFrom_67 ?_
      obtain ⟨σ2, eσ2, h⟩ := bs h
      refine g_iast (pc := 68) C (k := (a + 2)) (n := 6) h_a.2.2.1 eσ2 dX2_copyFrom_68 ?_
      refine g_aload_n (pc := 69) C dX2_copyFrom_69 rfl 0 rfl ?_
      refine g_getr (pc := 70) C (Cn := RX2) (T := TX2) (N := 8) (ci := 2) (k := a) (j := 5) uX2_copyFrom_X2 h_a.1 rfl (by decide) (by decide +kernel) (q := (a + 3)) rfl dX2_copyFrom_70 ?_
      refine g_iload_n (pc := 73) C dX2_copyFrom_73 rfl 2 rfl ?_
      refine g_aload_n (pc := 74) C dX2_copyFrom_74 rfl 1 rfl ?_
      refine g_getr (pc := 75) C (Cn := RX2) (T := TX2) (N := 8) (ci := 2) (k := b) (j := 5) uX2_copyFrom_X2 h_b.1 rfl (by decide) (by decide +kernel) (q := (b + 3)) rfl dX2_copyFrom_75 ?_
      refine g_iload_n (pc := 78) C dX2_copyFrom_78 rfl 2 rfl ?_
      obtain ⟨t3, et3, h⟩ := bs h
      refine g_iald (pc := 79) C (k := (b + 3)) (n := 6) h_b.2.2.2.1 et3 dX2_copyFrom_79 ?_
      obtain ⟨σ4, eσ4, h⟩ := bs h
      refine g_iast (pc := 80) C (k := (a + 3)) (n := 6) h_a.2.2.2.1 eσ4 dX2_copyFrom_80 ?_
      refine g_aload_n (pc := 81) C dX2_copyFrom_81 rfl 0 rfl ?_
      refine g_getr (pc := 82) C (Cn := RX2) (T := TX2) (N := 8) (ci := 2) (k := a) (j := 6) uX2_copyFrom_X2 h_a.1 rfl (by decide) (by decide +kernel) (q := (a + 4)) rfl dX2_copyFrom_82 ?_
      refine g_iload_n (pc := 85) C dX2_copyFrom_85 rfl 2 rfl ?_
      refine g_aload_n (pc := 86) C dX2_copyFrom_86 rfl 1 rfl ?_
      refine g_getr (pc := 87) C (Cn := RX2) (T := TX2) (N := 8) (ci := 2) (k := b) (j := 6) uX2_copyFrom_X2 h_b.1 rfl (by decide) (by decide +kernel) (q := (b + 4)) rfl dX2_copyFrom_87 ?_
      refine g_iload_n (pc := 90) C dX2_copyFrom_90 rfl 2 rfl ?_
      obtain ⟨t5, et5, h⟩ := bs h
      refine g_iald (pc := 91) C (k := (b + 4)) (n := 6) h_b.2.2.2.2.1 et5 dX2_copyFrom_91 ?_
      obtain ⟨σ6, eσ6, h⟩ := bs h
      refine g_iast (pc := 92) C (k := (a + 4)) (n := 6) h_a.2.2.2.2.1 eσ6 dX2_copyFrom_92 ?_
      refine g_aload_n (pc := 93) C dX2_copyFrom_93 rfl 0 rfl ?_
      refine g_getr (pc := 94) C (Cn := RX2) (T := TX2) (N := 8) (ci := 2) (k := a) (j := 7) uX2_copyFrom_X2 h_a.1 rfl (by decide) (by decide +kernel) (q := (a + 5)) rfl dX2_copyFrom_94 ?_
      refine g_iload_n (pc := 97) C dX2_copyFrom_97 rfl 2 rfl ?_
      refine g_aload_n (pc := 98) C dX2_copyFrom_98 rfl 1 rfl ?_
      refine g_getr (pc := 99) C (Cn := RX2) (T := TX2) (N := 8) (ci := 2) (k := b) (j := 7) uX2_copyFrom_X2 h_b.1 rfl (by decide) (by decide +kernel) (q := (b + 5)) rfl dX2_copyFrom_99 ?_
      refine g_iload_n (pc := 102) C dX2_copyFrom_102 rfl 2 rfl ?_
      obtain ⟨t7, et7, h⟩ := bs h
      refine g_iald (pc := 103) C (k := (b + 5)) (n := 6) h_b.2.2.2.2.2 et7 dX2_copyFrom_103 ?_
      obtain ⟨σ8, eσ8, h⟩ := bs h
      refine g_iast (pc := 104) C (k := (a + 5)) (n := 6) h_a.2.2.2.2.2 eσ8 dX2_copyFrom_104 ?_
      refine g_iinc (pc := 105) C (j := 2) (v := (v2 + 1)) (lv2 := [(2, .int (v2 + 1)), (0, .ref (ad Z a)), (1, .ref (ad Z b))]) dX2_copyFrom_105 rfl rfl (by decide) rfl ?_
      refine g_goto (pc := 108) C (tgt := 51) dX2_copyFrom_108 (by decide) ?_
      exact g_sub [1, 2, 0] rfl (ih _ _ h)
set_option maxHeartbeats 1000000 in
set_option maxRecDepth 20000 in
theorem kX2_copyFrom_l26 {p : Program} {l : Launch} {e : Env} {s : State} {m : MethodId} {args : Array Value} {below : List Frame} {meth : Method} {c : Code} {Z : Sh} (C : Cx p s m args meth c cX2_copyFrom 3 wsX2_copyFrom RX2 none Z layX) {a : Nat} {b : Nat} {u : Sg} (h_a : IsR a) (h_b : IsR b)  : ∀ (n : Nat) (σ : Sg) (v2 : Int32), fX2_copyFrom_l26 a b n σ v2 = some u → G p l e rX2_copyFrom s m args below meth c 3 Z layX (MQ below (QV Z layX u s.heap.size) args s 0 0 (pA Z layX s.heap.size)) σ 26 [(0, .ref (ad Z a)), (1, .ref (ad Z b)), (2, .int v2)] [] := by
  intro n
  induction n with
  | zero => intro σ v2 h; exact absurd h (by simp [fX2_copyFrom_l26])
  | succ n ih =>
    intro σ v2 h
    rw [fX2_copyFrom_l26] at h
    refine g_iload_n (pc := 26) C dX2_copyFrom_26 rfl 2 rfl ?_
    refine g_iconst (pc := 27) C (v := (4 : Int32)) dX2_copyFrom_27 (by decide) ?_
    refine g_icmp_ge (pc := 28) C (tgt := 49) dX2_copyFrom_28 (by decide) h (fun hc28 h => ?_) (fun hc28 h => ?_)
    · refine g_iconst (pc := 49) C (v := (0 : Int32)) dX2_copyFrom_49 (by decide) ?_
      refine g_istore_n (pc := 50) C (lv2 := [(2, .int (0 : Int32)), (0, .ref (ad Z a)), (1, .ref (ad Z b))]) dX2_copyFrom_50 rfl (by decide) rfl ?_
      exact g_sub [1, 2, 0] rfl (kX2_copyFrom_l51 C h_a h_b  _ _ _ h)
    · refine g_aload_n (pc := 31) C dX2_copyFrom_31 rfl 0 rfl ?_
      refine g_getr (pc := 32) C (Cn := RX2) (T := TX2) (N := 8) (ci := 2) (k := a) (j := 3) uX2_copyFrom_X2 h_a.1 rfl (by decide) (by decide +kernel) (q := (a + 1)) rfl dX2_copyFrom_32 ?_
      refine g_iload_n (pc := 35) C dX2_copyFrom_35 rfl 2 rfl ?_
      refine g_aload_n (pc := 36) C dX2_copyFrom_36 rfl 1 rfl ?_
      refine g_getr (pc := 37) C (Cn := RX2) (T := TX2) (N := 8) (ci := 2) (k := b) (j := 3) uX2_copyFrom_X2 h_b.1 rfl (by decide) (by decide +kernel) (q := (b + 1)) rfl dX2_copyFrom_37 ?_
      refine g_iload_n (pc := 40) C dX2_copyFrom_40 rfl 2 rfl ?_
      obtain ⟨t1, et1, h⟩ := bs h
      refine g_iald (pc := 41) C (k := (b + 1)) (n := 4) h_b.2.1 et1 dX2_copyFrom_41 ?_
      obtain ⟨σ2, eσ2, h⟩ := bs h
      refine g_iast (pc := 42) C (k := (a + 1)) (n := 4) h_a.2.1 eσ2 dX2_copyFrom_42 ?_
      refine g_iinc (pc := 43) C (j := 2) (v := (v2 + 1)) (lv2 := [(2, .int (v2 + 1)), (0, .ref (ad Z a)), (1, .ref (ad Z b))]) dX2_copyFrom_43 rfl rfl (by decide) rfl ?_
      refine g_goto (pc := 46) C (tgt := 26) dX2_copyFrom_46 (by decide) ?_
      exact g_sub [1, 2, 0] rfl (ih _ _ h)
set_option maxHeartbeats 1000000 in
set_option maxRecDepth 20000 in
theorem kX2_copyFrom_e {p : Program} {l : Launch} {e : Env} {s : State} {m : MethodId} {args : Array Value} {below : List Frame} {meth : Method} {c : Code} {Z : Sh} (C : Cx p s m args meth c cX2_copyFrom 3 wsX2_copyFrom RX2 none Z layX) {σ : Sg} {a : Nat} {b : Nat} {u : Sg} (h_a : IsR a) (h_b : IsR b) (h : fX2_copyFrom σ a b = some u) : G p l e rX2_copyFrom s m args below meth c 3 Z layX (MQ below (QV Z layX u s.heap.size) args s 0 0 (pA Z layX s.heap.size)) σ 0 [(0, .ref (ad Z a)), (1, .ref (ad Z b))] [] := by
  unfold fX2_copyFrom at h
  refine g_aload_n (pc := 0) C dX2_copyFrom_0 rfl 0 rfl ?_
  refine g_aload_n (pc := 1) C dX2_copyFrom_1 rfl 1 rfl ?_
  refine g_geti (pc := 2) C (Cn := RX2) (T := TX2) (N := 8) (ci := 2) (k := b) (j := 0) uX2_copyFrom_X2 h_b.1 rfl (by decide) (by decide +kernel) (q := 0) rfl dX2_copyFrom_2 ?_
  obtain ⟨σ1, eσ1, h⟩ := bs h
  refine g_puti (pc := 5) C (Cn := RX2) (T := TX2) (N := 8) (ci := 2) (k := a) (j := 0) uX2_copyFrom_X2 h_a.1 rfl (by decide) (by decide +kernel) tyX2 tyX2_ok nmX2 rfl (by decide +kernel) rfl eσ1 dX2_copyFrom_5 ?_
  refine g_aload_n (pc := 8) C dX2_copyFrom_8 rfl 0 rfl ?_
  refine g_aload_n (pc := 9) C dX2_copyFrom_9 rfl 1 rfl ?_
  refine g_geti (pc := 10) C (Cn := RX2) (T := TX2) (N := 8) (ci := 2) (k := b) (j := 1) uX2_copyFrom_X2 h_b.1 rfl (by decide) (by decide +kernel) (q := 0) rfl dX2_copyFrom_10 ?_
  obtain ⟨σ2, eσ2, h⟩ := bs h
  refine g_puti (pc := 13) C (Cn := RX2) (T := TX2) (N := 8) (ci := 2) (k := a) (j := 1) uX2_copyFrom_X2 h_a.1 rfl (by decide) (by decide +kernel) tyX2 tyX2_ok nmX2 rfl (by decide +kernel) rfl eσ2 dX2_copyFrom_13 ?_
  refine g_aload_n (pc := 16) C dX2_copyFrom_16 rfl 0 rfl ?_
  refine g_aload_n (pc := 17) C dX2_copyFrom_17 rfl 1 rfl ?_
  refine g_geti (pc := 18) C (Cn := RX2) (T := TX2) (N := 8) (ci := 2) (k := b) (j := 2) uX2_copyFrom_X2 h_b.1 rfl (by decide) (by decide +kernel) (q := 0) rfl dX2_copyFrom_18 ?_
  obtain ⟨σ3, eσ3, h⟩ := bs h
  refine g_puti (pc := 21) C (Cn := RX2) (T := TX2) (N := 8) (ci := 2) (k := a) (j := 2) uX2_copyFrom_X2 h_a.1 rfl (by decide) (by decide +kernel) tyX2 tyX2_ok nmX2 rfl (by decide +kernel) rfl eσ3 dX2_copyFrom_21 ?_
  refine g_iconst (pc := 24) C (v := (0 : Int32)) dX2_copyFrom_24 (by decide) ?_
  refine g_istore_n (pc := 25) C (lv2 := [(2, .int (0 : Int32)), (0, .ref (ad Z a)), (1, .ref (ad Z b))]) dX2_copyFrom_25 rfl (by decide) rfl ?_
  exact g_sub [1, 2, 0] rfl (kX2_copyFrom_l26 C h_a h_b  _ _ _ h)
theorem mX2_copyFrom (l : Launch) (Z : Sh) {σ : Sg} {a : Nat} {b : Nat} {u : Sg} (h_a : IsR a) (h_b : IsR b) (h : fX2_copyFrom σ a b = some u) : MV l Z layX yX2_copyFrom wsX2_copyFrom rX2_copyFrom [.ref (ad Z a), .ref (ad Z b)] σ u :=
  MV.of (cc := cX2_copyFrom) (maxL := 3) (ret := none) (by decide) rfl (Nat.le_of_ble_eq_true rfl) (fun p e s m below meth c C => kX2_copyFrom_e C h_a h_b h)

def rX2_hasLord : Room := { frames := 0, cells := 0, slots := 0, locals := 0 }
theorem uX2_hasLord_X2 : ∀ w ∈ wsX20, w ∈ wsX2_hasLord := by decide +kernel
def fX2_hasLord (σ : Sg) (a : Nat) (v1 : Int32) : Option (Int32) := if v1 < 0 then some (0 : Int32) else if (σ a 0) ≤ v1 then some (0 : Int32) else some (1 : Int32)
set_option maxHeartbeats 1000000 in
set_option maxRecDepth 20000 in
theorem kX2_hasLord_e {p : Program} {l : Launch} {e : Env} {s : State} {m : MethodId} {args : Array Value} {below : List Frame} {meth : Method} {c : Code} {Z : Sh} (C : Cx p s m args meth c cX2_hasLord 2 wsX2_hasLord RX2 (some .boolean) Z layX) {σ : Sg} {a : Nat} {v1 : Int32} {u : Int32} (h_a : IsR a) (h : fX2_hasLord σ a v1 = some u) : G p l e rX2_hasLord s m args below meth c 2 Z layX (MQ below (QI Z layX σ u s.heap.size) args s 0 0 (pA Z layX s.heap.size)) σ 0 [(0, .ref (ad Z a)), (1, .int v1)] [] := by
  unfold fX2_hasLord at h
  refine g_iload_n (pc := 0) C dX2_hasLord_0 rfl 1 rfl ?_
  refine g_if_lt (pc := 1) C (tgt := 16) dX2_hasLord_1 (by decide) h (fun hc1 h => ?_) (fun hc1 h => ?_)
  · refine g_iconst (pc := 16) C (v := (0 : Int32)) dX2_hasLord_16 (by decide) ?_
    exact g_zret C dX2_hasLord_17 rfl (rz0.trans h)
  · refine g_iload_n (pc := 4) C dX2_hasLord_4 rfl 1 rfl ?_
    refine g_aload_n (pc := 5) C dX2_hasLord_5 rfl 0 rfl ?_
    refine g_geti (pc := 6) C (Cn := RX2) (T := TX2) (N := 8) (ci := 2) (k := a) (j := 0) uX2_hasLord_X2 h_a.1 rfl (by decide) (by decide +kernel) (q := 0) rfl dX2_hasLord_6 ?_
    refine g_icmp_ge (pc := 9) C (tgt := 16) dX2_hasLord_9 (by decide) h (fun hc9 h => ?_) (fun hc9 h => ?_)
    · refine g_iconst (pc := 16) C (v := (0 : Int32)) dX2_hasLord_16 (by decide) ?_
      exact g_zret C dX2_hasLord_17 rfl (rz0.trans h)
    · refine g_iconst (pc := 12) C (v := (1 : Int32)) dX2_hasLord_12 (by decide) ?_
      refine g_goto (pc := 13) C (tgt := 17) dX2_hasLord_13 (by decide) ?_
      exact g_zret C dX2_hasLord_17 rfl (rz1.trans h)
theorem mX2_hasLord (l : Launch) (Z : Sh) {σ : Sg} {a : Nat} {v1 : Int32} {u : Int32} (h_a : IsR a) (h : fX2_hasLord σ a v1 = some u) : MI l Z layX yX2_hasLord wsX2_hasLord rX2_hasLord [.ref (ad Z a), .int v1] σ σ u :=
  MI.of (cc := cX2_hasLord) (maxL := 2) (ret := (some .boolean)) (by decide) rfl (Nat.le_of_ble_eq_true rfl) (fun p e s m below meth c C => kX2_hasLord_e C h_a h)

def rX2_hasBorough : Room := { frames := 0, cells := 0, slots := 0, locals := 0 }
theorem uX2_hasBorough_X2 : ∀ w ∈ wsX20, w ∈ wsX2_hasBorough := by decide +kernel
def fX2_hasBorough (σ : Sg) (a : Nat) (v1 : Int32) : Option (Int32) := if v1 < 0 then some (0 : Int32) else if (σ a 1) ≤ v1 then some (0 : Int32) else some (1 : Int32)
set_option maxHeartbeats 1000000 in
set_option maxRecDepth 20000 in
theorem kX2_hasBorough_e {p : Program} {l : Launch} {e : Env} {s : State} {m : MethodId} {args : Array Value} {below : List Frame} {meth : Method} {c : Code} {Z : Sh} (C : Cx p s m args meth c cX2_hasBorough 2 wsX2_hasBorough RX2 (some .boolean) Z layX) {σ : Sg} {a : Nat} {v1 : Int32} {u : Int32} (h_a : IsR a) (h : fX2_hasBorough σ a v1 = some u) : G p l e rX2_hasBorough s m args below meth c 2 Z layX (MQ below (QI Z layX σ u s.heap.size) args s 0 0 (pA Z layX s.heap.size)) σ 0 [(0, .ref (ad Z a)), (1, .int v1)] [] := by
  unfold fX2_hasBorough at h
  refine g_iload_n (pc := 0) C dX2_hasBorough_0 rfl 1 rfl ?_
  refine g_if_lt (pc := 1) C (tgt := 16) dX2_hasBorough_1 (by decide) h (fun hc1 h => ?_) (fun hc1 h => ?_)
  · refine g_iconst (pc := 16) C (v := (0 : Int32)) dX2_hasBorough_16 (by decide) ?_
    exact g_zret C dX2_hasBorough_17 rfl (rz0.trans h)
  · refine g_iload_n (pc := 4) C dX2_hasBorough_4 rfl 1 rfl ?_
    refine g_aload_n (pc := 5) C dX2_hasBorough_5 rfl 0 rfl ?_
    refine g_geti (pc := 6) C (Cn := RX2) (T := TX2) (N := 8) (ci := 2) (k := a) (j := 1) uX2_hasBorough_X2 h_a.1 rfl (by decide) (by decide +kernel) (q := 0) rfl dX2_hasBorough_6 ?_
    refine g_icmp_ge (pc := 9) C (tgt := 16) dX2_hasBorough_9 (by decide) h (fun hc9 h => ?_) (fun hc9 h => ?_)
    · refine g_iconst (pc := 16) C (v := (0 : Int32)) dX2_hasBorough_16 (by decide) ?_
      exact g_zret C dX2_hasBorough_17 rfl (rz0.trans h)
    · refine g_iconst (pc := 12) C (v := (1 : Int32)) dX2_hasBorough_12 (by decide) ?_
      refine g_goto (pc := 13) C (tgt := 17) dX2_hasBorough_13 (by decide) ?_
      exact g_zret C dX2_hasBorough_17 rfl (rz1.trans h)
theorem mX2_hasBorough (l : Launch) (Z : Sh) {σ : Sg} {a : Nat} {v1 : Int32} {u : Int32} (h_a : IsR a) (h : fX2_hasBorough σ a v1 = some u) : MI l Z layX yX2_hasBorough wsX2_hasBorough rX2_hasBorough [.ref (ad Z a), .int v1] σ σ u :=
  MI.of (cc := cX2_hasBorough) (maxL := 2) (ret := (some .boolean)) (by decide) rfl (Nat.le_of_ble_eq_true rfl) (fun p e s m below meth c C => kX2_hasBorough_e C h_a h)

def rX2_everyLord : Room := { frames := 0, cells := 0, slots := 0, locals := 0 }
theorem uX2_everyLord_X2 : ∀ w ∈ wsX20, w ∈ wsX2_everyLord := by decide +kernel
def fX2_everyLord (σ : Sg) (a : Nat) : Option (Int32) := some (((1 : Int32) <<< ((σ a 0) &&& 31)) - (1 : Int32))
set_option maxHeartbeats 1000000 in
set_option maxRecDepth 20000 in
theorem kX2_everyLord_e {p : Program} {l : Launch} {e : Env} {s : State} {m : MethodId} {args : Array Value} {below : List Frame} {meth : Method} {c : Code} {Z : Sh} (C : Cx p s m args meth c cX2_everyLord 1 wsX2_everyLord RX2 (some .int) Z layX) {σ : Sg} {a : Nat} {u : Int32} (h_a : IsR a) (h : fX2_everyLord σ a = some u) : G p l e rX2_everyLord s m args below meth c 1 Z layX (MQ below (QI Z layX σ u s.heap.size) args s 0 0 (pA Z layX s.heap.size)) σ 0 [(0, .ref (ad Z a))] [] := by
  unfold fX2_everyLord at h
  refine g_iconst (pc := 0) C (v := (1 : Int32)) dX2_everyLord_0 (by decide) ?_
  refine g_aload_n (pc := 1) C dX2_everyLord_1 rfl 0 rfl ?_
  refine g_geti (pc := 2) C (Cn := RX2) (T := TX2) (N := 8) (ci := 2) (k := a) (j := 0) uX2_everyLord_X2 h_a.1 rfl (by decide) (by decide +kernel) (q := 0) rfl dX2_everyLord_2 ?_
  refine g_ishl (pc := 5) C dX2_everyLord_5 ?_
  refine g_iconst (pc := 6) C (v := (1 : Int32)) dX2_everyLord_6 (by decide) ?_
  refine g_isub (pc := 7) C dX2_everyLord_7 ?_
  exact g_iret C dX2_everyLord_8 rfl (Option.some.inj h)
theorem mX2_everyLord (l : Launch) (Z : Sh) {σ : Sg} {a : Nat} {u : Int32} (h_a : IsR a) (h : fX2_everyLord σ a = some u) : MI l Z layX yX2_everyLord wsX2_everyLord rX2_everyLord [.ref (ad Z a)] σ σ u :=
  MI.of (cc := cX2_everyLord) (maxL := 1) (ret := (some .int)) (by decide) rfl (Nat.le_of_ble_eq_true rfl) (fun p e s m below meth c C => kX2_everyLord_e C h_a h)

def rX2_hasLords : Room := { frames := 1, cells := 0, slots := 0, locals := 20 }
def fX2_hasLords (σ : Sg) (a : Nat) (v1 : Int32) : Option (Int32) := if v1 < 0 then some (0 : Int32) else (fX2_everyLord σ a).bind fun t1 => if t1 < v1 then some (0 : Int32) else some (1 : Int32)
set_option maxHeartbeats 1000000 in
set_option maxRecDepth 20000 in
theorem kX2_hasLords_e {p : Program} {l : Launch} {e : Env} {s : State} {m : MethodId} {args : Array Value} {below : List Frame} {meth : Method} {c : Code} {Z : Sh} (C : Cx p s m args meth c cX2_hasLords 2 wsX2_hasLords RX2 (some .boolean) Z layX) {σ : Sg} {a : Nat} {v1 : Int32} {u : Int32} (h_a : IsR a) (h : fX2_hasLords σ a v1 = some u) : G p l e rX2_hasLords s m args below meth c 2 Z layX (MQ below (QI Z layX σ u s.heap.size) args s 0 0 (pA Z layX s.heap.size)) σ 0 [(0, .ref (ad Z a)), (1, .int v1)] [] := by
  unfold fX2_hasLords at h
  refine g_iload_n (pc := 0) C dX2_hasLords_0 rfl 1 rfl ?_
  refine g_if_lt (pc := 1) C (tgt := 16) dX2_hasLords_1 (by decide) h (fun hc1 h => ?_) (fun hc1 h => ?_)
  · refine g_iconst (pc := 16) C (v := (0 : Int32)) dX2_hasLords_16 (by decide) ?_
    exact g_zret C dX2_hasLords_17 rfl (rz0.trans h)
  · refine g_iload_n (pc := 4) C dX2_hasLords_4 rfl 1 rfl ?_
    refine g_aload_n (pc := 5) C dX2_hasLords_5 rfl 0 rfl ?_
    obtain ⟨t1, et1, h⟩ := bs h
    refine g_callVi (pc := 6) C (As := []) (rest := [.int v1]) (k := a) h_a.1 (by rfl) (cwV 0 C.2.2.2.2.2.1 gX2_hasLords_X2_everyLord rfl rfl rfl (by decide +kernel) ⟨Nat.le_of_ble_eq_true rfl, Nat.le_of_ble_eq_true rfl⟩) (mX2_everyLord l Z h_a et1) rfl rfl (Nat.le_of_ble_eq_true rfl) dX2_hasLords_6 ?_
    refine g_icmp_gt (pc := 9) C (tgt := 16) dX2_hasLords_9 (by decide) h (fun hc9 h => ?_) (fun hc9 h => ?_)
    · refine g_iconst (pc := 16) C (v := (0 : Int32)) dX2_hasLords_16 (by decide) ?_
      exact g_zret C dX2_hasLords_17 rfl (rz0.trans h)
    · refine g_iconst (pc := 12) C (v := (1 : Int32)) dX2_hasLords_12 (by decide) ?_
      refine g_goto (pc := 13) C (tgt := 17) dX2_hasLords_13 (by decide) ?_
      exact g_zret C dX2_hasLords_17 rfl (rz1.trans h)
theorem mX2_hasLords (l : Launch) (Z : Sh) {σ : Sg} {a : Nat} {v1 : Int32} {u : Int32} (h_a : IsR a) (h : fX2_hasLords σ a v1 = some u) : MI l Z layX yX2_hasLords wsX2_hasLords rX2_hasLords [.ref (ad Z a), .int v1] σ σ u :=
  MI.of (cc := cX2_hasLords) (maxL := 2) (ret := (some .boolean)) (by decide) rfl (Nat.le_of_ble_eq_true rfl) (fun p e s m below meth c C => kX2_hasLords_e C h_a h)

def rX2_allGuineas : Room := { frames := 0, cells := 0, slots := 0, locals := 0 }
theorem uX2_allGuineas_X2 : ∀ w ∈ wsX20, w ∈ wsX2_allGuineas := by decide +kernel
def fX2_allGuineas_l4 (σ : Sg) (a : Nat)  : Nat → Int32 → Int32 → Option (Int32)
  | 0, _, _ => none
  | n + 1, v1, v2 => if (σ a 0) ≤ v2 then some v1 else (rd (σ (a + 1)) 4 v2).bind fun t1 => fX2_allGuineas_l4 σ a n (v1 + t1) (v2 + 1)
def fX2_allGuineas (σ : Sg) (a : Nat) : Option (Int32) := fX2_allGuineas_l4 σ a 2000 (0 : Int32) (0 : Int32)
set_option maxHeartbeats 1000000 in
set_option maxRecDepth 20000 in
theorem kX2_allGuineas_l4 {p : Program} {l : Launch} {e : Env} {s : State} {m : MethodId} {args : Array Value} {below : List Frame} {meth : Method} {c : Code} {Z : Sh} (C : Cx p s m args meth c cX2_allGuineas 3 wsX2_allGuineas RX2 (some .int) Z layX) {σ : Sg} {a : Nat} {u : Int32} (h_a : IsR a)  : ∀ (n : Nat) (v1 : Int32) (v2 : Int32), fX2_allGuineas_l4 σ a n v1 v2 = some u → G p l e rX2_allGuineas s m args below meth c 3 Z layX (MQ below (QI Z layX σ u s.heap.size) args s 0 0 (pA Z layX s.heap.size)) σ 4 [(0, .ref (ad Z a)), (1, .int v1), (2, .int v2)] [] := by
  intro n
  induction n with
  | zero => intro v1 v2 h; exact absurd h (by simp [fX2_allGuineas_l4])
  | succ n ih =>
    intro v1 v2 h
    rw [fX2_allGuineas_l4] at h
    refine g_iload_n (pc := 4) C dX2_allGuineas_4 rfl 2 rfl ?_
    refine g_aload_n (pc := 5) C dX2_allGuineas_5 rfl 0 rfl ?_
    refine g_geti (pc := 6) C (Cn := RX2) (T := TX2) (N := 8) (ci := 2) (k := a) (j := 0) uX2_allGuineas_X2 h_a.1 rfl (by decide) (by decide +kernel) (q := 0) rfl dX2_allGuineas_6 ?_
    refine g_icmp_ge (pc := 9) C (tgt := 27) dX2_allGuineas_9 (by decide) h (fun hc9 h => ?_) (fun hc9 h => ?_)
    · refine g_iload_n (pc := 27) C dX2_allGuineas_27 rfl 1 rfl ?_
      exact g_iret C dX2_allGuineas_28 rfl (Option.some.inj h)
    · refine g_iload_n (pc := 12) C dX2_allGuineas_12 rfl 1 rfl ?_
      refine g_aload_n (pc := 13) C dX2_allGuineas_13 rfl 0 rfl ?_
      refine g_getr (pc := 14) C (Cn := RX2) (T := TX2) (N := 8) (ci := 2) (k := a) (j := 3) uX2_allGuineas_X2 h_a.1 rfl (by decide) (by decide +kernel) (q := (a + 1)) rfl dX2_allGuineas_14 ?_
      refine g_iload_n (pc := 17) C dX2_allGuineas_17 rfl 2 rfl ?_
      obtain ⟨t1, et1, h⟩ := bs h
      refine g_iald (pc := 18) C (k := (a + 1)) (n := 4) h_a.2.1 et1 dX2_allGuineas_18 ?_
      refine g_iadd (pc := 19) C dX2_allGuineas_19 ?_
      refine g_istore_n (pc := 20) C (lv2 := [(1, .int (v1 + t1)), (0, .ref (ad Z a)), (2, .int v2)]) dX2_allGuineas_20 rfl (by decide) rfl ?_
      refine g_iinc (pc := 21) C (j := 2) (v := (v2 + 1)) (lv2 := [(2, .int (v2 + 1)), (1, .int (v1 + t1)), (0, .ref (ad Z a))]) dX2_allGuineas_21 rfl rfl (by decide) rfl ?_
      refine g_goto (pc := 24) C (tgt := 4) dX2_allGuineas_24 (by decide) ?_
      exact g_sub [2, 1, 0] rfl (ih _ _ h)
set_option maxHeartbeats 1000000 in
set_option maxRecDepth 20000 in
theorem kX2_allGuineas_e {p : Program} {l : Launch} {e : Env} {s : State} {m : MethodId} {args : Array Value} {below : List Frame} {meth : Method} {c : Code} {Z : Sh} (C : Cx p s m args meth c cX2_allGuineas 3 wsX2_allGuineas RX2 (some .int) Z layX) {σ : Sg} {a : Nat} {u : Int32} (h_a : IsR a) (h : fX2_allGuineas σ a = some u) : G p l e rX2_allGuineas s m args below meth c 3 Z layX (MQ below (QI Z layX σ u s.heap.size) args s 0 0 (pA Z layX s.heap.size)) σ 0 [(0, .ref (ad Z a))] [] := by
  unfold fX2_allGuineas at h
  refine g_iconst (pc := 0) C (v := (0 : Int32)) dX2_allGuineas_0 (by decide) ?_
  refine g_istore_n (pc := 1) C (lv2 := [(1, .int (0 : Int32)), (0, .ref (ad Z a))]) dX2_allGuineas_1 rfl (by decide) rfl ?_
  refine g_iconst (pc := 2) C (v := (0 : Int32)) dX2_allGuineas_2 (by decide) ?_
  refine g_istore_n (pc := 3) C (lv2 := [(2, .int (0 : Int32)), (1, .int (0 : Int32)), (0, .ref (ad Z a))]) dX2_allGuineas_3 rfl (by decide) rfl ?_
  exact g_sub [2, 1, 0] rfl (kX2_allGuineas_l4 C h_a  _ _ _ h)
theorem mX2_allGuineas (l : Launch) (Z : Sh) {σ : Sg} {a : Nat} {u : Int32} (h_a : IsR a) (h : fX2_allGuineas σ a = some u) : MI l Z layX yX2_allGuineas wsX2_allGuineas rX2_allGuineas [.ref (ad Z a)] σ σ u :=
  MI.of (cc := cX2_allGuineas) (maxL := 3) (ret := (some .int)) (by decide) rfl (Nat.le_of_ble_eq_true rfl) (fun p e s m below meth c C => kX2_allGuineas_e C h_a h)

def rX2_votesOf : Room := { frames := 1, cells := 0, slots := 0, locals := 21 }
theorem uX2_votesOf_X2 : ∀ w ∈ wsX20, w ∈ wsX2_votesOf := by decide +kernel
def fX2_votesOf (σ : Sg) (a : Nat) (v1 : Int32) : Option (Int32) := (fX2_hasBorough σ a v1).bind fun t1 => if t1 = 0 then some (0 : Int32) else (rd (σ (a + 3)) 6 v1).bind fun t2 => (dv (t2 + (1 : Int32)) (2 : Int32)).bind fun t3 => (rd (σ (a + 2)) 6 v1).bind fun t4 => if t4 = (0 : Int32) then (rd (σ (a + 3)) 6 v1).bind fun t5 => some t5 else if t4 = (1 : Int32) then some t3 else if t4 = (2 : Int32) then some (t3 + (1 : Int32)) else (rd (σ (a + 3)) 6 v1).bind fun t6 => some (t6 + t3)
set_option maxHeartbeats 1000000 in
set_option maxRecDepth 20000 in
theorem kX2_votesOf_e {p : Program} {l : Launch} {e : Env} {s : State} {m : MethodId} {args : Array Value} {below : List Frame} {meth : Method} {c : Code} {Z : Sh} (C : Cx p s m args meth c cX2_votesOf 3 wsX2_votesOf RX2 (some .int) Z layX) {σ : Sg} {a : Nat} {v1 : Int32} {u : Int32} (h_a : IsR a) (h : fX2_votesOf σ a v1 = some u) : G p l e rX2_votesOf s m args below meth c 3 Z layX (MQ below (QI Z layX σ u s.heap.size) args s 0 0 (pA Z layX s.heap.size)) σ 0 [(0, .ref (ad Z a)), (1, .int v1)] [] := by
  unfold fX2_votesOf at h
  refine g_aload_n (pc := 0) C dX2_votesOf_0 rfl 0 rfl ?_
  refine g_iload_n (pc := 1) C dX2_votesOf_1 rfl 1 rfl ?_
  obtain ⟨t1, et1, h⟩ := bs h
  refine g_callVi (pc := 2) C (As := [.int v1]) (rest := []) (k := a) h_a.1 (by rfl) (cwV 1 C.2.2.2.2.2.1 gX2_votesOf_X2_hasBorough rfl rfl rfl (by decide +kernel) ⟨Nat.le_of_ble_eq_true rfl, Nat.le_of_ble_eq_true rfl⟩) (mX2_hasBorough l Z h_a et1) rfl rfl (Nat.le_of_ble_eq_true rfl) dX2_votesOf_2 ?_
  refine g_if_ne (pc := 5) C (tgt := 10) dX2_votesOf_5 (by decide) h (fun hc5 h => ?_) (fun hc5 h => ?_)
  · refine g_aload_n (pc := 10) C dX2_votesOf_10 rfl 0 rfl ?_
    refine g_getr (pc := 11) C (Cn := RX2) (T := TX2) (N := 8) (ci := 2) (k := a) (j := 5) uX2_votesOf_X2 h_a.1 rfl (by decide) (by decide +kernel) (q := (a + 3)) rfl dX2_votesOf_11 ?_
    refine g_iload_n (pc := 14) C dX2_votesOf_14 rfl 1 rfl ?_
    obtain ⟨t2, et2, h⟩ := bs h
    refine g_iald (pc := 15) C (k := (a + 3)) (n := 6) h_a.2.2.2.1 et2 dX2_votesOf_15 ?_
    refine g_iconst (pc := 16) C (v := (1 : Int32)) dX2_votesOf_16 (by decide) ?_
    refine g_iadd (pc := 17) C dX2_votesOf_17 ?_
    refine g_iconst (pc := 18) C (v := (2 : Int32)) dX2_votesOf_18 (by decide) ?_
    obtain ⟨t3, et3, h⟩ := bs h
    refine g_idiv (pc := 19) C dX2_votesOf_19 et3 ?_
    refine g_istore_n (pc := 20) C (lv2 := [(2, .int t3), (0, .ref (ad Z a)), (1, .int v1)]) dX2_votesOf_20 rfl (by decide) rfl ?_
    refine g_aload_n (pc := 21) C dX2_votesOf_21 rfl 1 rfl ?_
    refine g_getr (pc := 22) C (Cn := RX2) (T := TX2) (N := 8) (ci := 2) (k := a) (j := 4) uX2_votesOf_X2 h_a.1 rfl (by decide) (by decide +kernel) (q := (a + 2)) rfl dX2_votesOf_22 ?_
    refine g_iload_n (pc := 25) C dX2_votesOf_25 rfl 2 rfl ?_
    obtain ⟨t4, et4, h⟩ := bs h
    refine g_iald (pc := 26) C (k := (a + 2)) (n := 6) h_a.2.2.1 et4 dX2_votesOf_26 ?_
    refine g_sw (pc := 27) C (off := 25) (tgt := 52) (0 : Int32) dX2_votesOf_27 (by decide) (by decide) (by decide) (by decide) h (fun hc27 h => ?_) (fun hn27_0 h => ?_)
    · refine g_aload_n (pc := 52) C dX2_votesOf_52 rfl 1 rfl ?_
      refine g_getr (pc := 53) C (Cn := RX2) (T := TX2) (N := 8) (ci := 2) (k := a) (j := 5) uX2_votesOf_X2 h_a.1 rfl (by decide) (by decide +kernel) (q := (a + 3)) rfl dX2_votesOf_53 ?_
      refine g_iload_n (pc := 56) C dX2_votesOf_56 rfl 2 rfl ?_
      obtain ⟨t5, et5, h⟩ := bs h
      refine g_iald (pc := 57) C (k := (a + 3)) (n := 6) h_a.2.2.2.1 et5 dX2_votesOf_57 ?_
      exact g_iret C dX2_votesOf_58 rfl (Option.some.inj h)
    refine g_sw (pc := 27) C (off := 32) (tgt := 59) (1 : Int32) dX2_votesOf_27 (by decide) (by decide) (by decide) (by decide) h (fun hc27 h => ?_) (fun hn27_1 h => ?_)
    · refine g_iload_n (pc := 59) C dX2_votesOf_59 rfl 0 rfl ?_
      exact g_iret C dX2_votesOf_60 rfl (Option.some.inj h)
    refine g_sw (pc := 27) C (off := 34) (tgt := 61) (2 : Int32) dX2_votesOf_27 (by decide) (by decide) (by decide) (by decide) h (fun hc27 h => ?_) (fun hn27_2 h => ?_)
    · refine g_iload_n (pc := 61) C dX2_votesOf_61 rfl 0 rfl ?_
      refine g_iconst (pc := 62) C (v := (1 : Int32)) dX2_votesOf_62 (by decide) ?_
      refine g_iadd (pc := 63) C dX2_votesOf_63 ?_
      exact g_iret C dX2_votesOf_64 rfl (Option.some.inj h)
    refine g_swd (pc := 27) C (tgt := 65) dX2_votesOf_27 (by have z0 := ne_ti hn27_0; have z1 := ne_ti hn27_1; have z2 := ne_ti hn27_2; simp at z0 z1 z2; omega) (by decide) ?_
    refine g_aload_n (pc := 65) C dX2_votesOf_65 rfl 1 rfl ?_
    refine g_getr (pc := 66) C (Cn := RX2) (T := TX2) (N := 8) (ci := 2) (k := a) (j := 5) uX2_votesOf_X2 h_a.1 rfl (by decide) (by decide +kernel) (q := (a + 3)) rfl dX2_votesOf_66 ?_
    refine g_iload_n (pc := 69) C dX2_votesOf_69 rfl 2 rfl ?_
    obtain ⟨t6, et6, h⟩ := bs h
    refine g_iald (pc := 70) C (k := (a + 3)) (n := 6) h_a.2.2.2.1 et6 dX2_votesOf_70 ?_
    refine g_iload_n (pc := 71) C dX2_votesOf_71 rfl 0 rfl ?_
    refine g_iadd (pc := 72) C dX2_votesOf_72 ?_
    exact g_iret C dX2_votesOf_73 rfl (Option.some.inj h)
  · refine g_iconst (pc := 8) C (v := (0 : Int32)) dX2_votesOf_8 (by decide) ?_
    exact g_iret C dX2_votesOf_9 rfl (Option.some.inj h)
theorem mX2_votesOf (l : Launch) (Z : Sh) {σ : Sg} {a : Nat} {v1 : Int32} {u : Int32} (h_a : IsR a) (h : fX2_votesOf σ a v1 = some u) : MI l Z layX yX2_votesOf wsX2_votesOf rX2_votesOf [.ref (ad Z a), .int v1] σ σ u :=
  MI.of (cc := cX2_votesOf) (maxL := 3) (ret := (some .int)) (by decide) rfl (Nat.le_of_ble_eq_true rfl) (fun p e s m below meth c C => kX2_votesOf_e C h_a h)

def rX2_allVotes : Room := { frames := 2, cells := 0, slots := 0, locals := 43 }
theorem uX2_allVotes_X2 : ∀ w ∈ wsX20, w ∈ wsX2_allVotes := by decide +kernel
def fX2_allVotes_l4 (σ : Sg) (a : Nat)  : Nat → Int32 → Int32 → Option (Int32)
  | 0, _, _ => none
  | n + 1, v1, v2 => if (σ a 1) ≤ v2 then some v1 else (fX2_votesOf σ a v2).bind fun t1 => fX2_allVotes_l4 σ a n (v1 + t1) (v2 + 1)
def fX2_allVotes (σ : Sg) (a : Nat) : Option (Int32) := fX2_allVotes_l4 σ a 2000 (0 : Int32) (0 : Int32)
set_option maxHeartbeats 1000000 in
set_option maxRecDepth 20000 in
theorem kX2_allVotes_l4 {p : Program} {l : Launch} {e : Env} {s : State} {m : MethodId} {args : Array Value} {below : List Frame} {meth : Method} {c : Code} {Z : Sh} (C : Cx p s m args meth c cX2_allVotes 3 wsX2_allVotes RX2 (some .int) Z layX) {σ : Sg} {a : Nat} {u : Int32} (h_a : IsR a)  : ∀ (n : Nat) (v1 : Int32) (v2 : Int32), fX2_allVotes_l4 σ a n v1 v2 = some u → G p l e rX2_allVotes s m args below meth c 3 Z layX (MQ below (QI Z layX σ u s.heap.size) args s 0 0 (pA Z layX s.heap.size)) σ 4 [(0, .ref (ad Z a)), (1, .int v1), (2, .int v2)] [] := by
  intro n
  induction n with
  | zero => intro v1 v2 h; exact absurd h (by simp [fX2_allVotes_l4])
  | succ n ih =>
    intro v1 v2 h
    rw [fX2_allVotes_l4] at h
    refine g_iload_n (pc := 4) C dX2_allVotes_4 rfl 2 rfl ?_
    refine g_aload_n (pc := 5) C dX2_allVotes_5 rfl 0 rfl ?_
    refine g_geti (pc := 6) C (Cn := RX2) (T := TX2) (N := 8) (ci := 2) (k := a) (j := 1) uX2_allVotes_X2 h_a.1 rfl (by decide) (by decide +kernel) (q := 0) rfl dX2_allVotes_6 ?_
    refine g_icmp_ge (pc := 9) C (tgt := 26) dX2_allVotes_9 (by decide) h (fun hc9 h => ?_) (fun hc9 h => ?_)
    · refine g_iload_n (pc := 26) C dX2_allVotes_26 rfl 1 rfl ?_
      exact g_iret C dX2_allVotes_27 rfl (Option.some.inj h)
    · refine g_iload_n (pc := 12) C dX2_allVotes_12 rfl 1 rfl ?_
      refine g_aload_n (pc := 13) C dX2_allVotes_13 rfl 0 rfl ?_
      refine g_iload_n (pc := 14) C dX2_allVotes_14 rfl 2 rfl ?_
      obtain ⟨t1, et1, h⟩ := bs h
      refine g_callVi (pc := 15) C (As := [.int v2]) (rest := [.int v1]) (k := a) h_a.1 (by rfl) (cwV 1 C.2.2.2.2.2.1 gX2_allVotes_X2_votesOf rfl rfl rfl (by decide +kernel) ⟨Nat.le_of_ble_eq_true rfl, Nat.le_of_ble_eq_true rfl⟩) (mX2_votesOf l Z h_a et1) rfl rfl (Nat.le_of_ble_eq_true rfl) dX2_allVotes_15 ?_
      refine g_iadd (pc := 18) C dX2_allVotes_18 ?_
      refine g_istore_n (pc := 19) C (lv2 := [(1, .int (v1 + t1)), (0, .ref (ad Z a)), (2, .int v2)]) dX2_allVotes_19 rfl (by decide) rfl ?_
      refine g_iinc (pc := 20) C (j := 2) (v := (v2 + 1)) (lv2 := [(2, .int (v2 + 1)), (1, .int (v1 + t1)), (0, .ref (ad Z a))]) dX2_allVotes_20 rfl rfl (by decide) rfl ?_
      refine g_goto (pc := 23) C (tgt := 4) dX2_allVotes_23 (by decide) ?_
      exact g_sub [2, 1, 0] rfl (ih _ _ h)
set_option maxHeartbeats 1000000 in
set_option maxRecDepth 20000 in
theorem kX2_allVotes_e {p : Program} {l : Launch} {e : Env} {s : State} {m : MethodId} {args : Array Value} {below : List Frame} {meth : Method} {c : Code} {Z : Sh} (C : Cx p s m args meth c cX2_allVotes 3 wsX2_allVotes RX2 (some .int) Z layX) {σ : Sg} {a : Nat} {u : Int32} (h_a : IsR a) (h : fX2_allVotes σ a = some u) : G p l e rX2_allVotes s m args below meth c 3 Z layX (MQ below (QI Z layX σ u s.heap.size) args s 0 0 (pA Z layX s.heap.size)) σ 0 [(0, .ref (ad Z a))] [] := by
  unfold fX2_allVotes at h
  refine g_iconst (pc := 0) C (v := (0 : Int32)) dX2_allVotes_0 (by decide) ?_
  refine g_istore_n (pc := 1) C (lv2 := [(1, .int (0 : Int32)), (0, .ref (ad Z a))]) dX2_allVotes_1 rfl (by decide) rfl ?_
  refine g_iconst (pc := 2) C (v := (0 : Int32)) dX2_allVotes_2 (by decide) ?_
  refine g_istore_n (pc := 3) C (lv2 := [(2, .int (0 : Int32)), (1, .int (0 : Int32)), (0, .ref (ad Z a))]) dX2_allVotes_3 rfl (by decide) rfl ?_
  exact g_sub [2, 1, 0] rfl (kX2_allVotes_l4 C h_a  _ _ _ h)
theorem mX2_allVotes (l : Launch) (Z : Sh) {σ : Sg} {a : Nat} {u : Int32} (h_a : IsR a) (h : fX2_allVotes σ a = some u) : MI l Z layX yX2_allVotes wsX2_allVotes rX2_allVotes [.ref (ad Z a)] σ σ u :=
  MI.of (cc := cX2_allVotes) (maxL := 3) (ret := (some .int)) (by decide) rfl (Nat.le_of_ble_eq_true rfl) (fun p e s m below meth c C => kX2_allVotes_e C h_a h)

def rX2_ownerless : Room := { frames := 0, cells := 0, slots := 0, locals := 0 }
theorem uX2_ownerless_X2 : ∀ w ∈ wsX20, w ∈ wsX2_ownerless := by decide +kernel
def fX2_ownerless_l4 (σ : Sg) (a : Nat)  : Nat → Int32 → Int32 → Option (Int32)
  | 0, _, _ => none
  | n + 1, v1, v2 => if (σ a 1) ≤ v2 then some v1 else (rd (σ (a + 5)) 6 v2).bind fun t1 => if t1 = (-4 : Int32) then fX2_ownerless_l4 σ a n (v1 ||| ((1 : Int32) <<< (v2 &&& 31))) (v2 + 1) else fX2_ownerless_l4 σ a n v1 (v2 + 1)
def fX2_ownerless (σ : Sg) (a : Nat) : Option (Int32) := fX2_ownerless_l4 σ a 2000 (0 : Int32) (0 : Int32)
set_option maxHeartbeats 1000000 in
set_option maxRecDepth 20000 in
theorem kX2_ownerless_l4 {p : Program} {l : Launch} {e : Env} {s : State} {m : MethodId} {args : Array Value} {below : List Frame} {meth : Method} {c : Code} {Z : Sh} (C : Cx p s m args meth c cX2_ownerless 3 wsX2_ownerless RX2 (some .int) Z layX) {σ : Sg} {a : Nat} {u : Int32} (h_a : IsR a)  : ∀ (n : Nat) (v1 : Int32) (v2 : Int32), fX2_ownerless_l4 σ a n v1 v2 = some u → G p l e rX2_ownerless s m args below meth c 3 Z layX (MQ below (QI Z layX σ u s.heap.size) args s 0 0 (pA Z layX s.heap.size)) σ 4 [(0, .ref (ad Z a)), (1, .int v1), (2, .int v2)] [] := by
  intro n
  induction n with
  | zero => intro v1 v2 h; exact absurd h (by simp [fX2_ownerless_l4])
  | succ n ih =>
    intro v1 v2 h
    rw [fX2_ownerless_l4] at h
    refine g_iload_n (pc := 4) C dX2_ownerless_4 rfl 2 rfl ?_
    refine g_aload_n (pc := 5) C dX2_ownerless_5 rfl 0 rfl ?_
    refine g_geti (pc := 6) C (Cn := RX2) (T := TX2) (N := 8) (ci := 2) (k := a) (j := 1) uX2_ownerless_X2 h_a.1 rfl (by decide) (by decide +kernel) (q := 0) rfl dX2_ownerless_6 ?_
    refine g_icmp_ge (pc := 9) C (tgt := 35) dX2_ownerless_9 (by decide) h (fun hc9 h => ?_) (fun hc9 h => ?_)
    · refine g_iload_n (pc := 35) C dX2_ownerless_35 rfl 1 rfl ?_
      exact g_iret C dX2_ownerless_36 rfl (Option.some.inj h)
    · refine g_aload_n (pc := 12) C dX2_ownerless_12 rfl 0 rfl ?_
      refine g_getr (pc := 13) C (Cn := RX2) (T := TX2) (N := 8) (ci := 2) (k := a) (j := 7) uX2_ownerless_X2 h_a.1 rfl (by decide) (by decide +kernel) (q := (a + 5)) rfl dX2_ownerless_13 ?_
      refine g_iload_n (pc := 16) C dX2_ownerless_16 rfl 2 rfl ?_
      obtain ⟨t1, et1, h⟩ := bs h
      refine g_iald (pc := 17) C (k := (a + 5)) (n := 6) h_a.2.2.2.2.2 et1 dX2_ownerless_17 ?_
      refine g_bipush (pc := 18) C (v := (-4 : Int32)) dX2_ownerless_18 (by decide) ?_
      refine g_icmp_ne (pc := 20) C (tgt := 29) dX2_ownerless_20 (by decide) h (fun hc20 h => ?_) (fun hc20 h => ?_)
      · refine g_iinc (pc := 29) C (j := 2) (v := (v2 + 1)) (lv2 := [(2, .int (v2 + 1)), (0, .ref (ad Z a)), (1, .int v1)]) dX2_ownerless_29 rfl rfl (by decide) rfl ?_
        refine g_goto (pc := 32) C (tgt := 4) dX2_ownerless_32 (by decide) ?_
        exact g_sub [1, 2, 0] rfl (ih _ _ h)
      · refine g_iload_n (pc := 23) C dX2_ownerless_23 rfl 1 rfl ?_
        refine g_iconst (pc := 24) C (v := (1 : Int32)) dX2_ownerless_24 (by decide) ?_
        refine g_iload_n (pc := 25) C dX2_ownerless_25 rfl 2 rfl ?_
        refine g_ishl (pc := 26) C dX2_ownerless_26 ?_
        refine g_ior (pc := 27) C dX2_ownerless_27 ?_
        refine g_istore_n (pc := 28) C (lv2 := [(1, .int (v1 ||| ((1 : Int32) <<< (v2 &&& 31)))), (0, .ref (ad Z a)), (2, .int v2)]) dX2_ownerless_28 rfl (by decide) rfl ?_
        refine g_iinc (pc := 29) C (j := 2) (v := (v2 + 1)) (lv2 := [(2, .int (v2 + 1)), (1, .int (v1 ||| ((1 : Int32) <<< (v2 &&& 31)))), (0, .ref (ad Z a))]) dX2_ownerless_29 rfl rfl (by decide) rfl ?_
        refine g_goto (pc := 32) C (tgt := 4) dX2_ownerless_32 (by decide) ?_
        exact g_sub [2, 1, 0] rfl (ih _ _ h)
set_option maxHeartbeats 1000000 in
set_option maxRecDepth 20000 in
theorem kX2_ownerless_e {p : Program} {l : Launch} {e : Env} {s : State} {m : MethodId} {args : Array Value} {below : List Frame} {meth : Method} {c : Code} {Z : Sh} (C : Cx p s m args meth c cX2_ownerless 3 wsX2_ownerless RX2 (some .int) Z layX) {σ : Sg} {a : Nat} {u : Int32} (h_a : IsR a) (h : fX2_ownerless σ a = some u) : G p l e rX2_ownerless s m args below meth c 3 Z layX (MQ below (QI Z layX σ u s.heap.size) args s 0 0 (pA Z layX s.heap.size)) σ 0 [(0, .ref (ad Z a))] [] := by
  unfold fX2_ownerless at h
  refine g_iconst (pc := 0) C (v := (0 : Int32)) dX2_ownerless_0 (by decide) ?_
  refine g_istore_n (pc := 1) C (lv2 := [(1, .int (0 : Int32)), (0, .ref (ad Z a))]) dX2_ownerless_1 rfl (by decide) rfl ?_
  refine g_iconst (pc := 2) C (v := (0 : Int32)) dX2_ownerless_2 (by decide) ?_
  refine g_istore_n (pc := 3) C (lv2 := [(2, .int (0 : Int32)), (1, .int (0 : Int32)), (0, .ref (ad Z a))]) dX2_ownerless_3 rfl (by decide) rfl ?_
  exact g_sub [2, 1, 0] rfl (kX2_ownerless_l4 C h_a  _ _ _ h)
theorem mX2_ownerless (l : Launch) (Z : Sh) {σ : Sg} {a : Nat} {u : Int32} (h_a : IsR a) (h : fX2_ownerless σ a = some u) : MI l Z layX yX2_ownerless wsX2_ownerless rX2_ownerless [.ref (ad Z a)] σ σ u :=
  MI.of (cc := cX2_ownerless) (maxL := 3) (ret := (some .int)) (by decide) rfl (Nat.le_of_ble_eq_true rfl) (fun p e s m below meth c C => kX2_ownerless_e C h_a h)

def rX2_seatless : Room := { frames := 0, cells := 0, slots := 0, locals := 0 }
theorem uX2_seatless_X2 : ∀ w ∈ wsX20, w ∈ wsX2_seatless := by decide +kernel
def fX2_seatless_l4 (σ : Sg) (a : Nat)  : Nat → Int32 → Int32 → Option (Int32)
  | 0, _, _ => none
  | n + 1, v1, v2 => if (σ a 1) ≤ v2 then some v1 else (rd (σ (a + 4)) 6 v2).bind fun t1 => if t1 = 0 then fX2_seatless_l4 σ a n (v1 ||| ((1 : Int32) <<< (v2 &&& 31))) (v2 + 1) else fX2_seatless_l4 σ a n v1 (v2 + 1)
def fX2_seatless (σ : Sg) (a : Nat) : Option (Int32) := fX2_seatless_l4 σ a 2000 (0 : Int32) (0 : Int32)
set_option maxHeartbeats 1000000 in
set_option maxRecDepth 20000 in
theorem kX2_seatless_l4 {p : Program} {l : Launch} {e : Env} {s : State} {m : MethodId} {args : Array Value} {below : List Frame} {meth : Method} {c : Code} {Z : Sh} (C : Cx p s m args meth c cX2_seatless 3 wsX2_seatless RX2 (some .int) Z layX) {σ : Sg} {a : Nat} {u : Int32} (h_a : IsR a)  : ∀ (n : Nat) (v1 : Int32) (v2 : Int32), fX2_seatless_l4 σ a n v1 v2 = some u → G p l e rX2_seatless s m args below meth c 3 Z layX (MQ below (QI Z layX σ u s.heap.size) args s 0 0 (pA Z layX s.heap.size)) σ 4 [(0, .ref (ad Z a)), (1, .int v1), (2, .int v2)] [] := by
  intro n
  induction n with
  | zero => intro v1 v2 h; exact absurd h (by simp [fX2_seatless_l4])
  | succ n ih =>
    intro v1 v2 h
    rw [fX2_seatless_l4] at h
    refine g_iload_n (pc := 4) C dX2_seatless_4 rfl 2 rfl ?_
    refine g_aload_n (pc := 5) C dX2_seatless_5 rfl 0 rfl ?_
    refine g_geti (pc := 6) C (Cn := RX2) (T := TX2) (N := 8) (ci := 2) (k := a) (j := 1) uX2_seatless_X2 h_a.1 rfl (by decide) (by decide +kernel) (q := 0) rfl dX2_seatless_6 ?_
    refine g_icmp_ge (pc := 9) C (tgt := 33) dX2_seatless_9 (by decide) h (fun hc9 h => ?_) (fun hc9 h => ?_)
    · refine g_iload_n (pc := 33) C dX2_seatless_33 rfl 1 rfl ?_
      exact g_iret C dX2_seatless_34 rfl (Option.some.inj h)
    · refine g_aload_n (pc := 12) C dX2_seatless_12 rfl 0 rfl ?_
      refine g_getr (pc := 13) C (Cn := RX2) (T := TX2) (N := 8) (ci := 2) (k := a) (j := 6) uX2_seatless_X2 h_a.1 rfl (by decide) (by decide +kernel) (q := (a + 4)) rfl dX2_seatless_13 ?_
      refine g_iload_n (pc := 16) C dX2_seatless_16 rfl 2 rfl ?_
      obtain ⟨t1, et1, h⟩ := bs h
      refine g_iald (pc := 17) C (k := (a + 4)) (n := 6) h_a.2.2.2.2.1 et1 dX2_seatless_17 ?_
      refine g_if_ne (pc := 18) C (tgt := 27) dX2_seatless_18 (by decide) h (fun hc18 h => ?_) (fun hc18 h => ?_)
      · refine g_iinc (pc := 27) C (j := 2) (v := (v2 + 1)) (lv2 := [(2, .int (v2 + 1)), (0, .ref (ad Z a)), (1, .int v1)]) dX2_seatless_27 rfl rfl (by decide) rfl ?_
        refine g_goto (pc := 30) C (tgt := 4) dX2_seatless_30 (by decide) ?_
        exact g_sub [1, 2, 0] rfl (ih _ _ h)
      · refine g_iload_n (pc := 21) C dX2_seatless_21 rfl 1 rfl ?_
        refine g_iconst (pc := 22) C (v := (1 : Int32)) dX2_seatless_22 (by decide) ?_
        refine g_iload_n (pc := 23) C dX2_seatless_23 rfl 2 rfl ?_
        refine g_ishl (pc := 24) C dX2_seatless_24 ?_
        refine g_ior (pc := 25) C dX2_seatless_25 ?_
        refine g_istore_n (pc := 26) C (lv2 := [(1, .int (v1 ||| ((1 : Int32) <<< (v2 &&& 31)))), (0, .ref (ad Z a)), (2, .int v2)]) dX2_seatless_26 rfl (by decide) rfl ?_
        refine g_iinc (pc := 27) C (j := 2) (v := (v2 + 1)) (lv2 := [(2, .int (v2 + 1)), (1, .int (v1 ||| ((1 : Int32) <<< (v2 &&& 31)))), (0, .ref (ad Z a))]) dX2_seatless_27 rfl rfl (by decide) rfl ?_
        refine g_goto (pc := 30) C (tgt := 4) dX2_seatless_30 (by decide) ?_
        exact g_sub [2, 1, 0] rfl (ih _ _ h)
set_option maxHeartbeats 1000000 in
set_option maxRecDepth 20000 in
theorem kX2_seatless_e {p : Program} {l : Launch} {e : Env} {s : State} {m : MethodId} {args : Array Value} {below : List Frame} {meth : Method} {c : Code} {Z : Sh} (C : Cx p s m args meth c cX2_seatless 3 wsX2_seatless RX2 (some .int) Z layX) {σ : Sg} {a : Nat} {u : Int32} (h_a : IsR a) (h : fX2_seatless σ a = some u) : G p l e rX2_seatless s m args below meth c 3 Z layX (MQ below (QI Z layX σ u s.heap.size) args s 0 0 (pA Z layX s.heap.size)) σ 0 [(0, .ref (ad Z a))] [] := by
  unfold fX2_seatless at h
  refine g_iconst (pc := 0) C (v := (0 : Int32)) dX2_seatless_0 (by decide) ?_
  refine g_istore_n (pc := 1) C (lv2 := [(1, .int (0 : Int32)), (0, .ref (ad Z a))]) dX2_seatless_1 rfl (by decide) rfl ?_
  refine g_iconst (pc := 2) C (v := (0 : Int32)) dX2_seatless_2 (by decide) ?_
  refine g_istore_n (pc := 3) C (lv2 := [(2, .int (0 : Int32)), (1, .int (0 : Int32)), (0, .ref (ad Z a))]) dX2_seatless_3 rfl (by decide) rfl ?_
  exact g_sub [2, 1, 0] rfl (kX2_seatless_l4 C h_a  _ _ _ h)
theorem mX2_seatless (l : Launch) (Z : Sh) {σ : Sg} {a : Nat} {u : Int32} (h_a : IsR a) (h : fX2_seatless σ a = some u) : MI l Z layX yX2_seatless wsX2_seatless rX2_seatless [.ref (ad Z a)] σ σ u :=
  MI.of (cc := cX2_seatless) (maxL := 3) (ret := (some .int)) (by decide) rfl (Nat.le_of_ble_eq_true rfl) (fun p e s m below meth c C => kX2_seatless_e C h_a h)

def rX2_costOf : Room := { frames := 2, cells := 0, slots := 0, locals := 43 }
theorem uX2_costOf_X2 : ∀ w ∈ wsX20, w ∈ wsX2_costOf := by decide +kernel
def fX2_costOf (σ : Sg) (a : Nat) (v1 : Int32) : Option (Int32) := (fX2_votesOf σ a v1).bind fun t1 => some ((σ a 2) * t1)
set_option maxHeartbeats 1000000 in
set_option maxRecDepth 20000 in
theorem kX2_costOf_e {p : Program} {l : Launch} {e : Env} {s : State} {m : MethodId} {args : Array Value} {below : List Frame} {meth : Method} {c : Code} {Z : Sh} (C : Cx p s m args meth c cX2_costOf 2 wsX2_costOf RX2 (some .int) Z layX) {σ : Sg} {a : Nat} {v1 : Int32} {u : Int32} (h_a : IsR a) (h : fX2_costOf σ a v1 = some u) : G p l e rX2_costOf s m args below meth c 2 Z layX (MQ below (QI Z layX σ u s.heap.size) args s 0 0 (pA Z layX s.heap.size)) σ 0 [(0, .ref (ad Z a)), (1, .int v1)] [] := by
  unfold fX2_costOf at h
  refine g_aload_n (pc := 0) C dX2_costOf_0 rfl 0 rfl ?_
  refine g_geti (pc := 1) C (Cn := RX2) (T := TX2) (N := 8) (ci := 2) (k := a) (j := 2) uX2_costOf_X2 h_a.1 rfl (by decide) (by decide +kernel) (q := 0) rfl dX2_costOf_1 ?_
  refine g_aload_n (pc := 4) C dX2_costOf_4 rfl 0 rfl ?_
  refine g_iload_n (pc := 5) C dX2_costOf_5 rfl 1 rfl ?_
  obtain ⟨t1, et1, h⟩ := bs h
  refine g_callVi (pc := 6) C (As := [.int v1]) (rest := [.int (σ a 2)]) (k := a) h_a.1 (by rfl) (cwV 1 C.2.2.2.2.2.1 gX2_costOf_X2_votesOf rfl rfl rfl (by decide +kernel) ⟨Nat.le_of_ble_eq_true rfl, Nat.le_of_ble_eq_true rfl⟩) (mX2_votesOf l Z h_a et1) rfl rfl (Nat.le_of_ble_eq_true rfl) dX2_costOf_6 ?_
  refine g_imul (pc := 9) C dX2_costOf_9 ?_
  exact g_iret C dX2_costOf_10 rfl (Option.some.inj h)
theorem mX2_costOf (l : Launch) (Z : Sh) {σ : Sg} {a : Nat} {v1 : Int32} {u : Int32} (h_a : IsR a) (h : fX2_costOf σ a v1 = some u) : MI l Z layX yX2_costOf wsX2_costOf rX2_costOf [.ref (ad Z a), .int v1] σ σ u :=
  MI.of (cc := cX2_costOf) (maxL := 2) (ret := (some .int)) (by decide) rfl (Nat.le_of_ble_eq_true rfl) (fun p e s m below meth c C => kX2_costOf_e C h_a h)

def rX2_costOfAll : Room := { frames := 3, cells := 0, slots := 0, locals := 64 }
theorem uX2_costOfAll_X2 : ∀ w ∈ wsX20, w ∈ wsX2_costOfAll := by decide +kernel
def fX2_costOfAll_l4 (σ : Sg) (a : Nat) (v1 : Int32)  : Nat → Int32 → Int32 → Option (Int32)
  | 0, _, _ => none
  | n + 1, v2, v3 => if (σ a 1) ≤ v3 then some v2 else (fX7_holds v1 v3).bind fun t1 => if t1 = 0 then fX2_costOfAll_l4 σ a v1 n v2 (v3 + 1) else (fX2_costOf σ a v3).bind fun t2 => fX2_costOfAll_l4 σ a v1 n (v2 + t2) (v3 + 1)
def fX2_costOfAll (σ : Sg) (a : Nat) (v1 : Int32) : Option (Int32) := fX2_costOfAll_l4 σ a v1 2000 (0 : Int32) (0 : Int32)
set_option maxHeartbeats 1000000 in
set_option maxRecDepth 20000 in
theorem kX2_costOfAll_l4 {p : Program} {l : Launch} {e : Env} {s : State} {m : MethodId} {args : Array Value} {below : List Frame} {meth : Method} {c : Code} {Z : Sh} (C : Cx p s m args meth c cX2_costOfAll 4 wsX2_costOfAll RX2 (some .int) Z layX) {σ : Sg} {a : Nat} {v1 : Int32} {u : Int32} (h_a : IsR a)  : ∀ (n : Nat) (v2 : Int32) (v3 : Int32), fX2_costOfAll_l4 σ a v1 n v2 v3 = some u → G p l e rX2_costOfAll s m args below meth c 4 Z layX (MQ below (QI Z layX σ u s.heap.size) args s 0 0 (pA Z layX s.heap.size)) σ 4 [(0, .ref (ad Z a)), (1, .int v1), (2, .int v2), (3, .int v3)] [] := by
  intro n
  induction n with
  | zero => intro v2 v3 h; exact absurd h (by simp [fX2_costOfAll_l4])
  | succ n ih =>
    intro v2 v3 h
    rw [fX2_costOfAll_l4] at h
    refine g_iload_n (pc := 4) C dX2_costOfAll_4 rfl 3 rfl ?_
    refine g_aload_n (pc := 5) C dX2_costOfAll_5 rfl 0 rfl ?_
    refine g_geti (pc := 6) C (Cn := RX2) (T := TX2) (N := 8) (ci := 2) (k := a) (j := 1) uX2_costOfAll_X2 h_a.1 rfl (by decide) (by decide +kernel) (q := 0) rfl dX2_costOfAll_6 ?_
    refine g_icmp_ge (pc := 9) C (tgt := 34) dX2_costOfAll_9 (by decide) h (fun hc9 h => ?_) (fun hc9 h => ?_)
    · refine g_iload_n (pc := 34) C dX2_costOfAll_34 rfl 2 rfl ?_
      exact g_iret C dX2_costOfAll_35 rfl (Option.some.inj h)
    · refine g_iload_n (pc := 12) C dX2_costOfAll_12 rfl 1 rfl ?_
      refine g_iload_n (pc := 13) C dX2_costOfAll_13 rfl 3 rfl ?_
      obtain ⟨t1, et1, h⟩ := bs h
      refine g_callSNi (pc := 14) C (As := [.int v1, .int v3]) (rest := []) ⟨va_cnB (y := yX7_holds) 2 C.2.2.2.2.2.1 gX2_costOfAll_X7_holds_n45 rfl rfl rfl (C.2.2.2.2.2.2.2.2.1 (.methodLinkNest "MoundVotes$Realm" 45 ⟨"MoundVotes", "holds", "(II)Z"⟩ "MoundVotes") (by decide +kernel)) (C.2.2.2.2.2.1 (.initialized RX7) (by decide +kernel)) (by decide +kernel) ⟨Nat.le_of_ble_eq_true rfl, Nat.le_of_ble_eq_true rfl⟩, C.2.2.2.2.2.1 (.static yX7_holds) (by decide +kernel), trivial⟩ (mX7_holds l Z  et1) rfl rfl (Nat.le_of_ble_eq_true rfl) dX2_costOfAll_14 ?_
      refine g_if_eq (pc := 17) C (tgt := 28) dX2_costOfAll_17 (by decide) h (fun hc17 h => ?_) (fun hc17 h => ?_)
      · refine g_iinc (pc := 28) C (j := 3) (v := (v3 + 1)) (lv2 := [(3, .int (v3 + 1)), (0, .ref (ad Z a)), (1, .int v1), (2, .int v2)]) dX2_costOfAll_28 rfl rfl (by decide) rfl ?_
        refine g_goto (pc := 31) C (tgt := 4) dX2_costOfAll_31 (by decide) ?_
        exact g_sub [1, 2, 3, 0] rfl (ih _ _ h)
      · refine g_iload_n (pc := 20) C dX2_costOfAll_20 rfl 2 rfl ?_
        refine g_aload_n (pc := 21) C dX2_costOfAll_21 rfl 0 rfl ?_
        refine g_iload_n (pc := 22) C dX2_costOfAll_22 rfl 3 rfl ?_
        obtain ⟨t2, et2, h⟩ := bs h
        refine g_callVi (pc := 23) C (As := [.int v3]) (rest := [.int v2]) (k := a) h_a.1 (by rfl) (cwV 1 C.2.2.2.2.2.1 gX2_costOfAll_X2_costOf rfl rfl rfl (by decide +kernel) ⟨Nat.le_of_ble_eq_true rfl, Nat.le_of_ble_eq_true rfl⟩) (mX2_costOf l Z h_a et2) rfl rfl (Nat.le_of_ble_eq_true rfl) dX2_costOfAll_23 ?_
        refine g_iadd (pc := 26) C dX2_costOfAll_26 ?_
        refine g_istore_n (pc := 27) C (lv2 := [(2, .int (v2 + t2)), (0, .ref (ad Z a)), (1, .int v1), (3, .int v3)]) dX2_costOfAll_27 rfl (by decide) rfl ?_
        refine g_iinc (pc := 28) C (j := 3) (v := (v3 + 1)) (lv2 := [(3, .int (v3 + 1)), (2, .int (v2 + t2)), (0, .ref (ad Z a)), (1, .int v1)]) dX2_costOfAll_28 rfl rfl (by decide) rfl ?_
        refine g_goto (pc := 31) C (tgt := 4) dX2_costOfAll_31 (by decide) ?_
        exact g_sub [2, 3, 1, 0] rfl (ih _ _ h)
set_option maxHeartbeats 1000000 in
set_option maxRecDepth 20000 in
theorem kX2_costOfAll_e {p : Program} {l : Launch} {e : Env} {s : State} {m : MethodId} {args : Array Value} {below : List Frame} {meth : Method} {c : Code} {Z : Sh} (C : Cx p s m args meth c cX2_costOfAll 4 wsX2_costOfAll RX2 (some .int) Z layX) {σ : Sg} {a : Nat} {v1 : Int32} {u : Int32} (h_a : IsR a) (h : fX2_costOfAll σ a v1 = some u) : G p l e rX2_costOfAll s m args below meth c 4 Z layX (MQ below (QI Z layX σ u s.heap.size) args s 0 0 (pA Z layX s.heap.size)) σ 0 [(0, .ref (ad Z a)), (1, .int v1)] [] := by
  unfold fX2_costOfAll at h
  refine g_iconst (pc := 0) C (v := (0 : Int32)) dX2_costOfAll_0 (by decide) ?_
  refine g_istore_n (pc := 1) C (lv2 := [(2, .int (0 : Int32)), (0, .ref (ad Z a)), (1, .int v1)]) dX2_costOfAll_1 rfl (by decide) rfl ?_
  refine g_iconst (pc := 2) C (v := (0 : Int32)) dX2_costOfAll_2 (by decide) ?_
  refine g_istore_n (pc := 3) C (lv2 := [(3, .int (0 : Int32)), (2, .int (0 : Int32)), (0, .ref (ad Z a)), (1, .int v1)]) dX2_costOfAll_3 rfl (by decide) rfl ?_
  exact g_sub [2, 3, 1, 0] rfl (kX2_costOfAll_l4 C h_a  _ _ _ h)
theorem mX2_costOfAll (l : Launch) (Z : Sh) {σ : Sg} {a : Nat} {v1 : Int32} {u : Int32} (h_a : IsR a) (h : fX2_costOfAll σ a v1 = some u) : MI l Z layX yX2_costOfAll wsX2_costOfAll rX2_costOfAll [.ref (ad Z a), .int v1] σ σ u :=
  MI.of (cc := cX2_costOfAll) (maxL := 4) (ret := (some .int)) (by decide) rfl (Nat.le_of_ble_eq_true rfl) (fun p e s m below meth c C => kX2_costOfAll_e C h_a h)

def rX2_carries : Room := { frames := 2, cells := 0, slots := 0, locals := 44 }
def fX2_carries (σ : Sg) (a : Nat) (v1 : Int32) : Option (Int32) := (fX2_heldBy σ a v1).bind fun t1 => (fX2_seatsIn σ a t1).bind fun t2 => (fX2_everyBorough σ a).bind fun t3 => (fX2_seatsIn σ a t3).bind fun t4 => if ((2 : Int32) * t2) ≤ t4 then some (0 : Int32) else some (1 : Int32)
set_option maxHeartbeats 1000000 in
set_option maxRecDepth 20000 in
theorem kX2_carries_e {p : Program} {l : Launch} {e : Env} {s : State} {m : MethodId} {args : Array Value} {below : List Frame} {meth : Method} {c : Code} {Z : Sh} (C : Cx p s m args meth c cX2_carries 2 wsX2_carries RX2 (some .boolean) Z layX) {σ : Sg} {a : Nat} {v1 : Int32} {u : Int32} (h_a : IsR a) (h : fX2_carries σ a v1 = some u) : G p l e rX2_carries s m args below meth c 2 Z layX (MQ below (QI Z layX σ u s.heap.size) args s 0 0 (pA Z layX s.heap.size)) σ 0 [(0, .ref (ad Z a)), (1, .int v1)] [] := by
  unfold fX2_carries at h
  refine g_iconst (pc := 0) C (v := (2 : Int32)) dX2_carries_0 (by decide) ?_
  refine g_aload_n (pc := 1) C dX2_carries_1 rfl 0 rfl ?_
  refine g_aload_n (pc := 2) C dX2_carries_2 rfl 0 rfl ?_
  refine g_iload_n (pc := 3) C dX2_carries_3 rfl 1 rfl ?_
  obtain ⟨t1, et1, h⟩ := bs h
  refine g_callVi (pc := 4) C (As := [.int v1]) (rest := [.ref (ad Z a), .int (2 : Int32)]) (k := a) h_a.1 (by rfl) (cwV 1 C.2.2.2.2.2.1 gX2_carries_X2_heldBy rfl rfl rfl (by decide +kernel) ⟨Nat.le_of_ble_eq_true rfl, Nat.le_of_ble_eq_true rfl⟩) (mX2_heldBy l Z h_a et1) rfl rfl (Nat.le_of_ble_eq_true rfl) dX2_carries_4 ?_
  obtain ⟨t2, et2, h⟩ := bs h
  refine g_callVi (pc := 7) C (As := [.int t1]) (rest := [.int (2 : Int32)]) (k := a) h_a.1 (by rfl) (cwV 1 C.2.2.2.2.2.1 gX2_carries_X2_seatsIn rfl rfl rfl (by decide +kernel) ⟨Nat.le_of_ble_eq_true rfl, Nat.le_of_ble_eq_true rfl⟩) (mX2_seatsIn l Z h_a et2) rfl rfl (Nat.le_of_ble_eq_true rfl) dX2_carries_7 ?_
  refine g_imul (pc := 10) C dX2_carries_10 ?_
  refine g_aload_n (pc := 11) C dX2_carries_11 rfl 0 rfl ?_
  refine g_aload_n (pc := 12) C dX2_carries_12 rfl 0 rfl ?_
  obtain ⟨t3, et3, h⟩ := bs h
  refine g_callVi (pc := 13) C (As := []) (rest := [.ref (ad Z a), .int ((2 : Int32) * t2)]) (k := a) h_a.1 (by rfl) (cwV 0 C.2.2.2.2.2.1 gX2_carries_X2_everyBorough rfl rfl rfl (by decide +kernel) ⟨Nat.le_of_ble_eq_true rfl, Nat.le_of_ble_eq_true rfl⟩) (mX2_everyBorough l Z h_a et3) rfl rfl (Nat.le_of_ble_eq_true rfl) dX2_carries_13 ?_
  obtain ⟨t4, et4, h⟩ := bs h
  refine g_callVi (pc := 16) C (As := [.int t3]) (rest := [.int ((2 : Int32) * t2)]) (k := a) h_a.1 (by rfl) (cwV 1 C.2.2.2.2.2.1 gX2_carries_X2_seatsIn rfl rfl rfl (by decide +kernel) ⟨Nat.le_of_ble_eq_true rfl, Nat.le_of_ble_eq_true rfl⟩) (mX2_seatsIn l Z h_a et4) rfl rfl (Nat.le_of_ble_eq_true rfl) dX2_carries_16 ?_
  refine g_icmp_le (pc := 19) C (tgt := 26) dX2_carries_19 (by decide) h (fun hc19 h => ?_) (fun hc19 h => ?_)
  · refine g_iconst (pc := 26) C (v := (0 : Int32)) dX2_carries_26 (by decide) ?_
    exact g_zret C dX2_carries_27 rfl (rz0.trans h)
  · refine g_iconst (pc := 22) C (v := (1 : Int32)) dX2_carries_22 (by decide) ?_
    refine g_goto (pc := 23) C (tgt := 27) dX2_carries_23 (by decide) ?_
    exact g_zret C dX2_carries_27 rfl (rz1.trans h)
theorem mX2_carries (l : Launch) (Z : Sh) {σ : Sg} {a : Nat} {v1 : Int32} {u : Int32} (h_a : IsR a) (h : fX2_carries σ a v1 = some u) : MI l Z layX yX2_carries wsX2_carries rX2_carries [.ref (ad Z a), .int v1] σ σ u :=
  MI.of (cc := cX2_carries) (maxL := 2) (ret := (some .boolean)) (by decide) rfl (Nat.le_of_ble_eq_true rfl) (fun p e s m below meth c C => kX2_carries_e C h_a h)

def rX2_canBuy : Room := { frames := 3, cells := 0, slots := 0, locals := 64 }
theorem uX2_canBuy_X2 : ∀ w ∈ wsX20, w ∈ wsX2_canBuy := by decide +kernel
def fX2_canBuy (σ : Sg) (a : Nat) (v1 : Int32) (v2 : Int32) : Option (Int32) := (fX2_hasLord σ a v1).bind fun t1 => if t1 = 0 then some (0 : Int32) else (fX2_hasBorough σ a v2).bind fun t2 => if t2 = 0 then some (0 : Int32) else (rd (σ (a + 5)) 6 v2).bind fun t3 => if t3 = v1 then some (0 : Int32) else (rd (σ (a + 1)) 4 v1).bind fun t4 => (fX2_costOf σ a v2).bind fun t5 => if t4 < t5 then some (0 : Int32) else some (1 : Int32)
set_option maxHeartbeats 1000000 in
set_option maxRecDepth 20000 in
theorem kX2_canBuy_e {p : Program} {l : Launch} {e : Env} {s : State} {m : MethodId} {args : Array Value} {below : List Frame} {meth : Method} {c : Code} {Z : Sh} (C : Cx p s m args meth c cX2_canBuy 3 wsX2_canBuy RX2 (some .boolean) Z layX) {σ : Sg} {a : Nat} {v1 : Int32} {v2 : Int32} {u : Int32} (h_a : IsR a) (h : fX2_canBuy σ a v1 v2 = some u) : G p l e rX2_canBuy s m args below meth c 3 Z layX (MQ below (QI Z layX σ u s.heap.size) args s 0 0 (pA Z layX s.heap.size)) σ 0 [(0, .ref (ad Z a)), (1, .int v1), (2, .int v2)] [] := by
  unfold fX2_canBuy at h
  refine g_aload_n (pc := 0) C dX2_canBuy_0 rfl 0 rfl ?_
  refine g_iload_n (pc := 1) C dX2_canBuy_1 rfl 1 rfl ?_
  obtain ⟨t1, et1, h⟩ := bs h
  refine g_callVi (pc := 2) C (As := [.int v1]) (rest := []) (k := a) h_a.1 (by rfl) (cwV 1 C.2.2.2.2.2.1 gX2_canBuy_X2_hasLord rfl rfl rfl (by decide +kernel) ⟨Nat.le_of_ble_eq_true rfl, Nat.le_of_ble_eq_true rfl⟩) (mX2_hasLord l Z h_a et1) rfl rfl (Nat.le_of_ble_eq_true rfl) dX2_canBuy_2 ?_
  refine g_if_eq (pc := 5) C (tgt := 44) dX2_canBuy_5 (by decide) h (fun hc5 h => ?_) (fun hc5 h => ?_)
  · refine g_iconst (pc := 44) C (v := (0 : Int32)) dX2_canBuy_44 (by decide) ?_
    exact g_zret C dX2_canBuy_45 rfl (rz0.trans h)
  · refine g_aload_n (pc := 8) C dX2_canBuy_8 rfl 0 rfl ?_
    refine g_iload_n (pc := 9) C dX2_canBuy_9 rfl 2 rfl ?_
    obtain ⟨t2, et2, h⟩ := bs h
    refine g_callVi (pc := 10) C (As := [.int v2]) (rest := []) (k := a) h_a.1 (by rfl) (cwV 1 C.2.2.2.2.2.1 gX2_canBuy_X2_hasBorough rfl rfl rfl (by decide +kernel) ⟨Nat.le_of_ble_eq_true rfl, Nat.le_of_ble_eq_true rfl⟩) (mX2_hasBorough l Z h_a et2) rfl rfl (Nat.le_of_ble_eq_true rfl) dX2_canBuy_10 ?_
    refine g_if_eq (pc := 13) C (tgt := 44) dX2_canBuy_13 (by decide) h (fun hc13 h => ?_) (fun hc13 h => ?_)
    · refine g_iconst (pc := 44) C (v := (0 : Int32)) dX2_canBuy_44 (by decide) ?_
      exact g_zret C dX2_canBuy_45 rfl (rz0.trans h)
    · refine g_aload_n (pc := 16) C dX2_canBuy_16 rfl 0 rfl ?_
      refine g_getr (pc := 17) C (Cn := RX2) (T := TX2) (N := 8) (ci := 2) (k := a) (j := 7) uX2_canBuy_X2 h_a.1 rfl (by decide) (by decide +kernel) (q := (a + 5)) rfl dX2_canBuy_17 ?_
      refine g_iload_n (pc := 20) C dX2_canBuy_20 rfl 2 rfl ?_
      obtain ⟨t3, et3, h⟩ := bs h
      refine g_iald (pc := 21) C (k := (a + 5)) (n := 6) h_a.2.2.2.2.2 et3 dX2_canBuy_21 ?_
      refine g_iload_n (pc := 22) C dX2_canBuy_22 rfl 1 rfl ?_
      refine g_icmp_eq (pc := 23) C (tgt := 44) dX2_canBuy_23 (by decide) h (fun hc23 h => ?_) (fun hc23 h => ?_)
      · refine g_iconst (pc := 44) C (v := (0 : Int32)) dX2_canBuy_44 (by decide) ?_
        exact g_zret C dX2_canBuy_45 rfl (rz0.trans h)
      · refine g_aload_n (pc := 26) C dX2_canBuy_26 rfl 0 rfl ?_
        refine g_getr (pc := 27) C (Cn := RX2) (T := TX2) (N := 8) (ci := 2) (k := a) (j := 3) uX2_canBuy_X2 h_a.1 rfl (by decide) (by decide +kernel) (q := (a + 1)) rfl dX2_canBuy_27 ?_
        refine g_iload_n (pc := 30) C dX2_canBuy_30 rfl 1 rfl ?_
        obtain ⟨t4, et4, h⟩ := bs h
        refine g_iald (pc := 31) C (k := (a + 1)) (n := 4) h_a.2.1 et4 dX2_canBuy_31 ?_
        refine g_aload_n (pc := 32) C dX2_canBuy_32 rfl 0 rfl ?_
        refine g_iload_n (pc := 33) C dX2_canBuy_33 rfl 2 rfl ?_
        obtain ⟨t5, et5, h⟩ := bs h
        refine g_callVi (pc := 34) C (As := [.int v2]) (rest := [.int t4]) (k := a) h_a.1 (by rfl) (cwV 1 C.2.2.2.2.2.1 gX2_canBuy_X2_costOf rfl rfl rfl (by decide +kernel) ⟨Nat.le_of_ble_eq_true rfl, Nat.le_of_ble_eq_true rfl⟩) (mX2_costOf l Z h_a et5) rfl rfl (Nat.le_of_ble_eq_true rfl) dX2_canBuy_34 ?_
        refine g_icmp_lt (pc := 37) C (tgt := 44) dX2_canBuy_37 (by decide) h (fun hc37 h => ?_) (fun hc37 h => ?_)
        · refine g_iconst (pc := 44) C (v := (0 : Int32)) dX2_canBuy_44 (by decide) ?_
          exact g_zret C dX2_canBuy_45 rfl (rz0.trans h)
        · refine g_iconst (pc := 40) C (v := (1 : Int32)) dX2_canBuy_40 (by decide) ?_
          refine g_goto (pc := 41) C (tgt := 45) dX2_canBuy_41 (by decide) ?_
          exact g_zret C dX2_canBuy_45 rfl (rz1.trans h)
theorem mX2_canBuy (l : Launch) (Z : Sh) {σ : Sg} {a : Nat} {v1 : Int32} {v2 : Int32} {u : Int32} (h_a : IsR a) (h : fX2_canBuy σ a v1 v2 = some u) : MI l Z layX yX2_canBuy wsX2_canBuy rX2_canBuy [.ref (ad Z a), .int v1, .int v2] σ σ u :=
  MI.of (cc := cX2_canBuy) (maxL := 3) (ret := (some .boolean)) (by decide) rfl (Nat.le_of_ble_eq_true rfl) (fun p e s m below meth c C => kX2_canBuy_e C h_a h)

def rX2_sell : Room := { frames := 4, cells := 0, slots := 0, locals := 86 }
theorem uX2_sell_X2 : ∀ w ∈ wsX20, w ∈ wsX2_sell := by decide +kernel
def fX2_sell_b65 (a : Nat) (v1 : Int32) (v2 : Int32)  (σ : Sg) : Option (Sg × Int32) := (wr σ (a + 5) 6 v2 v1).bind fun σ1 => some (σ1, (1 : Int32))
def fX2_sell (σ : Sg) (a : Nat) (v1 : Int32) (v2 : Int32) : Option (Sg × Int32) := (fX2_canBuy σ a v1 v2).bind fun t1 => if t1 = 0 then some (σ, (0 : Int32)) else (fX2_costOf σ a v2).bind fun t2 => (rd (σ (a + 5)) 6 v2).bind fun t3 => (rd (σ (a + 1)) 4 v1).bind fun t4 => (wr σ (a + 1) 4 v1 (t4 - t2)).bind fun σ5 => (fX2_hasLord σ5 a t3).bind fun t6 => if t6 = 0 then fX2_sell_b65 a v1 v2 σ5 else (rd (σ5 (a + 1)) 4 t3).bind fun t7 => (wr σ5 (a + 1) 4 t3 (imin (t7 + t2) (99 : Int32))).bind fun σ8 => fX2_sell_b65 a v1 v2 σ8
set_option maxHeartbeats 1000000 in
set_option maxRecDepth 20000 in
theorem kX2_sell_b65 {p : Program} {l : Launch} {e : Env} {s : State} {m : MethodId} {args : Array Value} {below : List Frame} {meth : Method} {c : Code} {Z : Sh} (C : Cx p s m args meth c cX2_sell 5 wsX2_sell RX2 (some .boolean) Z layX) {a : Nat} {v1 : Int32} {v2 : Int32} {u : Sg × Int32} (h_a : IsR a)  {σ : Sg} (h : fX2_sell_b65 a v1 v2 σ = some u) : G p l e rX2_sell s m args below meth c 5 Z layX (MQ below (QI Z layX u.1 u.2 s.heap.size) args s 0 0 (pA Z layX s.heap.size)) σ 65 [(0, .ref (ad Z a)), (1, .int v1), (2, .int v2)] [] := by
  unfold fX2_sell_b65 at h
  refine g_aload_n (pc := 65) C dX2_sell_65 rfl 0 rfl ?_
  refine g_getr (pc := 66) C (Cn := RX2) (T := TX2) (N := 8) (ci := 2) (k := a) (j := 7) uX2_sell_X2 h_a.1 rfl (by decide) (by decide +kernel) (q := (a + 5)) rfl dX2_sell_66 ?_
  refine g_iload_n (pc := 69) C dX2_sell_69 rfl 2 rfl ?_
  refine g_iload_n (pc := 70) C dX2_sell_70 rfl 1 rfl ?_
  obtain ⟨σ1, eσ1, h⟩ := bs h
  refine g_iast (pc := 71) C (k := (a + 5)) (n := 6) h_a.2.2.2.2.2 eσ1 dX2_sell_71 ?_
  refine g_iconst (pc := 72) C (v := (1 : Int32)) dX2_sell_72 (by decide) ?_
  exact g_zret C dX2_sell_73 (pfst h) (rz1.trans (congrArg some (psnd h)))
set_option maxHeartbeats 1000000 in
set_option maxRecDepth 20000 in
theorem kX2_sell_e {p : Program} {l : Launch} {e : Env} {s : State} {m : MethodId} {args : Array Value} {below : List Frame} {meth : Method} {c : Code} {Z : Sh} (C : Cx p s m args meth c cX2_sell 5 wsX2_sell RX2 (some .boolean) Z layX) {σ : Sg} {a : Nat} {v1 : Int32} {v2 : Int32} {u : Sg × Int32} (h_a : IsR a) (h : fX2_sell σ a v1 v2 = some u) : G p l e rX2_sell s m args below meth c 5 Z layX (MQ below (QI Z layX u.1 u.2 s.heap.size) args s 0 0 (pA Z layX s.heap.size)) σ 0 [(0, .ref (ad Z a)), (1, .int v1), (2, .int v2)] [] := by
  unfold fX2_sell at h
  refine g_aload_n (pc := 0) C dX2_sell_0 rfl 0 rfl ?_
  refine g_iload_n (pc := 1) C dX2_sell_1 rfl 1 rfl ?_
  refine g_iload_n (pc := 2) C dX2_sell_2 rfl 2 rfl ?_
  obtain ⟨t1, et1, h⟩ := bs h
  refine g_callVi (pc := 3) C (As := [.int v1, .int v2]) (rest := []) (k := a) h_a.1 (by rfl) (cwV 2 C.2.2.2.2.2.1 gX2_sell_X2_canBuy rfl rfl rfl (by decide +kernel) ⟨Nat.le_of_ble_eq_true rfl, Nat.le_of_ble_eq_true rfl⟩) (mX2_canBuy l Z h_a et1) rfl rfl (Nat.le_of_ble_eq_true rfl) dX2_sell_3 ?_
  refine g_if_ne (pc := 6) C (tgt := 11) dX2_sell_6 (by decide) h (fun hc6 h => ?_) (fun hc6 h => ?_)
  · refine g_aload_n (pc := 11) C dX2_sell_11 rfl 0 rfl ?_
    refine g_iload_n (pc := 12) C dX2_sell_12 rfl 2 rfl ?_
    obtain ⟨t2, et2, h⟩ := bs h
    refine g_callVi (pc := 13) C (As := [.int v2]) (rest := []) (k := a) h_a.1 (by rfl) (cwV 1 C.2.2.2.2.2.1 gX2_sell_X2_costOf rfl rfl rfl (by decide +kernel) ⟨Nat.le_of_ble_eq_true rfl, Nat.le_of_ble_eq_true rfl⟩) (mX2_costOf l Z h_a et2) rfl rfl (Nat.le_of_ble_eq_true rfl) dX2_sell_13 ?_
    refine g_istore_n (pc := 16) C (lv2 := [(3, .int t2), (0, .ref (ad Z a)), (1, .int v1), (2, .int v2)]) dX2_sell_16 rfl (by decide) rfl ?_
    refine g_aload_n (pc := 17) C dX2_sell_17 rfl 1 rfl ?_
    refine g_getr (pc := 18) C (Cn := RX2) (T := TX2) (N := 8) (ci := 2) (k := a) (j := 7) uX2_sell_X2 h_a.1 rfl (by decide) (by decide +kernel) (q := (a + 5)) rfl dX2_sell_18 ?_
    refine g_iload_n (pc := 21) C dX2_sell_21 rfl 3 rfl ?_
    obtain ⟨t3, et3, h⟩ := bs h
    refine g_iald (pc := 22) C (k := (a + 5)) (n := 6) h_a.2.2.2.2.2 et3 dX2_sell_22 ?_
    refine g_istore (pc := 23) C (lv2 := [(4, .int t3), (3, .int t2), (0, .ref (ad Z a)), (1, .int v1), (2, .int v2)]) dX2_sell_23 (by decide) rfl ?_
    refine g_aload_n (pc := 25) C dX2_sell_25 rfl 2 rfl ?_
    refine g_getr (pc := 26) C (Cn := RX2) (T := TX2) (N := 8) (ci := 2) (k := a) (j := 3) uX2_sell_X2 h_a.1 rfl (by decide) (by decide +kernel) (q := (a + 1)) rfl dX2_sell_26 ?_
    refine g_iload_n (pc := 29) C dX2_sell_29 rfl 3 rfl ?_
    refine g_dup2 (pc := 30) C rfl rfl dX2_sell_30 ?_
    obtain ⟨t4, et4, h⟩ := bs h
    refine g_iald (pc := 31) C (k := (a + 1)) (n := 4) h_a.2.1 et4 dX2_sell_31 ?_
    refine g_iload_n (pc := 32) C dX2_sell_32 rfl 1 rfl ?_
    refine g_isub (pc := 33) C dX2_sell_33 ?_
    obtain ⟨σ5, eσ5, h⟩ := bs h
    refine g_iast (pc := 34) C (k := (a + 1)) (n := 4) h_a.2.1 eσ5 dX2_sell_34 ?_
    refine g_aload_n (pc := 35) C dX2_sell_35 rfl 2 rfl ?_
    refine g_iload (pc := 36) C dX2_sell_36 0 rfl ?_
    obtain ⟨t6, et6, h⟩ := bs h
    refine g_callVi (pc := 38) C (As := [.int t3]) (rest := []) (k := a) h_a.1 (by rfl) (cwV 1 C.2.2.2.2.2.1 gX2_sell_X2_hasLord rfl rfl rfl (by decide +kernel) ⟨Nat.le_of_ble_eq_true rfl, Nat.le_of_ble_eq_true rfl⟩) (mX2_hasLord l Z h_a et6) rfl rfl (Nat.le_of_ble_eq_true rfl) dX2_sell_38 ?_
    refine g_if_eq (pc := 41) C (tgt := 65) dX2_sell_41 (by decide) h (fun hc41 h => ?_) (fun hc41 h => ?_)
    · exact g_sub [2, 3, 4] rfl (kX2_sell_b65 C h_a   h)
    · refine g_aload_n (pc := 44) C dX2_sell_44 rfl 2 rfl ?_
      refine g_getr (pc := 45) C (Cn := RX2) (T := TX2) (N := 8) (ci := 2) (k := a) (j := 3) uX2_sell_X2 h_a.1 rfl (by decide) (by decide +kernel) (q := (a + 1)) rfl dX2_sell_45 ?_
      refine g_iload (pc := 48) C dX2_sell_48 0 rfl ?_
      refine g_aload_n (pc := 50) C dX2_sell_50 rfl 2 rfl ?_
      refine g_getr (pc := 51) C (Cn := RX2) (T := TX2) (N := 8) (ci := 2) (k := a) (j := 3) uX2_sell_X2 h_a.1 rfl (by decide) (by decide +kernel) (q := (a + 1)) rfl dX2_sell_51 ?_
      refine g_iload (pc := 54) C dX2_sell_54 0 rfl ?_
      obtain ⟨t7, et7, h⟩ := bs h
      refine g_iald (pc := 56) C (k := (a + 1)) (n := 4) h_a.2.1 et7 dX2_sell_56 ?_
      refine g_iload_n (pc := 57) C dX2_sell_57 rfl 1 rfl ?_
      refine g_iadd (pc := 58) C dX2_sell_58 ?_
      refine g_bipush (pc := 59) C (v := (99 : Int32)) dX2_sell_59 (by decide) ?_
      refine g_mmin (pc := 61) C (by decide +kernel) (by decide +kernel) (by decide +kernel) (by decide +kernel) (Nat.le_of_ble_eq_true rfl) (Nat.le_of_ble_eq_true rfl) (Nat.le_of_ble_eq_true rfl) dX2_sell_61 ?_
      obtain ⟨σ8, eσ8, h⟩ := bs h
      refine g_iast (pc := 64) C (k := (a + 1)) (n := 4) h_a.2.1 eσ8 dX2_sell_64 ?_
      exact g_sub [2, 3, 4] rfl (kX2_sell_b65 C h_a   h)
  · refine g_iconst (pc := 9) C (v := (0 : Int32)) dX2_sell_9 (by decide) ?_
    exact g_zret C dX2_sell_10 (pfst h) (rz0.trans (congrArg some (psnd h)))
theorem mX2_sell (l : Launch) (Z : Sh) {σ : Sg} {a : Nat} {v1 : Int32} {v2 : Int32} {u : Sg × Int32} (h_a : IsR a) (h : fX2_sell σ a v1 v2 = some u) : MI l Z layX yX2_sell wsX2_sell rX2_sell [.ref (ad Z a), .int v1, .int v2] σ u.1 u.2 :=
  MI.of (cc := cX2_sell) (maxL := 5) (ret := (some .boolean)) (by decide) rfl (Nat.le_of_ble_eq_true rfl) (fun p e s m below meth c C => kX2_sell_e C h_a h)

def rX2_cheapestMajority : Room := { frames := 4, cells := 0, slots := 0, locals := 87 }
def fX2_cheapestMajority_b73 (σ : Sg) (a : Nat) (v1 : Int32) (v2 : Int32) (k19 : Int32 → Int32 → Int32 → Int32 → Option (Int32)) (v3 : Int32) (v6 : Int32) (v7 : Int32) : Option (Int32) := k19 v3 v6 v7 (v6 + 1)
def fX2_cheapestMajority_l19 (σ : Sg) (a : Nat) (v1 : Int32) (v2 : Int32)  : Nat → Int32 → Int32 → Int32 → Int32 → Option (Int32)
  | 0, _, _, _, _ => none
  | n + 1, v3, v4, v5, v6 => (fX2_everyBorough σ a).bind fun t1 => if t1 < v6 then some v4 else if (v6 &&& (v1 ^^^ (-1 : Int32))) = 0 then (fX2_seatsIn σ a v6).bind fun t2 => if ((2 : Int32) * (v2 + t2)) ≤ v3 then fX2_cheapestMajority_l19 σ a v1 v2 n v3 v4 v5 (v6 + 1) else (fX2_costOfAll σ a v6).bind fun t3 => if v4 = (-4 : Int32) then fX2_cheapestMajority_b73 σ a v1 v2 (fun v3 v4 v5 v6 => fX2_cheapestMajority_l19 σ a v1 v2 n v3 v4 v5 v6) v3 v6 t3 else if v5 ≤ t3 then fX2_cheapestMajority_l19 σ a v1 v2 n v3 v4 v5 (v6 + 1) else fX2_cheapestMajority_b73 σ a v1 v2 (fun v3 v4 v5 v6 => fX2_cheapestMajority_l19 σ a v1 v2 n v3 v4 v5 v6) v3 v6 t3 else fX2_cheapestMajority_l19 σ a v1 v2 n v3 v4 v5 (v6 + 1)
def fX2_cheapestMajority (σ : Sg) (a : Nat) (v1 : Int32) (v2 : Int32) : Option (Int32) := (fX2_everyBorough σ a).bind fun t1 => (fX2_seatsIn σ a t1).bind fun t2 => fX2_cheapestMajority_l19 σ a v1 v2 2000 t2 (-4 : Int32) (0 : Int32) (0 : Int32)
set_option maxHeartbeats 1000000 in
set_option maxRecDepth 20000 in
theorem kX2_cheapestMajority_b73 {p : Program} {l : Launch} {e : Env} {s : State} {m : MethodId} {args : Array Value} {below : List Frame} {meth : Method} {c : Code} {Z : Sh} (C : Cx p s m args meth c cX2_cheapestMajority 8 wsX2_cheapestMajority RX2 (some .int) Z layX) {σ : Sg} {a : Nat} {v1 : Int32} {v2 : Int32} {u : Int32} (h_a : IsR a) {k19 : Int32 → Int32 → Int32 → Int32 → Option (Int32)} (hk19 : ∀ (v3 : Int32) (v4 : Int32) (v5 : Int32) (v6 : Int32), k19 v3 v4 v5 v6 = some u → G p l e rX2_cheapestMajority s m args below meth c 8 Z layX (MQ below (QI Z layX σ u s.heap.size) args s 0 0 (pA Z layX s.heap.size)) σ 19 [(0, .ref (ad Z a)), (1, .int v1), (2, .int v2), (3, .int v3), (4, .int v4), (5, .int v5), (6, .int v6)] []) {v3 : Int32} {v6 : Int32} {v7 : Int32} (h : fX2_cheapestMajority_b73 σ a v1 v2 k19 v3 v6 v7 = some u) : G p l e rX2_cheapestMajority s m args below meth c 8 Z layX (MQ below (QI Z layX σ u s.heap.size) args s 0 0 (pA Z layX s.heap.size)) σ 73 [(0, .ref (ad Z a)), (1, .int v1), (2, .int v2), (3, .int v3), (6, .int v6), (7, .int v7)] [] := by
  unfold fX2_cheapestMajority_b73 at h
  refine g_iload (pc := 73) C dX2_cheapestMajority_73 4 rfl ?_
  refine g_istore (pc := 75) C (lv2 := [(4, .int v6), (0, .ref (ad Z a)), (1, .int v1), (2, .int v2), (3, .int v3), (6, .int v6), (7, .int v7)]) dX2_cheapestMajority_75 (by decide) rfl ?_
  refine g_iload (pc := 77) C dX2_cheapestMajority_77 6 rfl ?_
  refine g_istore (pc := 79) C (lv2 := [(5, .int v7), (4, .int v6), (0, .ref (ad Z a)), (1, .int v1), (2, .int v2), (3, .int v3), (6, .int v6), (7, .int v7)]) dX2_cheapestMajority_79 (by decide) rfl ?_
  refine g_iinc (pc := 81) C (j := 6) (v := (v6 + 1)) (lv2 := [(6, .int (v6 + 1)), (5, .int v7), (4, .int v6), (0, .ref (ad Z a)), (1, .int v1), (2, .int v2), (3, .int v3), (7, .int v7)]) dX2_cheapestMajority_81 rfl rfl (by decide) rfl ?_
  refine g_goto (pc := 84) C (tgt := 19) dX2_cheapestMajority_84 (by decide) ?_
  exact g_sub [3, 4, 5, 6, 2, 1, 0] rfl (hk19 _ _ _ _ h)
set_option maxHeartbeats 1000000 in
set_option maxRecDepth 20000 in
theorem kX2_cheapestMajority_l19 {p : Program} {l : Launch} {e : Env} {s : State} {m : MethodId} {args : Array Value} {below : List Frame} {meth : Method} {c : Code} {Z : Sh} (C : Cx p s m args meth c cX2_cheapestMajority 8 wsX2_cheapestMajority RX2 (some .int) Z layX) {σ : Sg} {a : Nat} {v1 : Int32} {v2 : Int32} {u : Int32} (h_a : IsR a)  : ∀ (n : Nat) (v3 : Int32) (v4 : Int32) (v5 : Int32) (v6 : Int32), fX2_cheapestMajority_l19 σ a v1 v2 n v3 v4 v5 v6 = some u → G p l e rX2_cheapestMajority s m args below meth c 8 Z layX (MQ below (QI Z layX σ u s.heap.size) args s 0 0 (pA Z layX s.heap.size)) σ 19 [(0, .ref (ad Z a)), (1, .int v1), (2, .int v2), (3, .int v3), (4, .int v4), (5, .int v5), (6, .int v6)] [] := by
  intro n
  induction n with
  | zero => intro v3 v4 v5 v6 h; exact absurd h (by simp [fX2_cheapestMajority_l19])
  | succ n ih =>
    intro v3 v4 v5 v6 h
    rw [fX2_cheapestMajority_l19] at h
    refine g_iload (pc := 19) C dX2_cheapestMajority_19 6 rfl ?_
    refine g_aload_n (pc := 21) C dX2_cheapestMajority_21 rfl 0 rfl ?_
    obtain ⟨t1, et1, h⟩ := bs h
    refine g_callVi (pc := 22) C (As := []) (rest := [.int v6]) (k := a) h_a.1 (by rfl) (cwV 0 C.2.2.2.2.2.1 gX2_cheapestMajority_X2_everyBorough rfl rfl rfl (by decide +kernel) ⟨Nat.le_of_ble_eq_true rfl, Nat.le_of_ble_eq_true rfl⟩) (mX2_everyBorough l Z h_a et1) rfl rfl (Nat.le_of_ble_eq_true rfl) dX2_cheapestMajority_22 ?_
    refine g_icmp_gt (pc := 25) C (tgt := 87) dX2_cheapestMajority_25 (by decide) h (fun hc25 h => ?_) (fun hc25 h => ?_)
    · refine g_iload (pc := 87) C dX2_cheapestMajority_87 4 rfl ?_
      exact g_iret C dX2_cheapestMajority_89 rfl (Option.some.inj h)
    · refine g_iload (pc := 28) C dX2_cheapestMajority_28 6 rfl ?_
      refine g_iload_n (pc := 30) C dX2_cheapestMajority_30 rfl 1 rfl ?_
      refine g_iconst (pc := 31) C (v := (-1 : Int32)) dX2_cheapestMajority_31 (by decide) ?_
      refine g_ixor (pc := 32) C dX2_cheapestMajority_32 ?_
      refine g_iand (pc := 33) C dX2_cheapestMajority_33 ?_
      refine g_if_ne (pc := 34) C (tgt := 81) dX2_cheapestMajority_34 (by decide) h (fun hc34 h => ?_) (fun hc34 h => ?_)
      · refine g_iinc (pc := 81) C (j := 6) (v := (v6 + 1)) (lv2 := [(6, .int (v6 + 1)), (0, .ref (ad Z a)), (1, .int v1), (2, .int v2), (3, .int v3), (4, .int v4), (5, .int v5)]) dX2_cheapestMajority_81 rfl rfl (by decide) rfl ?_
        refine g_goto (pc := 84) C (tgt := 19) dX2_cheapestMajority_84 (by decide) ?_
        exact g_sub [1, 2, 3, 4, 5, 6, 0] rfl (ih _ _ _ _ h)
      · refine g_iconst (pc := 37) C (v := (2 : Int32)) dX2_cheapestMajority_37 (by decide) ?_
        refine g_iload_n (pc := 38) C dX2_cheapestMajority_38 rfl 2 rfl ?_
        refine g_aload_n (pc := 39) C dX2_cheapestMajority_39 rfl 0 rfl ?_
        refine g_iload (pc := 40) C dX2_cheapestMajority_40 6 rfl ?_
        obtain ⟨t2, et2, h⟩ := bs h
        refine g_callVi (pc := 42) C (As := [.int v6]) (rest := [.int v2, .int (2 : Int32)]) (k := a) h_a.1 (by rfl) (cwV 1 C.2.2.2.2.2.1 gX2_cheapestMajority_X2_seatsIn rfl rfl rfl (by decide +kernel) ⟨Nat.le_of_ble_eq_true rfl, Nat.le_of_ble_eq_true rfl⟩) (mX2_seatsIn l Z h_a et2) rfl rfl (Nat.le_of_ble_eq_true rfl) dX2_cheapestMajority_42 ?_
        refine g_iadd (pc := 45) C dX2_cheapestMajority_45 ?_
        refine g_imul (pc := 46) C dX2_cheapestMajority_46 ?_
        refine g_iload_n (pc := 47) C dX2_cheapestMajority_47 rfl 3 rfl ?_
        refine g_icmp_le (pc := 48) C (tgt := 81) dX2_cheapestMajority_48 (by decide) h (fun hc48 h => ?_) (fun hc48 h => ?_)
        · refine g_iinc (pc := 81) C (j := 6) (v := (v6 + 1)) (lv2 := [(6, .int (v6 + 1)), (0, .ref (ad Z a)), (1, .int v1), (2, .int v2), (3, .int v3), (4, .int v4), (5, .int v5)]) dX2_cheapestMajority_81 rfl rfl (by decide) rfl ?_
          refine g_goto (pc := 84) C (tgt := 19) dX2_cheapestMajority_84 (by decide) ?_
          exact g_sub [1, 2, 3, 4, 5, 6, 0] rfl (ih _ _ _ _ h)
        · refine g_aload_n (pc := 51) C dX2_cheapestMajority_51 rfl 0 rfl ?_
          refine g_iload (pc := 52) C dX2_cheapestMajority_52 6 rfl ?_
          obtain ⟨t3, et3, h⟩ := bs h
          refine g_callVi (pc := 54) C (As := [.int v6]) (rest := []) (k := a) h_a.1 (by rfl) (cwV 1 C.2.2.2.2.2.1 gX2_cheapestMajority_X2_costOfAll rfl rfl rfl (by decide +kernel) ⟨Nat.le_of_ble_eq_true rfl, Nat.le_of_ble_eq_true rfl⟩) (mX2_costOfAll l Z h_a et3) rfl rfl (Nat.le_of_ble_eq_true rfl) dX2_cheapestMajority_54 ?_
          refine g_istore (pc := 57) C (lv2 := [(7, .int t3), (0, .ref (ad Z a)), (1, .int v1), (2, .int v2), (3, .int v3), (4, .int v4), (5, .int v5), (6, .int v6)]) dX2_cheapestMajority_57 (by decide) rfl ?_
          refine g_iload (pc := 59) C dX2_cheapestMajority_59 5 rfl ?_
          refine g_bipush (pc := 61) C (v := (-4 : Int32)) dX2_cheapestMajority_61 (by decide) ?_
          refine g_icmp_eq (pc := 63) C (tgt := 73) dX2_cheapestMajority_63 (by decide) h (fun hc63 h => ?_) (fun hc63 h => ?_)
          · exact g_sub [1, 2, 3, 4, 7, 0] rfl (kX2_cheapestMajority_b73 C h_a ih  h)
          · refine g_iload (pc := 66) C dX2_cheapestMajority_66 0 rfl ?_
            refine g_iload (pc := 68) C dX2_cheapestMajority_68 6 rfl ?_
            refine g_icmp_ge (pc := 70) C (tgt := 81) dX2_cheapestMajority_70 (by decide) h (fun hc70 h => ?_) (fun hc70 h => ?_)
            · refine g_iinc (pc := 81) C (j := 7) (v := (v6 + 1)) (lv2 := [(6, .int (v6 + 1)), (7, .int t3), (0, .ref (ad Z a)), (1, .int v1), (2, .int v2), (3, .int v3), (4, .int v4), (5, .int v5)]) dX2_cheapestMajority_81 rfl rfl (by decide) rfl ?_
              refine g_goto (pc := 84) C (tgt := 19) dX2_cheapestMajority_84 (by decide) ?_
              exact g_sub [2, 3, 4, 5, 6, 7, 0] rfl (ih _ _ _ _ h)
            · exact g_sub [1, 2, 3, 4, 7, 0] rfl (kX2_cheapestMajority_b73 C h_a ih  h)
set_option maxHeartbeats 1000000 in
set_option maxRecDepth 20000 in
theorem kX2_cheapestMajority_e {p : Program} {l : Launch} {e : Env} {s : State} {m : MethodId} {args : Array Value} {below : List Frame} {meth : Method} {c : Code} {Z : Sh} (C : Cx p s m args meth c cX2_cheapestMajority 8 wsX2_cheapestMajority RX2 (some .int) Z layX) {σ : Sg} {a : Nat} {v1 : Int32} {v2 : Int32} {u : Int32} (h_a : IsR a) (h : fX2_cheapestMajority σ a v1 v2 = some u) : G p l e rX2_cheapestMajority s m args below meth c 8 Z layX (MQ below (QI Z layX σ u s.heap.size) args s 0 0 (pA Z layX s.heap.size)) σ 0 [(0, .ref (ad Z a)), (1, .int v1), (2, .int v2)] [] := by
  unfold fX2_cheapestMajority at h
  refine g_aload_n (pc := 0) C dX2_cheapestMajority_0 rfl 0 rfl ?_
  refine g_aload_n (pc := 1) C dX2_cheapestMajority_1 rfl 0 rfl ?_
  obtain ⟨t1, et1, h⟩ := bs h
  refine g_callVi (pc := 2) C (As := []) (rest := [.ref (ad Z a)]) (k := a) h_a.1 (by rfl) (cwV 0 C.2.2.2.2.2.1 gX2_cheapestMajority_X2_everyBorough rfl rfl rfl (by decide +kernel) ⟨Nat.le_of_ble_eq_true rfl, Nat.le_of_ble_eq_true rfl⟩) (mX2_everyBorough l Z h_a et1) rfl rfl (Nat.le_of_ble_eq_true rfl) dX2_cheapestMajority_2 ?_
  obtain ⟨t2, et2, h⟩ := bs h
  refine g_callVi (pc := 5) C (As := [.int t1]) (rest := []) (k := a) h_a.1 (by rfl) (cwV 1 C.2.2.2.2.2.1 gX2_cheapestMajority_X2_seatsIn rfl rfl rfl (by decide +kernel) ⟨Nat.le_of_ble_eq_true rfl, Nat.le_of_ble_eq_true rfl⟩) (mX2_seatsIn l Z h_a et2) rfl rfl (Nat.le_of_ble_eq_true rfl) dX2_cheapestMajority_5 ?_
  refine g_istore_n (pc := 8) C (lv2 := [(3, .int t2), (0, .ref (ad Z a)), (1, .int v1), (2, .int v2)]) dX2_cheapestMajority_8 rfl (by decide) rfl ?_
  refine g_bipush (pc := 9) C (v := (-4 : Int32)) dX2_cheapestMajority_9 (by decide) ?_
  refine g_istore (pc := 11) C (lv2 := [(4, .int (-4 : Int32)), (3, .int t2), (0, .ref (ad Z a)), (1, .int v1), (2, .int v2)]) dX2_cheapestMajority_11 (by decide) rfl ?_
  refine g_iconst (pc := 13) C (v := (0 : Int32)) dX2_cheapestMajority_13 (by decide) ?_
  refine g_istore (pc := 14) C (lv2 := [(5, .int (0 : Int32)), (4, .int (-4 : Int32)), (3, .int t2), (0, .ref (ad Z a)), (1, .int v1), (2, .int v2)]) dX2_cheapestMajority_14 (by decide) rfl ?_
  refine g_iconst (pc := 16) C (v := (0 : Int32)) dX2_cheapestMajority_16 (by decide) ?_
  refine g_istore (pc := 17) C (lv2 := [(6, .int (0 : Int32)), (5, .int (0 : Int32)), (4, .int (-4 : Int32)), (3, .int t2), (0, .ref (ad Z a)), (1, .int v1), (2, .int v2)]) dX2_cheapestMajority_17 (by decide) rfl ?_
  exact g_sub [4, 5, 6, 3, 2, 1, 0] rfl (kX2_cheapestMajority_l19 C h_a  _ _ _ _ _ h)
theorem mX2_cheapestMajority (l : Launch) (Z : Sh) {σ : Sg} {a : Nat} {v1 : Int32} {v2 : Int32} {u : Int32} (h_a : IsR a) (h : fX2_cheapestMajority σ a v1 v2 = some u) : MI l Z layX yX2_cheapestMajority wsX2_cheapestMajority rX2_cheapestMajority [.ref (ad Z a), .int v1, .int v2] σ σ u :=
  MI.of (cc := cX2_cheapestMajority) (maxL := 8) (ret := (some .int)) (by decide) rfl (Nat.le_of_ble_eq_true rfl) (fun p e s m below meth c C => kX2_cheapestMajority_e C h_a h)
