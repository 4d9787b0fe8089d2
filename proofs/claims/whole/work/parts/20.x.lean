def rX2_everyBorough : Room := { frames := 0, cells := 0, slots := 0, locals := 0 }
theorem uX2_everyBorough_X2 : ∀ w ∈ wsX20, w ∈ wsX2_everyBorough := by decide +kernel
def fX2_everyBorough (σ : Sg) (a : Nat) : Option (Int32) := some (((1 : Int32) <<< ((σ a 1) &&& 31)) - (1 : Int32))
set_option maxHeartbeats 1000000 in
set_option maxRecDepth 20000 in
theorem kX2_everyBorough_e {p : Program} {l : Launch} {e : Env} {s : State} {m : MethodId} {args : Array Value} {below : List Frame} {meth : Method} {c : Code} {Z : Sh} (C : Cx p s m args meth c cX2_everyBorough 1 wsX2_everyBorough RX2 (some .int) Z layX) {σ : Sg} {a : Nat} {u : Int32} (h_a : IsR a) (h : fX2_everyBorough σ a = some u) : G p l e rX2_everyBorough s m args below meth c 1 Z layX (MQ below (QI Z layX σ u s.heap.size) args s 0 0 (pA Z layX s.heap.size)) σ 0 [(0, .ref (ad Z a))] [] := by
  unfold fX2_everyBorough at h
  refine g_iconst (pc := 0) C (v := (1 : Int32)) dX2_everyBorough_0 (by decide) ?_
  refine g_aload_n (pc := 1) C dX2_everyBorough_1 rfl 0 rfl ?_
  refine g_geti (pc := 2) C (Cn := RX2) (T := TX2) (N := 8) (ci := 2) (k := a) (j := 1) uX2_everyBorough_X2 h_a.1 rfl (by decide) (by decide +kernel) (q := 0) rfl dX2_everyBorough_2 ?_
  refine g_ishl (pc := 5) C dX2_everyBorough_5 ?_
  refine g_iconst (pc := 6) C (v := (1 : Int32)) dX2_everyBorough_6 (by decide) ?_
  refine g_isub (pc := 7) C dX2_everyBorough_7 ?_
  exact g_iret C dX2_everyBorough_8 rfl (Option.some.inj h)
theorem mX2_everyBorough (l : Launch) (Z : Sh) {σ : Sg} {a : Nat} {u : Int32} (h_a : IsR a) (h : fX2_everyBorough σ a = some u) : MI l Z layX yX2_everyBorough wsX2_everyBorough rX2_everyBorough [.ref (ad Z a)] σ σ u :=
  MI.of (cc := cX2_everyBorough) (maxL := 1) (ret := (some .int)) (by decide) rfl (Nat.le_of_ble_eq_true rfl) (fun p e s m below meth c C => kX2_everyBorough_e C h_a h)

def rX7_holds : Room := { frames := 0, cells := 0, slots := 0, locals := 0 }
def fX7_holds (v0 : Int32) (v1 : Int32) : Option (Int32) := if ((v0 >>> (v1 &&& 31)) &&& (1 : Int32)) = (1 : Int32) then some (1 : Int32) else some (0 : Int32)
set_option maxHeartbeats 1000000 in
set_option maxRecDepth 20000 in
theorem kX7_holds_e {p : Program} {l : Launch} {e : Env} {s : State} {m : MethodId} {args : Array Value} {below : List Frame} {meth : Method} {c : Code} {Z : Sh} (C : Cx p s m args meth c cX7_holds 2 wsX7_holds RX7 (some .boolean) Z layX) {σ : Sg} {v0 : Int32} {v1 : Int32} {u : Int32}  (h : fX7_holds v0 v1 = some u) : G p l e rX7_holds s m args below meth c 2 Z layX (MQ below (QI Z layX σ u s.heap.size) args s 0 0 (pA Z layX s.heap.size)) σ 0 [(0, .int v0), (1, .int v1)] [] := by
  unfold fX7_holds at h
  refine g_iload_n (pc := 0) C dX7_holds_0 rfl 0 rfl ?_
  refine g_iload_n (pc := 1) C dX7_holds_1 rfl 1 rfl ?_
  refine g_ishr (pc := 2) C dX7_holds_2 ?_
  refine g_iconst (pc := 3) C (v := (1 : Int32)) dX7_holds_3 (by decide) ?_
  refine g_iand (pc := 4) C dX7_holds_4 ?_
  refine g_iconst (pc := 5) C (v := (1 : Int32)) dX7_holds_5 (by decide) ?_
  refine g_icmp_ne (pc := 6) C (tgt := 13) dX7_holds_6 (by decide) h (fun hc6 h => ?_) (fun hc6 h => ?_)
  · refine g_iconst (pc := 13) C (v := (0 : Int32)) dX7_holds_13 (by decide) ?_
    exact g_zret C dX7_holds_14 rfl (rz0.trans h)
  · refine g_iconst (pc := 9) C (v := (1 : Int32)) dX7_holds_9 (by decide) ?_
    refine g_goto (pc := 10) C (tgt := 14) dX7_holds_10 (by decide) ?_
    exact g_zret C dX7_holds_14 rfl (rz1.trans h)
theorem mX7_holds (l : Launch) (Z : Sh) {σ : Sg} {v0 : Int32} {v1 : Int32} {u : Int32}  (h : fX7_holds v0 v1 = some u) : MI l Z layX yX7_holds wsX7_holds rX7_holds [.int v0, .int v1] σ σ u :=
  MI.of (cc := cX7_holds) (maxL := 2) (ret := (some .boolean)) (by decide) rfl (Nat.le_of_ble_eq_true rfl) (fun p e s m below meth c C => kX7_holds_e C  h)

def rX2_seatsIn : Room := { frames := 1, cells := 0, slots := 0, locals := 21 }
theorem uX2_seatsIn_X2 : ∀ w ∈ wsX20, w ∈ wsX2_seatsIn := by decide +kernel
def fX2_seatsIn_l4 (σ : Sg) (a : Nat) (v1 : Int32)  : Nat → Int32 → Int32 → Option (Int32)
  | 0, _, _ => none
  | n + 1, v2, v3 => if (σ a 1) ≤ v3 then some v2 else (fX7_holds v1 v3).bind fun t1 => if t1 = 0 then fX2_seatsIn_l4 σ a v1 n v2 (v3 + 1) else (rd (σ (a + 4)) 6 v3).bind fun t2 => fX2_seatsIn_l4 σ a v1 n (v2 + t2) (v3 + 1)
def fX2_seatsIn (σ : Sg) (a : Nat) (v1 : Int32) : Option (Int32) := fX2_seatsIn_l4 σ a v1 2000 (0 : Int32) (0 : Int32)
set_option maxHeartbeats 1000000 in
set_option maxRecDepth 20000 in
theorem kX2_seatsIn_l4 {p : Program} {l : Launch} {e : Env} {s : State} {m : MethodId} {args : Array Value} {below : List Frame} {meth : Method} {c : Code} {Z : Sh} (C : Cx p s m args meth c cX2_seatsIn 4 wsX2_seatsIn RX2 (some .int) Z layX) {σ : Sg} {a : Nat} {v1 : Int32} {u : Int32} (h_a : IsR a)  : ∀ (n : Nat) (v2 : Int32) (v3 : Int32), fX2_seatsIn_l4 σ a v1 n v2 v3 = some u → G p l e rX2_seatsIn s m args below meth c 4 Z layX (MQ below (QI Z layX σ u s.heap.size) args s 0 0 (pA Z layX s.heap.size)) σ 4 [(0, .ref (ad Z a)), (1, .int v1), (2, .int v2), (3, .int v3)] [] := by
  intro n
  induction n with
  | zero => intro v2 v3 h; exact absurd h (by simp [fX2_seatsIn_l4])
  | succ n ih =>
    intro v2 v3 h
    rw [fX2_seatsIn_l4] at h
    refine g_iload_n (pc := 4) C dX2_seatsIn_4 rfl 3 rfl ?_
    refine g_aload_n (pc := 5) C dX2_seatsIn_5 rfl 0 rfl ?_
    refine g_geti (pc := 6) C (Cn := RX2) (T := TX2) (N := 8) (ci := 2) (k := a) (j := 1) uX2_seatsIn_X2 h_a.1 rfl (by decide) (by decide +kernel) (q := 0) rfl dX2_seatsIn_6 ?_
    refine g_icmp_ge (pc := 9) C (tgt := 35) dX2_seatsIn_9 (by decide) h (fun hc9 h => ?_) (fun hc9 h => ?_)
    · refine g_iload_n (pc := 35) C dX2_seatsIn_35 rfl 2 rfl ?_
      exact g_iret C dX2_seatsIn_36 rfl (Option.some.inj h)
    · refine g_iload_n (pc := 12) C dX2_seatsIn_12 rfl 1 rfl ?_
      refine g_iload_n (pc := 13) C dX2_seatsIn_13 rfl 3 rfl ?_
      obtain ⟨t1, et1, h⟩ := bs h
      refine g_callSNi (pc := 14) C (As := [.int v1, .int v3]) (rest := []) ⟨va_cnB (y := yX7_holds) 2 C.2.2.2.2.2.1 gX2_seatsIn_X7_holds_n45 rfl rfl rfl (C.2.2.2.2.2.2.2.2.1 (.methodLinkNest "MoundVotes$Realm" 45 ⟨"MoundVotes", "holds", "(II)Z"⟩ "MoundVotes") (by decide +kernel)) (C.2.2.2.2.2.1 (.initialized RX7) (by decide +kernel)) (by decide +kernel) ⟨Nat.le_of_ble_eq_true rfl, Nat.le_of_ble_eq_true rfl⟩, C.2.2.2.2.2.1 (.static yX7_holds) (by decide +kernel), trivial⟩ (mX7_holds l Z  et1) rfl rfl (Nat.le_of_ble_eq_true rfl) dX2_seatsIn_14 ?_
      refine g_if_eq (pc := 17) C (tgt := 29) dX2_seatsIn_17 (by decide) h (fun hc17 h => ?_) (fun hc17 h => ?_)
      · refine g_iinc (pc := 29) C (j := 3) (v := (v3 + 1)) (lv2 := [(3, .int (v3 + 1)), (0, .ref (ad Z a)), (1, .int v1), (2, .int v2)]) dX2_seatsIn_29 rfl rfl (by decide) rfl ?_
        refine g_goto (pc := 32) C (tgt := 4) dX2_seatsIn_32 (by decide) ?_
        exact g_sub [1, 2, 3, 0] rfl (ih _ _ h)
      · refine g_iload_n (pc := 20) C dX2_seatsIn_20 rfl 2 rfl ?_
        refine g_aload_n (pc := 21) C dX2_seatsIn_21 rfl 0 rfl ?_
        refine g_getr (pc := 22) C (Cn := RX2) (T := TX2) (N := 8) (ci := 2) (k := a) (j := 6) uX2_seatsIn_X2 h_a.1 rfl (by decide) (by decide +kernel) (q := (a + 4)) rfl dX2_seatsIn_22 ?_
        refine g_iload_n (pc := 25) C dX2_seatsIn_25 rfl 3 rfl ?_
        obtain ⟨t2, et2, h⟩ := bs h
        refine g_iald (pc := 26) C (k := (a + 4)) (n := 6) h_a.2.2.2.2.1 et2 dX2_seatsIn_26 ?_
        refine g_iadd (pc := 27) C dX2_seatsIn_27 ?_
        refine g_istore_n (pc := 28) C (lv2 := [(2, .int (v2 + t2)), (0, .ref (ad Z a)), (1, .int v1), (3, .int v3)]) dX2_seatsIn_28 rfl (by decide) rfl ?_
        refine g_iinc (pc := 29) C (j := 3) (v := (v3 + 1)) (lv2 := [(3, .int (v3 + 1)), (2, .int (v2 + t2)), (0, .ref (ad Z a)), (1, .int v1)]) dX2_seatsIn_29 rfl rfl (by decide) rfl ?_
        refine g_goto (pc := 32) C (tgt := 4) dX2_seatsIn_32 (by decide) ?_
        exact g_sub [2, 3, 1, 0] rfl (ih _ _ h)
set_option maxHeartbeats 1000000 in
set_option maxRecDepth 20000 in
theorem kX2_seatsIn_e {p : Program} {l : Launch} {e : Env} {s : State} {m : MethodId} {args : Array Value} {below : List Frame} {meth : Method} {c : Code} {Z : Sh} (C : Cx p s m args meth c cX2_seatsIn 4 wsX2_seatsIn RX2 (some .int) Z layX) {σ : Sg} {a : Nat} {v1 : Int32} {u : Int32} (h_a : IsR a) (h : fX2_seatsIn σ a v1 = some u) : G p l e rX2_seatsIn s m args below meth c 4 Z layX (MQ below (QI Z layX σ u s.heap.size) args s 0 0 (pA Z layX s.heap.size)) σ 0 [(0, .ref (ad Z a)), (1, .int v1)] [] := by
  unfold fX2_seatsIn at h
  refine g_iconst (pc := 0) C (v := (0 : Int32)) dX2_seatsIn_0 (by decide) ?_
  refine g_istore_n (pc := 1) C (lv2 := [(2, .int (0 : Int32)), (0, .ref (ad Z a)), (1, .int v1)]) dX2_seatsIn_1 rfl (by decide) rfl ?_
  refine g_iconst (pc := 2) C (v := (0 : Int32)) dX2_seatsIn_2 (by decide) ?_
  refine g_istore_n (pc := 3) C (lv2 := [(3, .int (0 : Int32)), (2, .int (0 : Int32)), (0, .ref (ad Z a)), (1, .int v1)]) dX2_seatsIn_3 rfl (by decide) rfl ?_
  exact g_sub [2, 3, 1, 0] rfl (kX2_seatsIn_l4 C h_a  _ _ _ h)
theorem mX2_seatsIn (l : Launch) (Z : Sh) {σ : Sg} {a : Nat} {v1 : Int32} {u : Int32} (h_a : IsR a) (h : fX2_seatsIn σ a v1 = some u) : MI l Z layX yX2_seatsIn wsX2_seatsIn rX2_seatsIn [.ref (ad Z a), .int v1] σ σ u :=
  MI.of (cc := cX2_seatsIn) (maxL := 4) (ret := (some .int)) (by decide) rfl (Nat.le_of_ble_eq_true rfl) (fun p e s m below meth c C => kX2_seatsIn_e C h_a h)

def rX2_heldBy : Room := { frames := 1, cells := 0, slots := 0, locals := 21 }
theorem uX2_heldBy_X2 : ∀ w ∈ wsX20, w ∈ wsX2_heldBy := by decide +kernel
def fX2_heldBy_l4 (σ : Sg) (a : Nat) (v1 : Int32)  : Nat → Int32 → Int32 → Option (Int32)
  | 0, _, _ => none
  | n + 1, v2, v3 => if (σ a 1) ≤ v3 then some v2 else (rd (σ (a + 5)) 6 v3).bind fun t1 => if t1 = (-4 : Int32) then fX2_heldBy_l4 σ a v1 n v2 (v3 + 1) else (rd (σ (a + 5)) 6 v3).bind fun t2 => (fX7_holds v1 t2).bind fun t3 => if t3 = 0 then fX2_heldBy_l4 σ a v1 n v2 (v3 + 1) else fX2_heldBy_l4 σ a v1 n (v2 ||| ((1 : Int32) <<< (v3 &&& 31))) (v3 + 1)
def fX2_heldBy (σ : Sg) (a : Nat) (v1 : Int32) : Option (Int32) := fX2_heldBy_l4 σ a v1 2000 (0 : Int32) (0 : Int32)
set_option maxHeartbeats 1000000 in
set_option maxRecDepth 20000 in
theorem kX2_heldBy_l4 {p : Program} {l : Launch} {e : Env} {s : State} {m : MethodId} {args : Array Value} {below : List Frame} {meth : Method} {c : Code} {Z : Sh} (C : Cx p s m args meth c cX2_heldBy 4 wsX2_heldBy RX2 (some .int) Z layX) {σ : Sg} {a : Nat} {v1 : Int32} {u : Int32} (h_a : IsR a)  : ∀ (n : Nat) (v2 : Int32) (v3 : Int32), fX2_heldBy_l4 σ a v1 n v2 v3 = some u → G p l e rX2_heldBy s m args below meth c 4 Z layX (MQ below (QI Z layX σ u s.heap.size) args s 0 0 (pA Z layX s.heap.size)) σ 4 [(0, .ref (ad Z a)), (1, .int v1), (2, .int v2), (3, .int v3)] [] := by
  intro n
  induction n with
  | zero => intro v2 v3 h; exact absurd h (by simp [fX2_heldBy_l4])
  | succ n ih =>
    intro v2 v3 h
    rw [fX2_heldBy_l4] at h
    refine g_iload_n (pc := 4) C dX2_heldBy_4 rfl 3 rfl ?_
    refine g_aload_n (pc := 5) C dX2_heldBy_5 rfl 0 rfl ?_
    refine g_geti (pc := 6) C (Cn := RX2) (T := TX2) (N := 8) (ci := 2) (k := a) (j := 1) uX2_heldBy_X2 h_a.1 rfl (by decide) (by decide +kernel) (q := 0) rfl dX2_heldBy_6 ?_
    refine g_icmp_ge (pc := 9) C (tgt := 48) dX2_heldBy_9 (by decide) h (fun hc9 h => ?_) (fun hc9 h => ?_)
    · refine g_iload_n (pc := 48) C dX2_heldBy_48 rfl 2 rfl ?_
      exact g_iret C dX2_heldBy_49 rfl (Option.some.inj h)
    · refine g_aload_n (pc := 12) C dX2_heldBy_12 rfl 0 rfl ?_
      refine g_getr (pc := 13) C (Cn := RX2) (T := TX2) (N := 8) (ci := 2) (k := a) (j := 7) uX2_heldBy_X2 h_a.1 rfl (by decide) (by decide +kernel) (q := (a + 5)) rfl dX2_heldBy_13 ?_
      refine g_iload_n (pc := 16) C dX2_heldBy_16 rfl 3 rfl ?_
      obtain ⟨t1, et1, h⟩ := bs h
      refine g_iald (pc := 17) C (k := (a + 5)) (n := 6) h_a.2.2.2.2.2 et1 dX2_heldBy_17 ?_
      refine g_bipush (pc := 18) C (v := (-4 : Int32)) dX2_heldBy_18 (by decide) ?_
      refine g_icmp_eq (pc := 20) C (tgt := 42) dX2_heldBy_20 (by decide) h (fun hc20 h => ?_) (fun hc20 h => ?_)
      · refine g_iinc (pc := 42) C (j := 3) (v := (v3 + 1)) (lv2 := [(3, .int (v3 + 1)), (0, .ref (ad Z a)), (1, .int v1), (2, .int v2)]) dX2_heldBy_42 rfl rfl (by decide) rfl ?_
        refine g_goto (pc := 45) C (tgt := 4) dX2_heldBy_45 (by decide) ?_
        exact g_sub [1, 2, 3, 0] rfl (ih _ _ h)
      · refine g_iload_n (pc := 23) C dX2_heldBy_23 rfl 1 rfl ?_
        refine g_aload_n (pc := 24) C dX2_heldBy_24 rfl 0 rfl ?_
        refine g_getr (pc := 25) C (Cn := RX2) (T := TX2) (N := 8) (ci := 2) (k := a) (j := 7) uX2_heldBy_X2 h_a.1 rfl (by decide) (by decide +kernel) (q := (a + 5)) rfl dX2_heldBy_25 ?_
        refine g_iload_n (pc := 28) C dX2_heldBy_28 rfl 3 rfl ?_
        obtain ⟨t2, et2, h⟩ := bs h
        refine g_iald (pc := 29) C (k := (a + 5)) (n := 6) h_a.2.2.2.2.2 et2 dX2_heldBy_29 ?_
        obtain ⟨t3, et3, h⟩ := bs h
        refine g_callSNi (pc := 30) C (As := [.int v1, .int t2]) (rest := []) ⟨va_cnB (y := yX7_holds) 2 C.2.2.2.2.2.1 gX2_heldBy_X7_holds_n45 rfl rfl rfl (C.2.2.2.2.2.2.2.2.1 (.methodLinkNest "MoundVotes$Realm" 45 ⟨"MoundVotes", "holds", "(II)Z"⟩ "MoundVotes") (by decide +kernel)) (C.2.2.2.2.2.1 (.initialized RX7) (by decide +kernel)) (by decide +kernel) ⟨Nat.le_of_ble_eq_true rfl, Nat.le_of_ble_eq_true rfl⟩, C.2.2.2.2.2.1 (.static yX7_holds) (by decide +kernel), trivial⟩ (mX7_holds l Z  et3) rfl rfl (Nat.le_of_ble_eq_true rfl) dX2_heldBy_30 ?_
        refine g_if_eq (pc := 33) C (tgt := 42) dX2_heldBy_33 (by decide) h (fun hc33 h => ?_) (fun hc33 h => ?_)
        · refine g_iinc (pc := 42) C (j := 3) (v := (v3 + 1)) (lv2 := [(3, .int (v3 + 1)), (0, .ref (ad Z a)), (1, .int v1), (2, .int v2)]) dX2_heldBy_42 rfl rfl (by decide) rfl ?_
          refine g_goto (pc := 45) C (tgt := 4) dX2_heldBy_45 (by decide) ?_
          exact g_sub [1, 2, 3, 0] rfl (ih _ _ h)
        · refine g_iload_n (pc := 36) C dX2_heldBy_36 rfl 2 rfl ?_
          refine g_iconst (pc := 37) C (v := (1 : Int32)) dX2_heldBy_37 (by decide) ?_
          refine g_iload_n (pc := 38) C dX2_heldBy_38 rfl 3 rfl ?_
          refine g_ishl (pc := 39) C dX2_heldBy_39 ?_
          refine g_ior (pc := 40) C dX2_heldBy_40 ?_
          refine g_istore_n (pc := 41) C (lv2 := [(2, .int (v2 ||| ((1 : Int32) <<< (v3 &&& 31)))), (0, .ref (ad Z a)), (1, .int v1), (3, .int v3)]) dX2_heldBy_41 rfl (by decide) rfl ?_
          refine g_iinc (pc := 42) C (j := 3) (v := (v3 + 1)) (lv2 := [(3, .int (v3 + 1)), (2, .int (v2 ||| ((1 : Int32) <<< (v3 &&& 31)))), (0, .ref (ad Z a)), (1, .int v1)]) dX2_heldBy_42 rfl rfl (by decide) rfl ?_
          refine g_goto (pc := 45) C (tgt := 4) dX2_heldBy_45 (by decide) ?_
          exact g_sub [2, 3, 1, 0] rfl (ih _ _ h)
set_option maxHeartbeats 1000000 in
set_option maxRecDepth 20000 in
theorem kX2_heldBy_e {p : Program} {l : Launch} {e : Env} {s : State} {m : MethodId} {args : Array Value} {below : List Frame} {meth : Method} {c : Code} {Z : Sh} (C : Cx p s m args meth c cX2_heldBy 4 wsX2_heldBy RX2 (some .int) Z layX) {σ : Sg} {a : Nat} {v1 : Int32} {u : Int32} (h_a : IsR a) (h : fX2_heldBy σ a v1 = some u) : G p l e rX2_heldBy s m args below meth c 4 Z layX (MQ below (QI Z layX σ u s.heap.size) args s 0 0 (pA Z layX s.heap.size)) σ 0 [(0, .ref (ad Z a)), (1, .int v1)] [] := by
  unfold fX2_heldBy at h
  refine g_iconst (pc := 0) C (v := (0 : Int32)) dX2_heldBy_0 (by decide) ?_
  refine g_istore_n (pc := 1) C (lv2 := [(2, .int (0 : Int32)), (0, .ref (ad Z a)), (1, .int v1)]) dX2_heldBy_1 rfl (by decide) rfl ?_
  refine g_iconst (pc := 2) C (v := (0 : Int32)) dX2_heldBy_2 (by decide) ?_
  refine g_istore_n (pc := 3) C (lv2 := [(3, .int (0 : Int32)), (2, .int (0 : Int32)), (0, .ref (ad Z a)), (1, .int v1)]) dX2_heldBy_3 rfl (by decide) rfl ?_
  exact g_sub [2, 3, 1, 0] rfl (kX2_heldBy_l4 C h_a  _ _ _ h)
theorem mX2_heldBy (l : Launch) (Z : Sh) {σ : Sg} {a : Nat} {v1 : Int32} {u : Int32} (h_a : IsR a) (h : fX2_heldBy σ a v1 = some u) : MI l Z layX yX2_heldBy wsX2_heldBy rX2_heldBy [.ref (ad Z a), .int v1] σ σ u :=
  MI.of (cc := cX2_heldBy) (maxL := 4) (ret := (some .int)) (by decide) rfl (Nat.le_of_ble_eq_true rfl) (fun p e s m below meth c C => kX2_heldBy_e C h_a h)

def rX0_add : Room := { frames := 0, cells := 0, slots := 0, locals := 0 }
theorem uX0_add_X0 : ∀ w ∈ wsX00, w ∈ wsX0_add := by decide +kernel
def fX0_add (σ : Sg) (v1 : Int32) : Option (Sg) := if (10 : Int32) ≤ (σ 34 2) then some σ else (wr σ 35 10 (σ 34 2) v1).bind fun σ1 => (pf σ1 34 2 ((σ1 34 2) + (1 : Int32))).bind fun σ2 => some σ2
set_option maxHeartbeats 1000000 in
set_option maxRecDepth 20000 in
theorem kX0_add_e {p : Program} {l : Launch} {e : Env} {s : State} {m : MethodId} {args : Array Value} {below : List Frame} {meth : Method} {c : Code} {Z : Sh} (C : Cx p s m args meth c cX0_add 2 wsX0_add RX0 none Z layX) {σ : Sg} {v1 : Int32} {u : Sg}  (h : fX0_add σ v1 = some u) : G p l e rX0_add s m args below meth c 2 Z layX (MQ below (QV Z layX u s.heap.size) args s 0 0 (pA Z layX s.heap.size)) σ 0 [(0, .ref (ad Z 34)), (1, .int v1)] [] := by
  unfold fX0_add at h
  refine g_aload_n (pc := 0) C dX0_add_0 rfl 0 rfl ?_
  refine g_geti (pc := 1) C (Cn := RX0) (T := TX0) (N := 4) (ci := 0) (k := 34) (j := 2) uX0_add_X0 (by rfl) rfl (by decide) (by decide +kernel) (q := 0) rfl dX0_add_1 ?_
  refine g_bipush (pc := 4) C (v := (10 : Int32)) dX0_add_4 (by decide) ?_
  refine g_icmp_ge (pc := 6) C (tgt := 29) dX0_add_6 (by decide) h (fun hc6 h => ?_) (fun hc6 h => ?_)
  · exact g_vret C dX0_add_29 (Option.some.inj h)
  · refine g_aload_n (pc := 9) C dX0_add_9 rfl 0 rfl ?_
    refine g_getr (pc := 10) C (Cn := RX0) (T := TX0) (N := 4) (ci := 0) (k := 34) (j := 0) uX0_add_X0 (by rfl) rfl (by decide) (by decide +kernel) (q := 35) rfl dX0_add_10 ?_
    refine g_aload_n (pc := 13) C dX0_add_13 rfl 0 rfl ?_
    refine g_geti (pc := 14) C (Cn := RX0) (T := TX0) (N := 4) (ci := 0) (k := 34) (j := 2) uX0_add_X0 (by rfl) rfl (by decide) (by decide +kernel) (q := 0) rfl dX0_add_14 ?_
    refine g_iload_n (pc := 17) C dX0_add_17 rfl 1 rfl ?_
    obtain ⟨σ1, eσ1, h⟩ := bs h
    refine g_iast (pc := 18) C (k := 35) (n := 10) (by rfl) eσ1 dX0_add_18 ?_
    refine g_aload_n (pc := 19) C dX0_add_19 rfl 0 rfl ?_
    refine g_dup (pc := 20) C rfl dX0_add_20 ?_
    refine g_geti (pc := 21) C (Cn := RX0) (T := TX0) (N := 4) (ci := 0) (k := 34) (j := 2) uX0_add_X0 (by rfl) rfl (by decide) (by decide +kernel) (q := 0) rfl dX0_add_21 ?_
    refine g_iconst (pc := 24) C (v := (1 : Int32)) dX0_add_24 (by decide) ?_
    refine g_iadd (pc := 25) C dX0_add_25 ?_
    obtain ⟨σ2, eσ2, h⟩ := bs h
    refine g_puti (pc := 26) C (Cn := RX0) (T := TX0) (N := 4) (ci := 0) (k := 34) (j := 2) uX0_add_X0 (by rfl) rfl (by decide) (by decide +kernel) tyX0 tyX0_ok nmX0 rfl (by decide +kernel) rfl eσ2 dX0_add_26 ?_
    exact g_vret C dX0_add_29 (Option.some.inj h)
theorem mX0_add (l : Launch) (Z : Sh) {σ : Sg} {v1 : Int32} {u : Sg}  (h : fX0_add σ v1 = some u) : MV l Z layX yX0_add wsX0_add rX0_add [.ref (ad Z 34), .int v1] σ u :=
  MV.of (cc := cX0_add) (maxL := 2) (ret := none) (by decide) rfl (Nat.le_of_ble_eq_true rfl) (fun p e s m below meth c C => kX0_add_e C  h)

def rX0_gather : Room := { frames := 2, cells := 0, slots := 0, locals := 44 }
theorem uX0_gather_X0 : ∀ w ∈ wsX00, w ∈ wsX0_gather := by decide +kernel
theorem uX0_gather_X2 : ∀ w ∈ wsX20, w ∈ wsX0_gather := by decide +kernel
def fX0_gather_l50 (a : Nat)  : Nat → Sg → Int32 → Option (Sg)
  | 0, _, _ => none
  | n + 1, σ, v2 => if (σ a 1) ≤ v2 then some σ else (rd (σ (a + 5)) 6 v2).bind fun t1 => if t1 = (-4 : Int32) then (rd (σ (a + 4)) 6 v2).bind fun t2 => (fX0_add σ t2).bind fun σ3 => fX0_gather_l50 a n σ3 (v2 + 1) else fX0_gather_l50 a n σ (v2 + 1)
def fX0_gather_l19 (a : Nat)  : Nat → Sg → Int32 → Option (Sg)
  | 0, _, _ => none
  | n + 1, σ, v2 => if (σ a 0) ≤ v2 then fX0_gather_l50 a 2000 σ (0 : Int32) else (fX2_heldBy σ a ((1 : Int32) <<< (v2 &&& 31))).bind fun t1 => (fX2_seatsIn σ a t1).bind fun t2 => (fX0_add σ t2).bind fun σ3 => fX0_gather_l19 a n σ3 (v2 + 1)
def fX0_gather (σ : Sg) (a : Nat) : Option (Sg) := (pf σ 34 2 (0 : Int32)).bind fun σ1 => (fX2_everyBorough σ1 a).bind fun t2 => (fX2_seatsIn σ1 a t2).bind fun t3 => (pf σ1 34 3 t3).bind fun σ4 => fX0_gather_l19 a 2000 σ4 (0 : Int32)
set_option maxHeartbeats 1000000 in
set_option maxRecDepth 20000 in
theorem kX0_gather_l50 {p : Program} {l : Launch} {e : Env} {s : State} {m : MethodId} {args : Array Value} {below : List Frame} {meth : Method} {c : Code} {Z : Sh} (C : Cx p s m args meth c cX0_gather 3 wsX0_gather RX0 none Z layX) {a : Nat} {u : Sg} (h_a : IsR a)  : ∀ (n : Nat) (σ : Sg) (v2 : Int32), fX0_gather_l50 a n σ v2 = some u → G p l e rX0_gather s m args below meth c 3 Z layX (MQ below (QV Z layX u s.heap.size) args s 0 0 (pA Z layX s.heap.size)) σ 50 [(0, .ref (ad Z 34)), (1, .ref (ad Z a)), (2, .int v2)] [] := by
  intro n
  induction n with
  | zero => intro σ v2 h; exact absurd h (by simp [fX0_gather_l50])
  | succ n ih =>
    intro σ v2 h
    rw [fX0_gather_l50] at h
    refine g_iload_n (pc := 50) C dX0_gather_50 rfl 2 rfl ?_
    refine g_aload_n (pc := 51) C dX0_gather_51 rfl 1 rfl ?_
    refine g_getiN (pc := 52) C (host := "MoundVotes") (Cn := RX2) (T := TX2) (N := 8) (ci := 2) (k := a) (j := 1) uX0_gather_X2 h_a.1 rfl (by decide) (by decide +kernel) (q := 0) rfl dX0_gather_52 ?_
    refine g_icmp_ge (pc := 55) C (tgt := 85) dX0_gather_55 (by decide) h (fun hc55 h => ?_) (fun hc55 h => ?_)
    · exact g_vret C dX0_gather_85 (Option.some.inj h)
    · refine g_aload_n (pc := 58) C dX0_gather_58 rfl 1 rfl ?_
      refine g_getrN (pc := 59) C (host := "MoundVotes") (Cn := RX2) (T := TX2) (N := 8) (ci := 2) (k := a) (j := 7) uX0_gather_X2 h_a.1 rfl (by decide) (by decide +kernel) (q := (a + 5)) rfl dX0_gather_59 ?_
      refine g_iload_n (pc := 62) C dX0_gather_62 rfl 2 rfl ?_
      obtain ⟨t1, et1, h⟩ := bs h
      refine g_iald (pc := 63) C (k := (a + 5)) (n := 6) h_a.2.2.2.2.2 et1 dX0_gather_63 ?_
      refine g_bipush (pc := 64) C (v := (-4 : Int32)) dX0_gather_64 (by decide) ?_
      refine g_icmp_ne (pc := 66) C (tgt := 79) dX0_gather_66 (by decide) h (fun hc66 h => ?_) (fun hc66 h => ?_)
      · refine g_iinc (pc := 79) C (j := 2) (v := (v2 + 1)) (lv2 := [(2, .int (v2 + 1)), (0, .ref (ad Z 34)), (1, .ref (ad Z a))]) dX0_gather_79 rfl rfl (by decide) rfl ?_
        refine g_goto (pc := 82) C (tgt := 50) dX0_gather_82 (by decide) ?_
        exact g_sub [1, 2, 0] rfl (ih _ _ h)
      · refine g_aload_n (pc := 69) C dX0_gather_69 rfl 0 rfl ?_
        refine g_aload_n (pc := 70) C dX0_gather_70 rfl 1 rfl ?_
        refine g_getrN (pc := 71) C (host := "MoundVotes") (Cn := RX2) (T := TX2) (N := 8) (ci := 2) (k := a) (j := 6) uX0_gather_X2 h_a.1 rfl (by decide) (by decide +kernel) (q := (a + 4)) rfl dX0_gather_71 ?_
        refine g_iload_n (pc := 74) C dX0_gather_74 rfl 2 rfl ?_
        obtain ⟨t2, et2, h⟩ := bs h
        refine g_iald (pc := 75) C (k := (a + 4)) (n := 6) h_a.2.2.2.2.1 et2 dX0_gather_75 ?_
        obtain ⟨σ3, eσ3, h⟩ := bs h
        refine g_callVv (pc := 76) C (As := [.int t2]) (rest := []) (k := 34) (by rfl) (by rfl) (cwV 1 C.2.2.2.2.2.1 gX0_gather_X0_add rfl rfl rfl (by decide +kernel) ⟨Nat.le_of_ble_eq_true rfl, Nat.le_of_ble_eq_true rfl⟩) (mX0_add l Z  eσ3) rfl rfl (Nat.le_of_ble_eq_true rfl) dX0_gather_76 ?_
        refine g_iinc (pc := 79) C (j := 2) (v := (v2 + 1)) (lv2 := [(2, .int (v2 + 1)), (0, .ref (ad Z 34)), (1, .ref (ad Z a))]) dX0_gather_79 rfl rfl (by decide) rfl ?_
        refine g_goto (pc := 82) C (tgt := 50) dX0_gather_82 (by decide) ?_
        exact g_sub [1, 2, 0] rfl (ih _ _ h)
set_option maxHeartbeats 1000000 in
set_option maxRecDepth 20000 in
theorem kX0_gather_l19 {p : Program} {l : Launch} {e : Env} {s : State} {m : MethodId} {args : Array Value} {below : List Frame} {meth : Method} {c : Code} {Z : Sh} (C : Cx p s m args meth c cX0_gather 3 wsX0_gather RX0 none Z layX) {a : Nat} {u : Sg} (h_a : IsR a)  : ∀ (n : Nat) (σ : Sg) (v2 : Int32), fX0_gather_l19 a n σ v2 = some u → G p l e rX0_gather s m args below meth c 3 Z layX (MQ below (QV Z layX u s.heap.size) args s 0 0 (pA Z layX s.heap.size)) σ 19 [(0, .ref (ad Z 34)), (1, .ref (ad Z a)), (2, .int v2)] [] := by
  intro n
  induction n with
  | zero => intro σ v2 h; exact absurd h (by simp [fX0_gather_l19])
  | succ n ih =>
    intro σ v2 h
    rw [fX0_gather_l19] at h
    refine g_iload_n (pc := 19) C dX0_gather_19 rfl 2 rfl ?_
    refine g_aload_n (pc := 20) C dX0_gather_20 rfl 1 rfl ?_
    refine g_getiN (pc := 21) C (host := "MoundVotes") (Cn := RX2) (T := TX2) (N := 8) (ci := 2) (k := a) (j := 0) uX0_gather_X2 h_a.1 rfl (by decide) (by decide +kernel) (q := 0) rfl dX0_gather_21 ?_
    refine g_icmp_ge (pc := 24) C (tgt := 48) dX0_gather_24 (by decide) h (fun hc24 h => ?_) (fun hc24 h => ?_)
    · refine g_iconst (pc := 48) C (v := (0 : Int32)) dX0_gather_48 (by decide) ?_
      refine g_istore_n (pc := 49) C (lv2 := [(2, .int (0 : Int32)), (0, .ref (ad Z 34)), (1, .ref (ad Z a))]) dX0_gather_49 rfl (by decide) rfl ?_
      exact g_sub [1, 2, 0] rfl (kX0_gather_l50 C h_a  _ _ _ h)
    · refine g_aload_n (pc := 27) C dX0_gather_27 rfl 0 rfl ?_
      refine g_aload_n (pc := 28) C dX0_gather_28 rfl 1 rfl ?_
      refine g_aload_n (pc := 29) C dX0_gather_29 rfl 1 rfl ?_
      refine g_iconst (pc := 30) C (v := (1 : Int32)) dX0_gather_30 (by decide) ?_
      refine g_iload_n (pc := 31) C dX0_gather_31 rfl 2 rfl ?_
      refine g_ishl (pc := 32) C dX0_gather_32 ?_
      obtain ⟨t1, et1, h⟩ := bs h
      refine g_callVi (pc := 33) C (As := [.int ((1 : Int32) <<< (v2 &&& 31))]) (rest := [.ref (ad Z a), .ref (ad Z 34)]) (k := a) h_a.1 (by rfl) (cwV 1 C.2.2.2.2.2.1 gX0_gather_X2_heldBy rfl rfl rfl (by decide +kernel) ⟨Nat.le_of_ble_eq_true rfl, Nat.le_of_ble_eq_true rfl⟩) (mX2_heldBy l Z h_a et1) rfl rfl (Nat.le_of_ble_eq_true rfl) dX0_gather_33 ?_
      obtain ⟨t2, et2, h⟩ := bs h
      refine g_callVi (pc := 36) C (As := [.int t1]) (rest := [.ref (ad Z 34)]) (k := a) h_a.1 (by rfl) (cwV 1 C.2.2.2.2.2.1 gX0_gather_X2_seatsIn rfl rfl rfl (by decide +kernel) ⟨Nat.le_of_ble_eq_true rfl, Nat.le_of_ble_eq_true rfl⟩) (mX2_seatsIn l Z h_a et2) rfl rfl (Nat.le_of_ble_eq_true rfl) dX0_gather_36 ?_
      obtain ⟨σ3, eσ3, h⟩ := bs h
      refine g_callVv (pc := 39) C (As := [.int t2]) (rest := []) (k := 34) (by rfl) (by rfl) (cwV 1 C.2.2.2.2.2.1 gX0_gather_X0_add rfl rfl rfl (by decide +kernel) ⟨Nat.le_of_ble_eq_true rfl, Nat.le_of_ble_eq_true rfl⟩) (mX0_add l Z  eσ3) rfl rfl (Nat.le_of_ble_eq_true rfl) dX0_gather_39 ?_
      refine g_iinc (pc := 42) C (j := 2) (v := (v2 + 1)) (lv2 := [(2, .int (v2 + 1)), (0, .ref (ad Z 34)), (1, .ref (ad Z a))]) dX0_gather_42 rfl rfl (by decide) rfl ?_
      refine g_goto (pc := 45) C (tgt := 19) dX0_gather_45 (by decide) ?_
      exact g_sub [1, 2, 0] rfl (ih _ _ h)
set_option maxHeartbeats 1000000 in
set_option maxRecDepth 20000 in
theorem kX0_gather_e {p : Program} {l : Launch} {e : Env} {s : State} {m : MethodId} {args : Array Value} {below : List Frame} {meth : Method} {c : Code} {Z : Sh} (C : Cx p s m args meth c cX0_gather 3 wsX0_gather RX0 none Z layX) {σ : Sg} {a : Nat} {u : Sg} (h_a : IsR a) (h : fX0_gather σ a = some u) : G p l e rX0_gather s m args below meth c 3 Z layX (MQ below (QV Z layX u s.heap.size) args s 0 0 (pA Z layX s.heap.size)) σ 0 [(0, .ref (ad Z 34)), (1, .ref (ad Z a))] [] := by
  unfold fX0_gather at h
  refine g_aload_n (pc := 0) C dX0_gather_0 rfl 0 rfl ?_
  refine g_iconst (pc := 1) C (v := (0 : Int32)) dX0_gather_1 (by decide) ?_
  obtain ⟨σ1, eσ1, h⟩ := bs h
  refine g_puti (pc := 2) C (Cn := RX0) (T := TX0) (N := 4) (ci := 0) (k := 34) (j := 2) uX0_gather_X0 (by rfl) rfl (by decide) (by decide +kernel) tyX0 tyX0_ok nmX0 rfl (by decide +kernel) rfl eσ1 dX0_gather_2 ?_
  refine g_aload_n (pc := 5) C dX0_gather_5 rfl 0 rfl ?_
  refine g_aload_n (pc := 6) C dX0_gather_6 rfl 1 rfl ?_
  refine g_aload_n (pc := 7) C dX0_gather_7 rfl 1 rfl ?_
  obtain ⟨t2, et2, h⟩ := bs h
  refine g_callVi (pc := 8) C (As := []) (rest := [.ref (ad Z a), .ref (ad Z 34)]) (k := a) h_a.1 (by rfl) (cwV 0 C.2.2.2.2.2.1 gX0_gather_X2_everyBorough rfl rfl rfl (by decide +kernel) ⟨Nat.le_of_ble_eq_true rfl, Nat.le_of_ble_eq_true rfl⟩) (mX2_everyBorough l Z h_a et2) rfl rfl (Nat.le_of_ble_eq_true rfl) dX0_gather_8 ?_
  obtain ⟨t3, et3, h⟩ := bs h
  refine g_callVi (pc := 11) C (As := [.int t2]) (rest := [.ref (ad Z 34)]) (k := a) h_a.1 (by rfl) (cwV 1 C.2.2.2.2.2.1 gX0_gather_X2_seatsIn rfl rfl rfl (by decide +kernel) ⟨Nat.le_of_ble_eq_true rfl, Nat.le_of_ble_eq_true rfl⟩) (mX2_seatsIn l Z h_a et3) rfl rfl (Nat.le_of_ble_eq_true rfl) dX0_gather_11 ?_
  obtain ⟨σ4, eσ4, h⟩ := bs h
  refine g_puti (pc := 14) C (Cn := RX0) (T := TX0) (N := 4) (ci := 0) (k := 34) (j := 3) uX0_gather_X0 (by rfl) rfl (by decide) (by decide +kernel) tyX0 tyX0_ok nmX0 rfl (by decide +kernel) rfl eσ4 dX0_gather_14 ?_
  refine g_iconst (pc := 17) C (v := (0 : Int32)) dX0_gather_17 (by decide) ?_
  refine g_istore_n (pc := 18) C (lv2 := [(2, .int (0 : Int32)), (0, .ref (ad Z 34)), (1, .ref (ad Z a))]) dX0_gather_18 rfl (by decide) rfl ?_
  exact g_sub [1, 2, 0] rfl (kX0_gather_l19 C h_a  _ _ _ h)
theorem mX0_gather (l : Launch) (Z : Sh) {σ : Sg} {a : Nat} {u : Sg} (h_a : IsR a) (h : fX0_gather σ a = some u) : MV l Z layX yX0_gather wsX0_gather rX0_gather [.ref (ad Z 34), .ref (ad Z a)] σ u :=
  MV.of (cc := cX0_gather) (maxL := 3) (ret := none) (by decide) rfl (Nat.le_of_ble_eq_true rfl) (fun p e s m below meth c C => kX0_gather_e C h_a h)

def rX7_within : Room := { frames := 0, cells := 0, slots := 0, locals := 0 }
def fX7_within (v0 : Int32) (v1 : Int32) (v2 : Int32) : Option (Int32) := if v0 < v1 then some (0 : Int32) else if v2 < v0 then some (0 : Int32) else some (1 : Int32)
set_option maxHeartbeats 1000000 in
set_option maxRecDepth 20000 in
theorem kX7_within_e {p : Program} {l : Launch} {e : Env} {s : State} {m : MethodId} {args : Array Value} {below : List Frame} {meth : Method} {c : Code} {Z : Sh} (C : Cx p s m args meth c cX7_within 3 wsX7_within RX7 (some .boolean) Z layX) {σ : Sg} {v0 : Int32} {v1 : Int32} {v2 : Int32} {u : Int32}  (h : fX7_within v0 v1 v2 = some u) : G p l e rX7_within s m args below meth c 3 Z layX (MQ below (QI Z layX σ u s.heap.size) args s 0 0 (pA Z layX s.heap.size)) σ 0 [(0, .int v0), (1, .int v1), (2, .int v2)] [] := by
  unfold fX7_within at h
  refine g_iload_n (pc := 0) C dX7_within_0 rfl 0 rfl ?_
  refine g_iload_n (pc := 1) C dX7_within_1 rfl 1 rfl ?_
  refine g_icmp_lt (pc := 2) C (tgt := 14) dX7_within_2 (by decide) h (fun hc2 h => ?_) (fun hc2 h => ?_)
  · refine g_iconst (pc := 14) C (v := (0 : Int32)) dX7_within_14 (by decide) ?_
    exact g_zret C dX7_within_15 rfl (rz0.trans h)
  · refine g_iload_n (pc := 5) C dX7_within_5 rfl 0 rfl ?_
    refine g_iload_n (pc := 6) C dX7_within_6 rfl 2 rfl ?_
    refine g_icmp_gt (pc := 7) C (tgt := 14) dX7_within_7 (by decide) h (fun hc7 h => ?_) (fun hc7 h => ?_)
    · refine g_iconst (pc := 14) C (v := (0 : Int32)) dX7_within_14 (by decide) ?_
      exact g_zret C dX7_within_15 rfl (rz0.trans h)
    · refine g_iconst (pc := 10) C (v := (1 : Int32)) dX7_within_10 (by decide) ?_
      refine g_goto (pc := 11) C (tgt := 15) dX7_within_11 (by decide) ?_
      exact g_zret C dX7_within_15 rfl (rz1.trans h)
theorem mX7_within (l : Launch) (Z : Sh) {σ : Sg} {v0 : Int32} {v1 : Int32} {v2 : Int32} {u : Int32}  (h : fX7_within v0 v1 v2 = some u) : MI l Z layX yX7_within wsX7_within rX7_within [.int v0, .int v1, .int v2] σ σ u :=
  MI.of (cc := cX7_within) (maxL := 3) (ret := (some .boolean)) (by decide) rfl (Nat.le_of_ble_eq_true rfl) (fun p e s m below meth c C => kX7_within_e C  h)

def rX0_widenBy : Room := { frames := 0, cells := 0, slots := 0, locals := 0 }
theorem uX0_widenBy_X0 : ∀ w ∈ wsX00, w ∈ wsX0_widenBy := by decide +kernel
def fX0_widenBy_l9 (v1 : Int32) (k3 : Sg → Int32 → Option (Sg)) : Nat → Sg → Int32 → Int32 → Option (Sg)
  | 0, _, _, _ => none
  | n + 1, σ, v2, v3 => if (18 : Int32) < (v3 + v1) then k3 σ (v2 + (-1)) else (rd (σ 36) 190 ((((v2 + (1 : Int32)) * (19 : Int32)) + v3) + v1)).bind fun t1 => (rd (σ 36) 190 ((v2 * (19 : Int32)) + v3)).bind fun t2 => (wr σ 36 190 ((((v2 + (1 : Int32)) * (19 : Int32)) + v3) + v1) (t1 + t2)).bind fun σ3 => fX0_widenBy_l9 v1 k3 n σ3 v2 (v3 + 1)
def fX0_widenBy_l3 (v1 : Int32)  : Nat → Sg → Int32 → Option (Sg)
  | 0, _, _ => none
  | n + 1, σ, v2 => if v2 < 0 then some σ else fX0_widenBy_l9 v1 (fun σ v2 => fX0_widenBy_l3 v1 n σ v2) 2000 σ v2 (0 : Int32)
def fX0_widenBy (σ : Sg) (v1 : Int32) : Option (Sg) := fX0_widenBy_l3 v1 2000 σ (8 : Int32)
set_option maxHeartbeats 1000000 in
set_option maxRecDepth 20000 in
theorem kX0_widenBy_l9 {p : Program} {l : Launch} {e : Env} {s : State} {m : MethodId} {args : Array Value} {below : List Frame} {meth : Method} {c : Code} {Z : Sh} (C : Cx p s m args meth c cX0_widenBy 4 wsX0_widenBy RX0 none Z layX) {v1 : Int32} {u : Sg}  {k3 : Sg → Int32 → Option (Sg)} (hk3 : ∀ (σ : Sg) (v2 : Int32), k3 σ v2 = some u → G p l e rX0_widenBy s m args below meth c 4 Z layX (MQ below (QV Z layX u s.heap.size) args s 0 0 (pA Z layX s.heap.size)) σ 3 [(0, .ref (ad Z 34)), (1, .int v1), (2, .int v2)] []) : ∀ (n : Nat) (σ : Sg) (v2 : Int32) (v3 : Int32), fX0_widenBy_l9 v1 k3 n σ v2 v3 = some u → G p l e rX0_widenBy s m args below meth c 4 Z layX (MQ below (QV Z layX u s.heap.size) args s 0 0 (pA Z layX s.heap.size)) σ 9 [(0, .ref (ad Z 34)), (1, .int v1), (2, .int v2), (3, .int v3)] [] := by
  intro n
  induction n with
  | zero => intro σ v2 v3 h; exact absurd h (by simp [fX0_widenBy_l9])
  | succ n ih =>
    intro σ v2 v3 h
    rw [fX0_widenBy_l9] at h
    refine g_iload_n (pc := 9) C dX0_widenBy_9 rfl 3 rfl ?_
    refine g_iload_n (pc := 10) C dX0_widenBy_10 rfl 1 rfl ?_
    refine g_iadd (pc := 11) C dX0_widenBy_11 ?_
    refine g_bipush (pc := 12) C (v := (18 : Int32)) dX0_widenBy_12 (by decide) ?_
    refine g_icmp_gt (pc := 14) C (tgt := 52) dX0_widenBy_14 (by decide) h (fun hc14 h => ?_) (fun hc14 h => ?_)
    · refine g_iinc (pc := 52) C (j := 2) (v := (v2 + (-1))) (lv2 := [(2, .int (v2 + (-1))), (0, .ref (ad Z 34)), (1, .int v1), (3, .int v3)]) dX0_widenBy_52 rfl rfl (by decide) rfl ?_
      refine g_goto (pc := 55) C (tgt := 3) dX0_widenBy_55 (by decide) ?_
      exact g_sub [1, 2, 0] rfl (hk3 _ _ h)
    · refine g_aload_n (pc := 17) C dX0_widenBy_17 rfl 0 rfl ?_
      refine g_getr (pc := 18) C (Cn := RX0) (T := TX0) (N := 4) (ci := 0) (k := 34) (j := 1) uX0_widenBy_X0 (by rfl) rfl (by decide) (by decide +kernel) (q := 36) rfl dX0_widenBy_18 ?_
      refine g_iload_n (pc := 21) C dX0_widenBy_21 rfl 2 rfl ?_
      refine g_iconst (pc := 22) C (v := (1 : Int32)) dX0_widenBy_22 (by decide) ?_
      refine g_iadd (pc := 23) C dX0_widenBy_23 ?_
      refine g_bipush (pc := 24) C (v := (19 : Int32)) dX0_widenBy_24 (by decide) ?_
      refine g_imul (pc := 26) C dX0_widenBy_26 ?_
      refine g_iload_n (pc := 27) C dX0_widenBy_27 rfl 3 rfl ?_
      refine g_iadd (pc := 28) C dX0_widenBy_28 ?_
      refine g_iload_n (pc := 29) C dX0_widenBy_29 rfl 1 rfl ?_
      refine g_iadd (pc := 30) C dX0_widenBy_30 ?_
      refine g_dup2 (pc := 31) C rfl rfl dX0_widenBy_31 ?_
      obtain ⟨t1, et1, h⟩ := bs h
      refine g_iald (pc := 32) C (k := 36) (n := 190) (by rfl) et1 dX0_widenBy_32 ?_
      refine g_aload_n (pc := 33) C dX0_widenBy_33 rfl 0 rfl ?_
      refine g_getr (pc := 34) C (Cn := RX0) (T := TX0) (N := 4) (ci := 0) (k := 34) (j := 1) uX0_widenBy_X0 (by rfl) rfl (by decide) (by decide +kernel) (q := 36) rfl dX0_widenBy_34 ?_
      refine g_iload_n (pc := 37) C dX0_widenBy_37 rfl 2 rfl ?_
      refine g_bipush (pc := 38) C (v := (19 : Int32)) dX0_widenBy_38 (by decide) ?_
      refine g_imul (pc := 40) C dX0_widenBy_40 ?_
      refine g_iload_n (pc := 41) C dX0_widenBy_41 rfl 3 rfl ?_
      refine g_iadd (pc := 42) C dX0_widenBy_42 ?_
      obtain ⟨t2, et2, h⟩ := bs h
      refine g_iald (pc := 43) C (k := 36) (n := 190) (by rfl) et2 dX0_widenBy_43 ?_
      refine g_iadd (pc := 44) C dX0_widenBy_44 ?_
      obtain ⟨σ3, eσ3, h⟩ := bs h
      refine g_iast (pc := 45) C (k := 36) (n := 190) (by rfl) eσ3 dX0_widenBy_45 ?_
      refine g_iinc (pc := 46) C (j := 3) (v := (v3 + 1)) (lv2 := [(3, .int (v3 + 1)), (0, .ref (ad Z 34)), (1, .int v1), (2, .int v2)]) dX0_widenBy_46 rfl rfl (by decide) rfl ?_
      refine g_goto (pc := 49) C (tgt := 9) dX0_widenBy_49 (by decide) ?_
      exact g_sub [1, 2, 3, 0] rfl (ih _ _ _ h)
set_option maxHeartbeats 1000000 in
set_option maxRecDepth 20000 in
theorem kX0_widenBy_l3 {p : Program} {l : Launch} {e : Env} {s : State} {m : MethodId} {args : Array Value} {below : List Frame} {meth : Method} {c : Code} {Z : Sh} (C : Cx p s m args meth c cX0_widenBy 4 wsX0_widenBy RX0 none Z layX) {v1 : Int32} {u : Sg}   : ∀ (n : Nat) (σ : Sg) (v2 : Int32), fX0_widenBy_l3 v1 n σ v2 = some u → G p l e rX0_widenBy s m args below meth c 4 Z layX (MQ below (QV Z layX u s.heap.size) args s 0 0 (pA Z layX s.heap.size)) σ 3 [(0, .ref (ad Z 34)), (1, .int v1), (2, .int v2)] [] := by
  intro n
  induction n with
  | zero => intro σ v2 h; exact absurd h (by simp [fX0_widenBy_l3])
  | succ n ih =>
    intro σ v2 h
    rw [fX0_widenBy_l3] at h
    refine g_iload_n (pc := 3) C dX0_widenBy_3 rfl 2 rfl ?_
    refine g_if_lt (pc := 4) C (tgt := 58) dX0_widenBy_4 (by decide) h (fun hc4 h => ?_) (fun hc4 h => ?_)
    · exact g_vret C dX0_widenBy_58 (Option.some.inj h)
    · refine g_iconst (pc := 7) C (v := (0 : Int32)) dX0_widenBy_7 (by decide) ?_
      refine g_istore_n (pc := 8) C (lv2 := [(3, .int (0 : Int32)), (0, .ref (ad Z 34)), (1, .int v1), (2, .int v2)]) dX0_widenBy_8 rfl (by decide) rfl ?_
      exact g_sub [1, 2, 3, 0] rfl (kX0_widenBy_l9 C  ih _ _ _ _ h)
set_option maxHeartbeats 1000000 in
set_option maxRecDepth 20000 in
theorem kX0_widenBy_e {p : Program} {l : Launch} {e : Env} {s : State} {m : MethodId} {args : Array Value} {below : List Frame} {meth : Method} {c : Code} {Z : Sh} (C : Cx p s m args meth c cX0_widenBy 4 wsX0_widenBy RX0 none Z layX) {σ : Sg} {v1 : Int32} {u : Sg}  (h : fX0_widenBy σ v1 = some u) : G p l e rX0_widenBy s m args below meth c 4 Z layX (MQ below (QV Z layX u s.heap.size) args s 0 0 (pA Z layX s.heap.size)) σ 0 [(0, .ref (ad Z 34)), (1, .int v1)] [] := by
  unfold fX0_widenBy at h
  refine g_bipush (pc := 0) C (v := (8 : Int32)) dX0_widenBy_0 (by decide) ?_
  refine g_istore_n (pc := 2) C (lv2 := [(2, .int (8 : Int32)), (0, .ref (ad Z 34)), (1, .int v1)]) dX0_widenBy_2 rfl (by decide) rfl ?_
  exact g_sub [1, 2, 0] rfl (kX0_widenBy_l3 C   _ _ _ h)
theorem mX0_widenBy (l : Launch) (Z : Sh) {σ : Sg} {v1 : Int32} {u : Sg}  (h : fX0_widenBy σ v1 = some u) : MV l Z layX yX0_widenBy wsX0_widenBy rX0_widenBy [.ref (ad Z 34), .int v1] σ u :=
  MV.of (cc := cX0_widenBy) (maxL := 4) (ret := none) (by decide) rfl (Nat.le_of_ble_eq_true rfl) (fun p e s m below meth c C => kX0_widenBy_e C  h)

def rX0_countSetsWithout : Room := { frames := 1, cells := 0, slots := 0, locals := 23 }
theorem uX0_countSetsWithout_X0 : ∀ w ∈ wsX00, w ∈ wsX0_countSetsWithout := by decide +kernel
def fX0_countSetsWithout_l31 (v1 : Int32)  : Nat → Sg → Int32 → Option (Sg)
  | 0, _, _ => none
  | n + 1, σ, v2 => if (σ 34 2) ≤ v2 then some σ else if v2 = v1 then fX0_countSetsWithout_l31 v1 n σ (v2 + 1) else (rd (σ 35) 10 v2).bind fun t1 => (fX0_widenBy σ t1).bind fun σ2 => fX0_countSetsWithout_l31 v1 n σ2 (v2 + 1)
def fX0_countSetsWithout_l2 (v1 : Int32)  : Nat → Sg → Int32 → Option (Sg)
  | 0, _, _ => none
  | n + 1, σ, v2 => if (190 : Int32) ≤ v2 then (wr σ 36 190 (0 : Int32) (1 : Int32)).bind fun σ1 => fX0_countSetsWithout_l31 v1 2000 σ1 (0 : Int32) else (wr σ 36 190 v2 (0 : Int32)).bind fun σ2 => fX0_countSetsWithout_l2 v1 n σ2 (v2 + 1)
def fX0_countSetsWithout (σ : Sg) (v1 : Int32) : Option (Sg) := fX0_countSetsWithout_l2 v1 2000 σ (0 : Int32)
set_option maxHeartbeats 1000000 in
set_option maxRecDepth 20000 in
theorem kX0_countSetsWithout_l31 {p : Program} {l : Launch} {e : Env} {s : State} {m : MethodId} {args : Array Value} {below : List Frame} {meth : Method} {c : Code} {Z : Sh} (C : Cx p s m args meth c cX0_countSetsWithout 3 wsX0_countSetsWithout RX0 none Z layX) {v1 : Int32} {u : Sg}   : ∀ (n : Nat) (σ : Sg) (v2 : Int32), fX0_countSetsWithout_l31 v1 n σ v2 = some u → G p l e rX0_countSetsWithout s m args below meth c 3 Z layX (MQ below (QV Z layX u s.heap.size) args s 0 0 (pA Z layX s.heap.size)) σ 31 [(0, .ref (ad Z 34)), (1, .int v1), (2, .int v2)] [] := by
  intro n
  induction n with
  | zero => intro σ v2 h; exact absurd h (by simp [fX0_countSetsWithout_l31])
  | succ n ih =>
    intro σ v2 h
    rw [fX0_countSetsWithout_l31] at h
    refine g_iload_n (pc := 31) C dX0_countSetsWithout_31 rfl 2 rfl ?_
    refine g_aload_n (pc := 32) C dX0_countSetsWithout_32 rfl 0 rfl ?_
    refine g_geti (pc := 33) C (Cn := RX0) (T := TX0) (N := 4) (ci := 0) (k := 34) (j := 2) uX0_countSetsWithout_X0 (by rfl) rfl (by decide) (by decide +kernel) (q := 0) rfl dX0_countSetsWithout_33 ?_
    refine g_icmp_ge (pc := 36) C (tgt := 60) dX0_countSetsWithout_36 (by decide) h (fun hc36 h => ?_) (fun hc36 h => ?_)
    · exact g_vret C dX0_countSetsWithout_60 (Option.some.inj h)
    · refine g_iload_n (pc := 39) C dX0_countSetsWithout_39 rfl 2 rfl ?_
      refine g_iload_n (pc := 40) C dX0_countSetsWithout_40 rfl 1 rfl ?_
      refine g_icmp_eq (pc := 41) C (tgt := 54) dX0_countSetsWithout_41 (by decide) h (fun hc41 h => ?_) (fun hc41 h => ?_)
      · refine g_iinc (pc := 54) C (j := 2) (v := (v2 + 1)) (lv2 := [(2, .int (v2 + 1)), (0, .ref (ad Z 34)), (1, .int v1)]) dX0_countSetsWithout_54 rfl rfl (by decide) rfl ?_
        refine g_goto (pc := 57) C (tgt := 31) dX0_countSetsWithout_57 (by decide) ?_
        exact g_sub [1, 2, 0] rfl (ih _ _ h)
      · refine g_aload_n (pc := 44) C dX0_countSetsWithout_44 rfl 0 rfl ?_
        refine g_aload_n (pc := 45) C dX0_countSetsWithout_45 rfl 0 rfl ?_
        refine g_getr (pc := 46) C (Cn := RX0) (T := TX0) (N := 4) (ci := 0) (k := 34) (j := 0) uX0_countSetsWithout_X0 (by rfl) rfl (by decide) (by decide +kernel) (q := 35) rfl dX0_countSetsWithout_46 ?_
        refine g_iload_n (pc := 49) C dX0_countSetsWithout_49 rfl 2 rfl ?_
        obtain ⟨t1, et1, h⟩ := bs h
        refine g_iald (pc := 50) C (k := 35) (n := 10) (by rfl) et1 dX0_countSetsWithout_50 ?_
        obtain ⟨σ2, eσ2, h⟩ := bs h
        refine g_callVv (pc := 51) C (As := [.int t1]) (rest := []) (k := 34) (by rfl) (by rfl) (cwV 1 C.2.2.2.2.2.1 gX0_countSetsWithout_X0_widenBy rfl rfl rfl (by decide +kernel) ⟨Nat.le_of_ble_eq_true rfl, Nat.le_of_ble_eq_true rfl⟩) (mX0_widenBy l Z  eσ2) rfl rfl (Nat.le_of_ble_eq_true rfl) dX0_countSetsWithout_51 ?_
        refine g_iinc (pc := 54) C (j := 2) (v := (v2 + 1)) (lv2 := [(2, .int (v2 + 1)), (0, .ref (ad Z 34)), (1, .int v1)]) dX0_countSetsWithout_54 rfl rfl (by decide) rfl ?_
        refine g_goto (pc := 57) C (tgt := 31) dX0_countSetsWithout_57 (by decide) ?_
        exact g_sub [1, 2, 0] rfl (ih _ _ h)
set_option maxHeartbeats 1000000 in
set_option maxRecDepth 20000 in
theorem kX0_countSetsWithout_l2 {p : Program} {l : Launch} {e : Env} {s : State} {m : MethodId} {args : Array Value} {below : List Frame} {meth : Method} {c : Code} {Z : Sh} (C : Cx p s m args meth c cX0_countSetsWithout 3 wsX0_countSetsWithout RX0 none Z layX) {v1 : Int32} {u : Sg}   : ∀ (n : Nat) (σ : Sg) (v2 : Int32), fX0_countSetsWithout_l2 v1 n σ v2 = some u → G p l e rX0_countSetsWithout s m args below meth c 3 Z layX (MQ below (QV Z layX u s.heap.size) args s 0 0 (pA Z layX s.heap.size)) σ 2 [(0, .ref (ad Z 34)), (1, .int v1), (2, .int v2)] [] := by
  intro n
  induction n with
  | zero => intro σ v2 h; exact absurd h (by simp [fX0_countSetsWithout_l2])
  | succ n ih =>
    intro σ v2 h
    rw [fX0_countSetsWithout_l2] at h
    refine g_iload_n (pc := 2) C dX0_countSetsWithout_2 rfl 2 rfl ?_
    refine g_sipush (pc := 3) C (v := (190 : Int32)) dX0_countSetsWithout_3 (by decide) ?_
    refine g_icmp_ge (pc := 6) C (tgt := 22) dX0_countSetsWithout_6 (by decide) h (fun hc6 h => ?_) (fun hc6 h => ?_)
    · refine g_aload_n (pc := 22) C dX0_countSetsWithout_22 rfl 0 rfl ?_
      refine g_getr (pc := 23) C (Cn := RX0) (T := TX0) (N := 4) (ci := 0) (k := 34) (j := 1) uX0_countSetsWithout_X0 (by rfl) rfl (by decide) (by decide +kernel) (q := 36) rfl dX0_countSetsWithout_23 ?_
      refine g_iconst (pc := 26) C (v := (0 : Int32)) dX0_countSetsWithout_26 (by decide) ?_
      refine g_iconst (pc := 27) C (v := (1 : Int32)) dX0_countSetsWithout_27 (by decide) ?_
      obtain ⟨σ1, eσ1, h⟩ := bs h
      refine g_iast (pc := 28) C (k := 36) (n := 190) (by rfl) eσ1 dX0_countSetsWithout_28 ?_
      refine g_iconst (pc := 29) C (v := (0 : Int32)) dX0_countSetsWithout_29 (by decide) ?_
      refine g_istore_n (pc := 30) C (lv2 := [(2, .int (0 : Int32)), (0, .ref (ad Z 34)), (1, .int v1)]) dX0_countSetsWithout_30 rfl (by decide) rfl ?_
      exact g_sub [1, 2, 0] rfl (kX0_countSetsWithout_l31 C   _ _ _ h)
    · refine g_aload_n (pc := 9) C dX0_countSetsWithout_9 rfl 0 rfl ?_
      refine g_getr (pc := 10) C (Cn := RX0) (T := TX0) (N := 4) (ci := 0) (k := 34) (j := 1) uX0_countSetsWithout_X0 (by rfl) rfl (by decide) (by decide +kernel) (q := 36) rfl dX0_countSetsWithout_10 ?_
      refine g_iload_n (pc := 13) C dX0_countSetsWithout_13 rfl 2 rfl ?_
      refine g_iconst (pc := 14) C (v := (0 : Int32)) dX0_countSetsWithout_14 (by decide) ?_
      obtain ⟨σ2, eσ2, h⟩ := bs h
      refine g_iast (pc := 15) C (k := 36) (n := 190) (by rfl) eσ2 dX0_countSetsWithout_15 ?_
      refine g_iinc (pc := 16) C (j := 2) (v := (v2 + 1)) (lv2 := [(2, .int (v2 + 1)), (0, .ref (ad Z 34)), (1, .int v1)]) dX0_countSetsWithout_16 rfl rfl (by decide) rfl ?_
      refine g_goto (pc := 19) C (tgt := 2) dX0_countSetsWithout_19 (by decide) ?_
      exact g_sub [1, 2, 0] rfl (ih _ _ h)
set_option maxHeartbeats 1000000 in
set_option maxRecDepth 20000 in
theorem kX0_countSetsWithout_e {p : Program} {l : Launch} {e : Env} {s : State} {m : MethodId} {args : Array Value} {below : List Frame} {meth : Method} {c : Code} {Z : Sh} (C : Cx p s m args meth c cX0_countSetsWithout 3 wsX0_countSetsWithout RX0 none Z layX) {σ : Sg} {v1 : Int32} {u : Sg}  (h : fX0_countSetsWithout σ v1 = some u) : G p l e rX0_countSetsWithout s m args below meth c 3 Z layX (MQ below (QV Z layX u s.heap.size) args s 0 0 (pA Z layX s.heap.size)) σ 0 [(0, .ref (ad Z 34)), (1, .int v1)] [] := by
  unfold fX0_countSetsWithout at h
  refine g_iconst (pc := 0) C (v := (0 : Int32)) dX0_countSetsWithout_0 (by decide) ?_
  refine g_istore_n (pc := 1) C (lv2 := [(2, .int (0 : Int32)), (0, .ref (ad Z 34)), (1, .int v1)]) dX0_countSetsWithout_1 rfl (by decide) rfl ?_
  exact g_sub [1, 2, 0] rfl (kX0_countSetsWithout_l2 C   _ _ _ h)
theorem mX0_countSetsWithout (l : Launch) (Z : Sh) {σ : Sg} {v1 : Int32} {u : Sg}  (h : fX0_countSetsWithout σ v1 = some u) : MV l Z layX yX0_countSetsWithout wsX0_countSetsWithout rX0_countSetsWithout [.ref (ad Z 34), .int v1] σ u :=
  MV.of (cc := cX0_countSetsWithout) (maxL := 3) (ret := none) (by decide) rfl (Nat.le_of_ble_eq_true rfl) (fun p e s m below meth c C => kX0_countSetsWithout_e C  h)

def rX0_decided : Room := { frames := 0, cells := 0, slots := 0, locals := 0 }
theorem uX0_decided_X0 : ∀ w ∈ wsX00, w ∈ wsX0_decided := by decide +kernel
def fX0_decided_l5 (σ : Sg) (v1 : Int32) (v2 : Int32)  : Nat → Int32 → Int32 → Option (Int32)
  | 0, _, _ => none
  | n + 1, v3, v4 => if (18 : Int32) < v4 then some v3 else if (σ 34 3) < ((2 : Int32) * v4) then fX0_decided_l5 σ v1 v2 n v3 (v4 + 1) else (rd (σ 35) 10 v1).bind fun t1 => if ((2 : Int32) * (v4 + t1)) ≤ (σ 34 3) then fX0_decided_l5 σ v1 v2 n v3 (v4 + 1) else (rd (σ 36) 190 ((v2 * (19 : Int32)) + v4)).bind fun t2 => fX0_decided_l5 σ v1 v2 n (v3 + t2) (v4 + 1)
def fX0_decided (σ : Sg) (v1 : Int32) (v2 : Int32) : Option (Int32) := fX0_decided_l5 σ v1 v2 2000 (0 : Int32) (0 : Int32)
set_option maxHeartbeats 1000000 in
set_option maxRecDepth 20000 in
theorem kX0_decided_l5 {p : Program} {l : Launch} {e : Env} {s : State} {m : MethodId} {args : Array Value} {below : List Frame} {meth : Method} {c : Code} {Z : Sh} (C : Cx p s m args meth c cX0_decided 5 wsX0_decided RX0 (some .int) Z layX) {σ : Sg} {v1 : Int32} {v2 : Int32} {u : Int32}   : ∀ (n : Nat) (v3 : Int32) (v4 : Int32), fX0_decided_l5 σ v1 v2 n v3 v4 = some u → G p l e rX0_decided s m args below meth c 5 Z layX (MQ below (QI Z layX σ u s.heap.size) args s 0 0 (pA Z layX s.heap.size)) σ 5 [(0, .ref (ad Z 34)), (1, .int v1), (2, .int v2), (3, .int v3), (4, .int v4)] [] := by
  intro n
  induction n with
  | zero => intro v3 v4 h; exact absurd h (by simp [fX0_decided_l5])
  | succ n ih =>
    intro v3 v4 h
    rw [fX0_decided_l5] at h
    refine g_iload (pc := 5) C dX0_decided_5 4 rfl ?_
    refine g_bipush (pc := 7) C (v := (18 : Int32)) dX0_decided_7 (by decide) ?_
    refine g_icmp_gt (pc := 9) C (tgt := 62) dX0_decided_9 (by decide) h (fun hc9 h => ?_) (fun hc9 h => ?_)
    · refine g_iload_n (pc := 62) C dX0_decided_62 rfl 3 rfl ?_
      exact g_iret C dX0_decided_63 rfl (Option.some.inj h)
    · refine g_iconst (pc := 12) C (v := (2 : Int32)) dX0_decided_12 (by decide) ?_
      refine g_iload (pc := 13) C dX0_decided_13 4 rfl ?_
      refine g_imul (pc := 15) C dX0_decided_15 ?_
      refine g_aload_n (pc := 16) C dX0_decided_16 rfl 0 rfl ?_
      refine g_geti (pc := 17) C (Cn := RX0) (T := TX0) (N := 4) (ci := 0) (k := 34) (j := 3) uX0_decided_X0 (by rfl) rfl (by decide) (by decide +kernel) (q := 0) rfl dX0_decided_17 ?_
      refine g_icmp_gt (pc := 20) C (tgt := 56) dX0_decided_20 (by decide) h (fun hc20 h => ?_) (fun hc20 h => ?_)
      · refine g_iinc (pc := 56) C (j := 4) (v := (v4 + 1)) (lv2 := [(4, .int (v4 + 1)), (0, .ref (ad Z 34)), (1, .int v1), (2, .int v2), (3, .int v3)]) dX0_decided_56 rfl rfl (by decide) rfl ?_
        refine g_goto (pc := 59) C (tgt := 5) dX0_decided_59 (by decide) ?_
        exact g_sub [1, 2, 3, 4, 0] rfl (ih _ _ h)
      · refine g_iconst (pc := 23) C (v := (2 : Int32)) dX0_decided_23 (by decide) ?_
        refine g_iload (pc := 24) C dX0_decided_24 4 rfl ?_
        refine g_aload_n (pc := 26) C dX0_decided_26 rfl 0 rfl ?_
        refine g_getr (pc := 27) C (Cn := RX0) (T := TX0) (N := 4) (ci := 0) (k := 34) (j := 0) uX0_decided_X0 (by rfl) rfl (by decide) (by decide +kernel) (q := 35) rfl dX0_decided_27 ?_
        refine g_iload_n (pc := 30) C dX0_decided_30 rfl 1 rfl ?_
        obtain ⟨t1, et1, h⟩ := bs h
        refine g_iald (pc := 31) C (k := 35) (n := 10) (by rfl) et1 dX0_decided_31 ?_
        refine g_iadd (pc := 32) C dX0_decided_32 ?_
        refine g_imul (pc := 33) C dX0_decided_33 ?_
        refine g_aload_n (pc := 34) C dX0_decided_34 rfl 0 rfl ?_
        refine g_geti (pc := 35) C (Cn := RX0) (T := TX0) (N := 4) (ci := 0) (k := 34) (j := 3) uX0_decided_X0 (by rfl) rfl (by decide) (by decide +kernel) (q := 0) rfl dX0_decided_35 ?_
        refine g_icmp_le (pc := 38) C (tgt := 56) dX0_decided_38 (by decide) h (fun hc38 h => ?_) (fun hc38 h => ?_)
        · refine g_iinc (pc := 56) C (j := 4) (v := (v4 + 1)) (lv2 := [(4, .int (v4 + 1)), (0, .ref (ad Z 34)), (1, .int v1), (2, .int v2), (3, .int v3)]) dX0_decided_56 rfl rfl (by decide) rfl ?_
          refine g_goto (pc := 59) C (tgt := 5) dX0_decided_59 (by decide) ?_
          exact g_sub [1, 2, 3, 4, 0] rfl (ih _ _ h)
        · refine g_iload_n (pc := 41) C dX0_decided_41 rfl 3 rfl ?_
          refine g_aload_n (pc := 42) C dX0_decided_42 rfl 0 rfl ?_
          refine g_getr (pc := 43) C (Cn := RX0) (T := TX0) (N := 4) (ci := 0) (k := 34) (j := 1) uX0_decided_X0 (by rfl) rfl (by decide) (by decide +kernel) (q := 36) rfl dX0_decided_43 ?_
          refine g_iload_n (pc := 46) C dX0_decided_46 rfl 2 rfl ?_
          refine g_bipush (pc := 47) C (v := (19 : Int32)) dX0_decided_47 (by decide) ?_
          refine g_imul (pc := 49) C dX0_decided_49 ?_
          refine g_iload (pc := 50) C dX0_decided_50 4 rfl ?_
          refine g_iadd (pc := 52) C dX0_decided_52 ?_
          obtain ⟨t2, et2, h⟩ := bs h
          refine g_iald (pc := 53) C (k := 36) (n := 190) (by rfl) et2 dX0_decided_53 ?_
          refine g_iadd (pc := 54) C dX0_decided_54 ?_
          refine g_istore_n (pc := 55) C (lv2 := [(3, .int (v3 + t2)), (0, .ref (ad Z 34)), (1, .int v1), (2, .int v2), (4, .int v4)]) dX0_decided_55 rfl (by decide) rfl ?_
          refine g_iinc (pc := 56) C (j := 4) (v := (v4 + 1)) (lv2 := [(4, .int (v4 + 1)), (3, .int (v3 + t2)), (0, .ref (ad Z 34)), (1, .int v1), (2, .int v2)]) dX0_decided_56 rfl rfl (by decide) rfl ?_
          refine g_goto (pc := 59) C (tgt := 5) dX0_decided_59 (by decide) ?_
          exact g_sub [2, 3, 4, 1, 0] rfl (ih _ _ h)
set_option maxHeartbeats 1000000 in
set_option maxRecDepth 20000 in
theorem kX0_decided_e {p : Program} {l : Launch} {e : Env} {s : State} {m : MethodId} {args : Array Value} {below : List Frame} {meth : Method} {c : Code} {Z : Sh} (C : Cx p s m args meth c cX0_decided 5 wsX0_decided RX0 (some .int) Z layX) {σ : Sg} {v1 : Int32} {v2 : Int32} {u : Int32}  (h : fX0_decided σ v1 v2 = some u) : G p l e rX0_decided s m args below meth c 5 Z layX (MQ below (QI Z layX σ u s.heap.size) args s 0 0 (pA Z layX s.heap.size)) σ 0 [(0, .ref (ad Z 34)), (1, .int v1), (2, .int v2)] [] := by
  unfold fX0_decided at h
  refine g_iconst (pc := 0) C (v := (0 : Int32)) dX0_decided_0 (by decide) ?_
  refine g_istore_n (pc := 1) C (lv2 := [(3, .int (0 : Int32)), (0, .ref (ad Z 34)), (1, .int v1), (2, .int v2)]) dX0_decided_1 rfl (by decide) rfl ?_
  refine g_iconst (pc := 2) C (v := (0 : Int32)) dX0_decided_2 (by decide) ?_
  refine g_istore (pc := 3) C (lv2 := [(4, .int (0 : Int32)), (3, .int (0 : Int32)), (0, .ref (ad Z 34)), (1, .int v1), (2, .int v2)]) dX0_decided_3 (by decide) rfl ?_
  exact g_sub [2, 3, 4, 1, 0] rfl (kX0_decided_l5 C   _ _ _ h)
theorem mX0_decided (l : Launch) (Z : Sh) {σ : Sg} {v1 : Int32} {v2 : Int32} {u : Int32}  (h : fX0_decided σ v1 v2 = some u) : MI l Z layX yX0_decided wsX0_decided rX0_decided [.ref (ad Z 34), .int v1, .int v2] σ σ u :=
  MI.of (cc := cX0_decided) (maxL := 5) (ret := (some .int)) (by decide) rfl (Nat.le_of_ble_eq_true rfl) (fun p e s m below meth c C => kX0_decided_e C  h)

def rX0_swingsOf : Room := { frames := 2, cells := 0, slots := 0, locals := 45 }
theorem uX0_swingsOf_X0 : ∀ w ∈ wsX00, w ∈ wsX0_swingsOf := by decide +kernel
def fX0_swingsOf_l25 (v1 : Int32)  : Nat → Sg → Int32 → Int32 → Option (Sg × Int32)
  | 0, _, _, _ => none
  | n + 1, σ, v2, v3 => if (σ 34 2) ≤ v3 then some (σ, v2) else (fX0_decided σ v1 v3).bind fun t1 => fX0_swingsOf_l25 v1 n σ (v2 + t1) (v3 + 1)
def fX0_swingsOf (σ : Sg) (v1 : Int32) : Option (Sg × Int32) := (fX7_within v1 (0 : Int32) ((σ 34 2) - (1 : Int32))).bind fun t1 => if t1 = 0 then some (σ, (0 : Int32)) else (fX0_countSetsWithout σ v1).bind fun σ2 => fX0_swingsOf_l25 v1 2000 σ2 (0 : Int32) (0 : Int32)
set_option maxHeartbeats 1000000 in
set_option maxRecDepth 20000 in
theorem kX0_swingsOf_l25 {p : Program} {l : Launch} {e : Env} {s : State} {m : MethodId} {args : Array Value} {below : List Frame} {meth : Method} {c : Code} {Z : Sh} (C : Cx p s m args meth c cX0_swingsOf 4 wsX0_swingsOf RX0 (some .int) Z layX) {v1 : Int32} {u : Sg × Int32}   : ∀ (n : Nat) (σ : Sg) (v2 : Int32) (v3 : Int32), fX0_swingsOf_l25 v1 n σ v2 v3 = some u → G p l e rX0_swingsOf s m args below meth c 4 Z layX (MQ below (QI Z layX u.1 u.2 s.heap.size) args s 0 0 (pA Z layX s.heap.size)) σ 25 [(0, .ref (ad Z 34)), (1, .int v1), (2, .int v2), (3, .int v3)] [] := by
  intro n
  induction n with
  | zero => intro σ v2 v3 h; exact absurd h (by simp [fX0_swingsOf_l25])
  | succ n ih =>
    intro σ v2 v3 h
    rw [fX0_swingsOf_l25] at h
    refine g_iload_n (pc := 25) C dX0_swingsOf_25 rfl 3 rfl ?_
    refine g_aload_n (pc := 26) C dX0_swingsOf_26 rfl 0 rfl ?_
    refine g_geti (pc := 27) C (Cn := RX0) (T := TX0) (N := 4) (ci := 0) (k := 34) (j := 2) uX0_swingsOf_X0 (by rfl) rfl (by decide) (by decide +kernel) (q := 0) rfl dX0_swingsOf_27 ?_
    refine g_icmp_ge (pc := 30) C (tgt := 48) dX0_swingsOf_30 (by decide) h (fun hc30 h => ?_) (fun hc30 h => ?_)
    · refine g_iload_n (pc := 48) C dX0_swingsOf_48 rfl 2 rfl ?_
      exact g_iret C dX0_swingsOf_49 (pfst h) (psnd h)
    · refine g_iload_n (pc := 33) C dX0_swingsOf_33 rfl 2 rfl ?_
      refine g_aload_n (pc := 34) C dX0_swingsOf_34 rfl 0 rfl ?_
      refine g_iload_n (pc := 35) C dX0_swingsOf_35 rfl 1 rfl ?_
      refine g_iload_n (pc := 36) C dX0_swingsOf_36 rfl 3 rfl ?_
      obtain ⟨t1, et1, h⟩ := bs h
      refine g_callVi (pc := 37) C (As := [.int v1, .int v3]) (rest := [.int v2]) (k := 34) (by rfl) (by rfl) (cwV 2 C.2.2.2.2.2.1 gX0_swingsOf_X0_decided rfl rfl rfl (by decide +kernel) ⟨Nat.le_of_ble_eq_true rfl, Nat.le_of_ble_eq_true rfl⟩) (mX0_decided l Z  et1) rfl rfl (Nat.le_of_ble_eq_true rfl) dX0_swingsOf_37 ?_
      refine g_iadd (pc := 40) C dX0_swingsOf_40 ?_
      refine g_istore_n (pc := 41) C (lv2 := [(2, .int (v2 + t1)), (0, .ref (ad Z 34)), (1, .int v1), (3, .int v3)]) dX0_swingsOf_41 rfl (by decide) rfl ?_
      refine g_iinc (pc := 42) C (j := 3) (v := (v3 + 1)) (lv2 := [(3, .int (v3 + 1)), (2, .int (v2 + t1)), (0, .ref (ad Z 34)), (1, .int v1)]) dX0_swingsOf_42 rfl rfl (by decide) rfl ?_
      refine g_goto (pc := 45) C (tgt := 25) dX0_swingsOf_45 (by decide) ?_
      exact g_sub [2, 3, 1, 0] rfl (ih _ _ _ h)
set_option maxHeartbeats 1000000 in
set_option maxRecDepth 20000 in
theorem kX0_swingsOf_e {p : Program} {l : Launch} {e : Env} {s : State} {m : MethodId} {args : Array Value} {below : List Frame} {meth : Method} {c : Code} {Z : Sh} (C : Cx p s m args meth c cX0_swingsOf 4 wsX0_swingsOf RX0 (some .int) Z layX) {σ : Sg} {v1 : Int32} {u : Sg × Int32}  (h : fX0_swingsOf σ v1 = some u) : G p l e rX0_swingsOf s m args below meth c 4 Z layX (MQ below (QI Z layX u.1 u.2 s.heap.size) args s 0 0 (pA Z layX s.heap.size)) σ 0 [(0, .ref (ad Z 34)), (1, .int v1)] [] := by
  unfold fX0_swingsOf at h
  refine g_iload_n (pc := 0) C dX0_swingsOf_0 rfl 1 rfl ?_
  refine g_iconst (pc := 1) C (v := (0 : Int32)) dX0_swingsOf_1 (by decide) ?_
  refine g_aload_n (pc := 2) C dX0_swingsOf_2 rfl 0 rfl ?_
  refine g_geti (pc := 3) C (Cn := RX0) (T := TX0) (N := 4) (ci := 0) (k := 34) (j := 2) uX0_swingsOf_X0 (by rfl) rfl (by decide) (by decide +kernel) (q := 0) rfl dX0_swingsOf_3 ?_
  refine g_iconst (pc := 6) C (v := (1 : Int32)) dX0_swingsOf_6 (by decide) ?_
  refine g_isub (pc := 7) C dX0_swingsOf_7 ?_
  obtain ⟨t1, et1, h⟩ := bs h
  refine g_callSNi (pc := 8) C (As := [.int v1, .int (0 : Int32), .int ((σ 34 2) - (1 : Int32))]) (rest := []) ⟨va_cnB (y := yX7_within) 3 C.2.2.2.2.2.1 gX0_swingsOf_X7_within_n54 rfl rfl rfl (C.2.2.2.2.2.2.2.2.1 (.methodLinkNest "MoundVotes$Players" 54 ⟨"MoundVotes", "within", "(III)Z"⟩ "MoundVotes") (by decide +kernel)) (C.2.2.2.2.2.1 (.initialized RX7) (by decide +kernel)) (by decide +kernel) ⟨Nat.le_of_ble_eq_true rfl, Nat.le_of_ble_eq_true rfl⟩, C.2.2.2.2.2.1 (.static yX7_within) (by decide +kernel), trivial⟩ (mX7_within l Z  et1) rfl rfl (Nat.le_of_ble_eq_true rfl) dX0_swingsOf_8 ?_
  refine g_if_ne (pc := 11) C (tgt := 16) dX0_swingsOf_11 (by decide) h (fun hc11 h => ?_) (fun hc11 h => ?_)
  · refine g_aload_n (pc := 16) C dX0_swingsOf_16 rfl 0 rfl ?_
    refine g_iload_n (pc := 17) C dX0_swingsOf_17 rfl 1 rfl ?_
    obtain ⟨σ2, eσ2, h⟩ := bs h
    refine g_callVv (pc := 18) C (As := [.int v1]) (rest := []) (k := 34) (by rfl) (by rfl) (cwV 1 C.2.2.2.2.2.1 gX0_swingsOf_X0_countSetsWithout rfl rfl rfl (by decide +kernel) ⟨Nat.le_of_ble_eq_true rfl, Nat.le_of_ble_eq_true rfl⟩) (mX0_countSetsWithout l Z  eσ2) rfl rfl (Nat.le_of_ble_eq_true rfl) dX0_swingsOf_18 ?_
    refine g_iconst (pc := 21) C (v := (0 : Int32)) dX0_swingsOf_21 (by decide) ?_
    refine g_istore_n (pc := 22) C (lv2 := [(2, .int (0 : Int32)), (0, .ref (ad Z 34)), (1, .int v1)]) dX0_swingsOf_22 rfl (by decide) rfl ?_
    refine g_iconst (pc := 23) C (v := (0 : Int32)) dX0_swingsOf_23 (by decide) ?_
    refine g_istore_n (pc := 24) C (lv2 := [(3, .int (0 : Int32)), (2, .int (0 : Int32)), (0, .ref (ad Z 34)), (1, .int v1)]) dX0_swingsOf_24 rfl (by decide) rfl ?_
    exact g_sub [2, 3, 1, 0] rfl (kX0_swingsOf_l25 C   _ _ _ _ h)
  · refine g_iconst (pc := 14) C (v := (0 : Int32)) dX0_swingsOf_14 (by decide) ?_
    exact g_iret C dX0_swingsOf_15 (pfst h) (psnd h)
theorem mX0_swingsOf (l : Launch) (Z : Sh) {σ : Sg} {v1 : Int32} {u : Sg × Int32}  (h : fX0_swingsOf σ v1 = some u) : MI l Z layX yX0_swingsOf wsX0_swingsOf rX0_swingsOf [.ref (ad Z 34), .int v1] σ u.1 u.2 :=
  MI.of (cc := cX0_swingsOf) (maxL := 4) (ret := (some .int)) (by decide) rfl (Nat.le_of_ble_eq_true rfl) (fun p e s m below meth c C => kX0_swingsOf_e C  h)

def rX0_shareOf : Room := { frames := 2, cells := 0, slots := 0, locals := 45 }
theorem uX0_shareOf_X0 : ∀ w ∈ wsX00, w ∈ wsX0_shareOf := by decide +kernel
def fX0_shareOf_l25 (v1 : Int32)  : Nat → Sg → Int32 → Int32 → Option (Sg × Int32)
  | 0, _, _, _ => none
  | n + 1, σ, v2, v3 => if (σ 34 2) ≤ v3 then (rd prtF 11 (σ 34 2)).bind fun t1 => some (σ, (v2 * t1)) else (fX0_decided σ v1 v3).bind fun t2 => (rd ordF 11 v3).bind fun t3 => (rd ordF 11 (((σ 34 2) - (1 : Int32)) - v3)).bind fun t4 => fX0_shareOf_l25 v1 n σ (v2 + ((t2 * t3) * t4)) (v3 + 1)
def fX0_shareOf (σ : Sg) (v1 : Int32) : Option (Sg × Int32) := (fX7_within v1 (0 : Int32) ((σ 34 2) - (1 : Int32))).bind fun t1 => if t1 = 0 then some (σ, (0 : Int32)) else (fX0_countSetsWithout σ v1).bind fun σ2 => fX0_shareOf_l25 v1 2000 σ2 (0 : Int32) (0 : Int32)
set_option maxHeartbeats 1000000 in
set_option maxRecDepth 20000 in
theorem kX0_shareOf_l25 {p : Program} {l : Launch} {e : Env} {s : State} {m : MethodId} {args : Array Value} {below : List Frame} {meth : Method} {c : Code} {Z : Sh} (C : Cx p s m args meth c cX0_shareOf 4 wsX0_shareOf RX0 (some .int) Z layX) {v1 : Int32} {u : Sg × Int32}   : ∀ (n : Nat) (σ : Sg) (v2 : Int32) (v3 : Int32), fX0_shareOf_l25 v1 n σ v2 v3 = some u → G p l e rX0_shareOf s m args below meth c 4 Z layX (MQ below (QI Z layX u.1 u.2 s.heap.size) args s 0 0 (pA Z layX s.heap.size)) σ 25 [(0, .ref (ad Z 34)), (1, .int v1), (2, .int v2), (3, .int v3)] [] := by
  intro n
  induction n with
  | zero => intro σ v2 v3 h; exact absurd h (by simp [fX0_shareOf_l25])
  | succ n ih =>
    intro σ v2 v3 h
    rw [fX0_shareOf_l25] at h
    refine g_iload_n (pc := 25) C dX0_shareOf_25 rfl 3 rfl ?_
    refine g_aload_n (pc := 26) C dX0_shareOf_26 rfl 0 rfl ?_
    refine g_geti (pc := 27) C (Cn := RX0) (T := TX0) (N := 4) (ci := 0) (k := 34) (j := 2) uX0_shareOf_X0 (by rfl) rfl (by decide) (by decide +kernel) (q := 0) rfl dX0_shareOf_27 ?_
    refine g_icmp_ge (pc := 30) C (tgt := 67) dX0_shareOf_30 (by decide) h (fun hc30 h => ?_) (fun hc30 h => ?_)
    · refine g_iload_n (pc := 67) C dX0_shareOf_67 rfl 2 rfl ?_
      refine g_gsp (pc := 68) C (by decide +kernel) dX0_shareOf_68 ?_
      refine g_aload_n (pc := 71) C dX0_shareOf_71 rfl 0 rfl ?_
      refine g_geti (pc := 72) C (Cn := RX0) (T := TX0) (N := 4) (ci := 0) (k := 34) (j := 2) uX0_shareOf_X0 (by rfl) rfl (by decide) (by decide +kernel) (q := 0) rfl dX0_shareOf_72 ?_
      obtain ⟨t1, et1, h⟩ := bs h
      refine g_prt (pc := 75) C et1 dX0_shareOf_75 ?_
      refine g_imul (pc := 76) C dX0_shareOf_76 ?_
      exact g_iret C dX0_shareOf_77 (pfst h) (psnd h)
    · refine g_iload_n (pc := 33) C dX0_shareOf_33 rfl 2 rfl ?_
      refine g_aload_n (pc := 34) C dX0_shareOf_34 rfl 0 rfl ?_
      refine g_iload_n (pc := 35) C dX0_shareOf_35 rfl 1 rfl ?_
      refine g_iload_n (pc := 36) C dX0_shareOf_36 rfl 3 rfl ?_
      obtain ⟨t2, et2, h⟩ := bs h
      refine g_callVi (pc := 37) C (As := [.int v1, .int v3]) (rest := [.int v2]) (k := 34) (by rfl) (by rfl) (cwV 2 C.2.2.2.2.2.1 gX0_shareOf_X0_decided rfl rfl rfl (by decide +kernel) ⟨Nat.le_of_ble_eq_true rfl, Nat.le_of_ble_eq_true rfl⟩) (mX0_decided l Z  et2) rfl rfl (Nat.le_of_ble_eq_true rfl) dX0_shareOf_37 ?_
      refine g_gso (pc := 40) C (by decide +kernel) dX0_shareOf_40 ?_
      refine g_iload_n (pc := 43) C dX0_shareOf_43 rfl 3 rfl ?_
      obtain ⟨t3, et3, h⟩ := bs h
      refine g_ord (pc := 44) C et3 dX0_shareOf_44 ?_
      refine g_imul (pc := 45) C dX0_shareOf_45 ?_
      refine g_gso (pc := 46) C (by decide +kernel) dX0_shareOf_46 ?_
      refine g_aload_n (pc := 49) C dX0_shareOf_49 rfl 0 rfl ?_
      refine g_geti (pc := 50) C (Cn := RX0) (T := TX0) (N := 4) (ci := 0) (k := 34) (j := 2) uX0_shareOf_X0 (by rfl) rfl (by decide) (by decide +kernel) (q := 0) rfl dX0_shareOf_50 ?_
      refine g_iconst (pc := 53) C (v := (1 : Int32)) dX0_shareOf_53 (by decide) ?_
      refine g_isub (pc := 54) C dX0_shareOf_54 ?_
      refine g_iload_n (pc := 55) C dX0_shareOf_55 rfl 3 rfl ?_
      refine g_isub (pc := 56) C dX0_shareOf_56 ?_
      obtain ⟨t4, et4, h⟩ := bs h
      refine g_ord (pc := 57) C et4 dX0_shareOf_57 ?_
      refine g_imul (pc := 58) C dX0_shareOf_58 ?_
      refine g_iadd (pc := 59) C dX0_shareOf_59 ?_
      refine g_istore_n (pc := 60) C (lv2 := [(2, .int (v2 + ((t2 * t3) * t4))), (0, .ref (ad Z 34)), (1, .int v1), (3, .int v3)]) dX0_shareOf_60 rfl (by decide) rfl ?_
      refine g_iinc (pc := 61) C (j := 3) (v := (v3 + 1)) (lv2 := [(3, .int (v3 + 1)), (2, .int (v2 + ((t2 * t3) * t4))), (0, .ref (ad Z 34)), (1, .int v1)]) dX0_shareOf_61 rfl rfl (by decide) rfl ?_
      refine g_goto (pc := 64) C (tgt := 25) dX0_shareOf_64 (by decide) ?_
      exact g_sub [2, 3, 1, 0] rfl (ih _ _ _ h)
set_option maxHeartbeats 1000000 in
set_option maxRecDepth 20000 in
theorem kX0_shareOf_e {p : Program} {l : Launch} {e : Env} {s : State} {m : MethodId} {args : Array Value} {below : List Frame} {meth : Method} {c : Code} {Z : Sh} (C : Cx p s m args meth c cX0_shareOf 4 wsX0_shareOf RX0 (some .int) Z layX) {σ : Sg} {v1 : Int32} {u : Sg × Int32}  (h : fX0_shareOf σ v1 = some u) : G p l e rX0_shareOf s m args below meth c 4 Z layX (MQ below (QI Z layX u.1 u.2 s.heap.size) args s 0 0 (pA Z layX s.heap.size)) σ 0 [(0, .ref (ad Z 34)), (1, .int v1)] [] := by
  unfold fX0_shareOf at h
  refine g_iload_n (pc := 0) C dX0_shareOf_0 rfl 1 rfl ?_
  refine g_iconst (pc := 1) C (v := (0 : Int32)) dX0_shareOf_1 (by decide) ?_
  refine g_aload_n (pc := 2) C dX0_shareOf_2 rfl 0 rfl ?_
  refine g_geti (pc := 3) C (Cn := RX0) (T := TX0) (N := 4) (ci := 0) (k := 34) (j := 2) uX0_shareOf_X0 (by rfl) rfl (by decide) (by decide +kernel) (q := 0) rfl dX0_shareOf_3 ?_
  refine g_iconst (pc := 6) C (v := (1 : Int32)) dX0_shareOf_6 (by decide) ?_
  refine g_isub (pc := 7) C dX0_shareOf_7 ?_
  obtain ⟨t1, et1, h⟩ := bs h
  refine g_callSNi (pc := 8) C (As := [.int v1, .int (0 : Int32), .int ((σ 34 2) - (1 : Int32))]) (rest := []) ⟨va_cnB (y := yX7_within) 3 C.2.2.2.2.2.1 gX0_shareOf_X7_within_n54 rfl rfl rfl (C.2.2.2.2.2.2.2.2.1 (.methodLinkNest "MoundVotes$Players" 54 ⟨"MoundVotes", "within", "(III)Z"⟩ "MoundVotes") (by decide +kernel)) (C.2.2.2.2.2.1 (.initialized RX7) (by decide +kernel)) (by decide +kernel) ⟨Nat.le_of_ble_eq_true rfl, Nat.le_of_ble_eq_true rfl⟩, C.2.2.2.2.2.1 (.static yX7_within) (by decide +kernel), trivial⟩ (mX7_within l Z  et1) rfl rfl (Nat.le_of_ble_eq_true rfl) dX0_shareOf_8 ?_
  refine g_if_ne (pc := 11) C (tgt := 16) dX0_shareOf_11 (by decide) h (fun hc11 h => ?_) (fun hc11 h => ?_)
  · refine g_aload_n (pc := 16) C dX0_shareOf_16 rfl 0 rfl ?_
    refine g_iload_n (pc := 17) C dX0_shareOf_17 rfl 1 rfl ?_
    obtain ⟨σ2, eσ2, h⟩ := bs h
    refine g_callVv (pc := 18) C (As := [.int v1]) (rest := []) (k := 34) (by rfl) (by rfl) (cwV 1 C.2.2.2.2.2.1 gX0_shareOf_X0_countSetsWithout rfl rfl rfl (by decide +kernel) ⟨Nat.le_of_ble_eq_true rfl, Nat.le_of_ble_eq_true rfl⟩) (mX0_countSetsWithout l Z  eσ2) rfl rfl (Nat.le_of_ble_eq_true rfl) dX0_shareOf_18 ?_
    refine g_iconst (pc := 21) C (v := (0 : Int32)) dX0_shareOf_21 (by decide) ?_
    refine g_istore_n (pc := 22) C (lv2 := [(2, .int (0 : Int32)), (0, .ref (ad Z 34)), (1, .int v1)]) dX0_shareOf_22 rfl (by decide) rfl ?_
    refine g_iconst (pc := 23) C (v := (0 : Int32)) dX0_shareOf_23 (by decide) ?_
    refine g_istore_n (pc := 24) C (lv2 := [(3, .int (0 : Int32)), (2, .int (0 : Int32)), (0, .ref (ad Z 34)), (1, .int v1)]) dX0_shareOf_24 rfl (by decide) rfl ?_
    exact g_sub [2, 3, 1, 0] rfl (kX0_shareOf_l25 C   _ _ _ _ h)
  · refine g_iconst (pc := 14) C (v := (0 : Int32)) dX0_shareOf_14 (by decide) ?_
    exact g_iret C dX0_shareOf_15 (pfst h) (psnd h)
theorem mX0_shareOf (l : Launch) (Z : Sh) {σ : Sg} {v1 : Int32} {u : Sg × Int32}  (h : fX0_shareOf σ v1 = some u) : MI l Z layX yX0_shareOf wsX0_shareOf rX0_shareOf [.ref (ad Z 34), .int v1] σ u.1 u.2 :=
  MI.of (cc := cX0_shareOf) (maxL := 4) (ret := (some .int)) (by decide) rfl (Nat.le_of_ble_eq_true rfl) (fun p e s m below meth c C => kX0_shareOf_e C  h)

def rX2_empty : Room := { frames := 0, cells := 0, slots := 0, locals := 0 }
theorem uX2_empty_X2 : ∀ w ∈ wsX20, w ∈ wsX2_empty := by decide +kernel
def fX2_empty (σ : Sg) (a : Nat) : Option (Sg) := (pf σ a 0 (0 : Int32)).bind fun σ1 => (pf σ1 a 1 (0 : Int32)).bind fun σ2 => (pf σ2 a 2 (3 : Int32)).bind fun σ3 => some σ3
set_option maxHeartbeats 1000000 in
set_option maxRecDepth 20000 in
theorem kX2_empty_e {p : Program} {l : Launch} {e : Env} {s : State} {m : MethodId} {args : Array Value} {below : List Frame} {meth : Method} {c : Code} {Z : Sh} (C : Cx p s m args meth c cX2_empty 1 wsX2_empty RX2 none Z layX) {σ : Sg} {a : Nat} {u : Sg} (h_a : IsR a) (h : fX2_empty σ a = some u) : G p l e rX2_empty s m args below meth c 1 Z layX (MQ below (QV Z layX u s.heap.size) args s 0 0 (pA Z layX s.heap.size)) σ 0 [(0, .ref (ad Z a))] [] := by
  unfold fX2_empty at h
  refine g_aload_n (pc := 0) C dX2_empty_0 rfl 0 rfl ?_
  refine g_iconst (pc := 1) C (v := (0 : Int32)) dX2_empty_1 (by decide) ?_
  obtain ⟨σ1, eσ1, h⟩ := bs h
  refine g_puti (pc := 2) C (Cn := RX2) (T := TX2) (N := 8) (ci := 2) (k := a) (j := 0) uX2_empty_X2 h_a.1 rfl (by decide) (by decide +kernel) tyX2 tyX2_ok nmX2 rfl (by decide +kernel) rfl eσ1 dX2_empty_2 ?_
  refine g_aload_n (pc := 5) C dX2_empty_5 rfl 0 rfl ?_
  refine g_iconst (pc := 6) C (v := (0 : Int32)) dX2_empty_6 (by decide) ?_
  obtain ⟨σ2, eσ2, h⟩ := bs h
  refine g_puti (pc := 7) C (Cn := RX2) (T := TX2) (N := 8) (ci := 2) (k := a) (j := 1) uX2_empty_X2 h_a.1 rfl (by decide) (by decide +kernel) tyX2 tyX2_ok nmX2 rfl (by decide +kernel) rfl eσ2 dX2_empty_7 ?_
  refine g_aload_n (pc := 10) C dX2_empty_10 rfl 0 rfl ?_
  refine g_iconst (pc := 11) C (v := (3 : Int32)) dX2_empty_11 (by decide) ?_
  obtain ⟨σ3, eσ3, h⟩ := bs h
  refine g_puti (pc := 12) C (Cn := RX2) (T := TX2) (N := 8) (ci := 2) (k := a) (j := 2) uX2_empty_X2 h_a.1 rfl (by decide) (by decide +kernel) tyX2 tyX2_ok nmX2 rfl (by decide +kernel) rfl eσ3 dX2_empty_12 ?_
  exact g_vret C dX2_empty_15 (Option.some.inj h)
theorem mX2_empty (l : Launch) (Z : Sh) {σ : Sg} {a : Nat} {u : Sg} (h_a : IsR a) (h : fX2_empty σ a = some u) : MV l Z layX yX2_empty wsX2_empty rX2_empty [.ref (ad Z a)] σ u :=
  MV.of (cc := cX2_empty) (maxL := 1) (ret := none) (by decide) rfl (Nat.le_of_ble_eq_true rfl) (fun p e s m below meth c C => kX2_empty_e C h_a h)

def rX5_at : Room := { frames := 0, cells := 0, slots := 0, locals := 0 }
theorem uX5_at_X5 : ∀ w ∈ wsX50, w ∈ wsX5_at := by decide +kernel
def fX5_at (σ : Sg) (v1 : Int32) : Option (Int32) := if v1 < 0 then some (32 : Int32) else if (σ 32 1) ≤ v1 then some (32 : Int32) else (rd (σ 33) 160 v1).bind fun t1 => rc t1
set_option maxHeartbeats 1000000 in
set_option maxRecDepth 20000 in
theorem kX5_at_e {p : Program} {l : Launch} {e : Env} {s : State} {m : MethodId} {args : Array Value} {below : List Frame} {meth : Method} {c : Code} {Z : Sh} (C : Cx p s m args meth c cX5_at 2 wsX5_at RX5 (some .char) Z layX) {σ : Sg} {v1 : Int32} {u : Int32}  (h : fX5_at σ v1 = some u) : G p l e rX5_at s m args below meth c 2 Z layX (MQ below (QI Z layX σ u s.heap.size) args s 0 0 (pA Z layX s.heap.size)) σ 0 [(0, .ref (ad Z 32)), (1, .int v1)] [] := by
  unfold fX5_at at h
  refine g_iload_n (pc := 0) C dX5_at_0 rfl 1 rfl ?_
  refine g_if_lt (pc := 1) C (tgt := 21) dX5_at_1 (by decide) h (fun hc1 h => ?_) (fun hc1 h => ?_)
  · refine g_bipush (pc := 21) C (v := (32 : Int32)) dX5_at_21 (by decide) ?_
    exact g_cret C dX5_at_23 rfl (rc32.trans h)
  · refine g_iload_n (pc := 4) C dX5_at_4 rfl 1 rfl ?_
    refine g_aload_n (pc := 5) C dX5_at_5 rfl 0 rfl ?_
    refine g_geti (pc := 6) C (Cn := RX5) (T := TX5) (N := 2) (ci := 5) (k := 32) (j := 1) uX5_at_X5 (by rfl) rfl (by decide) (by decide +kernel) (q := 0) rfl dX5_at_6 ?_
    refine g_icmp_ge (pc := 9) C (tgt := 21) dX5_at_9 (by decide) h (fun hc9 h => ?_) (fun hc9 h => ?_)
    · refine g_bipush (pc := 21) C (v := (32 : Int32)) dX5_at_21 (by decide) ?_
      exact g_cret C dX5_at_23 rfl (rc32.trans h)
    · refine g_aload_n (pc := 12) C dX5_at_12 rfl 0 rfl ?_
      refine g_getr (pc := 13) C (Cn := RX5) (T := TX5) (N := 2) (ci := 5) (k := 32) (j := 0) uX5_at_X5 (by rfl) rfl (by decide) (by decide +kernel) (q := 33) rfl dX5_at_13 ?_
      refine g_iload_n (pc := 16) C dX5_at_16 rfl 1 rfl ?_
      obtain ⟨t1, et1, h⟩ := bs h
      refine g_cald (pc := 17) C (k := 33) (n := 160) (by rfl) et1 dX5_at_17 ?_
      refine g_goto (pc := 18) C (tgt := 23) dX5_at_18 (by decide) ?_
      exact g_cret C dX5_at_23 rfl h
theorem mX5_at (l : Launch) (Z : Sh) {σ : Sg} {v1 : Int32} {u : Int32}  (h : fX5_at σ v1 = some u) : MI l Z layX yX5_at wsX5_at rX5_at [.ref (ad Z 32), .int v1] σ σ u :=
  MI.of (cc := cX5_at) (maxL := 2) (ret := (some .char)) (by decide) rfl (Nat.le_of_ble_eq_true rfl) (fun p e s m below meth c C => kX5_at_e C  h)

def rX1_isLetter : Room := { frames := 0, cells := 0, slots := 0, locals := 0 }
def fX1_isLetter (v0 : Int32) : Option (Int32) := if v0 < (97 : Int32) then some (0 : Int32) else if (122 : Int32) < v0 then some (0 : Int32) else some (1 : Int32)
set_option maxHeartbeats 1000000 in
set_option maxRecDepth 20000 in
theorem kX1_isLetter_e {p : Program} {l : Launch} {e : Env} {s : State} {m : MethodId} {args : Array Value} {below : List Frame} {meth : Method} {c : Code} {Z : Sh} (C : Cx p s m args meth c cX1_isLetter 1 wsX1_isLetter RX1 (some .boolean) Z layX) {σ : Sg} {v0 : Int32} {u : Int32}  (h : fX1_isLetter v0 = some u) : G p l e rX1_isLetter s m args below meth c 1 Z layX (MQ below (QI Z layX σ u s.heap.size) args s 0 0 (pA Z layX s.heap.size)) σ 0 [(0, .int v0)] [] := by
  unfold fX1_isLetter at h
  refine g_iload_n (pc := 0) C dX1_isLetter_0 rfl 0 rfl ?_
  refine g_bipush (pc := 1) C (v := (97 : Int32)) dX1_isLetter_1 (by decide) ?_
  refine g_icmp_lt (pc := 3) C (tgt := 16) dX1_isLetter_3 (by decide) h (fun hc3 h => ?_) (fun hc3 h => ?_)
  · refine g_iconst (pc := 16) C (v := (0 : Int32)) dX1_isLetter_16 (by decide) ?_
    exact g_zret C dX1_isLetter_17 rfl (rz0.trans h)
  · refine g_iload_n (pc := 6) C dX1_isLetter_6 rfl 0 rfl ?_
    refine g_bipush (pc := 7) C (v := (122 : Int32)) dX1_isLetter_7 (by decide) ?_
    refine g_icmp_gt (pc := 9) C (tgt := 16) dX1_isLetter_9 (by decide) h (fun hc9 h => ?_) (fun hc9 h => ?_)
    · refine g_iconst (pc := 16) C (v := (0 : Int32)) dX1_isLetter_16 (by decide) ?_
      exact g_zret C dX1_isLetter_17 rfl (rz0.trans h)
    · refine g_iconst (pc := 12) C (v := (1 : Int32)) dX1_isLetter_12 (by decide) ?_
      refine g_goto (pc := 13) C (tgt := 17) dX1_isLetter_13 (by decide) ?_
      exact g_zret C dX1_isLetter_17 rfl (rz1.trans h)
theorem mX1_isLetter (l : Launch) (Z : Sh) {σ : Sg} {v0 : Int32} {u : Int32}  (h : fX1_isLetter v0 = some u) : MI l Z layX yX1_isLetter wsX1_isLetter rX1_isLetter [.int v0] σ σ u :=
  MI.of (cc := cX1_isLetter) (maxL := 1) (ret := (some .boolean)) (by decide) rfl (Nat.le_of_ble_eq_true rfl) (fun p e s m below meth c C => kX1_isLetter_e C  h)

def rX1_endOfLetters : Room := { frames := 1, cells := 0, slots := 0, locals := 21 }
theorem uX1_endOfLetters_X1 : ∀ w ∈ wsX10, w ∈ wsX1_endOfLetters := by decide +kernel
theorem uX1_endOfLetters_X5 : ∀ w ∈ wsX50, w ∈ wsX1_endOfLetters := by decide +kernel
def fX1_endOfLetters_l2 (σ : Sg) (v1 : Int32)  : Nat → Int32 → Option (Int32)
  | 0, _ => none
  | n + 1, v2 => if (σ 32 1) ≤ v2 then some v2 else (fX5_at σ v2).bind fun t1 => (fX1_isLetter t1).bind fun t2 => if t2 = 0 then some v2 else fX1_endOfLetters_l2 σ v1 n (v2 + 1)
def fX1_endOfLetters (σ : Sg) (v1 : Int32) : Option (Int32) := fX1_endOfLetters_l2 σ v1 2000 v1
set_option maxHeartbeats 1000000 in
set_option maxRecDepth 20000 in
theorem kX1_endOfLetters_l2 {p : Program} {l : Launch} {e : Env} {s : State} {m : MethodId} {args : Array Value} {below : List Frame} {meth : Method} {c : Code} {Z : Sh} (C : Cx p s m args meth c cX1_endOfLetters 3 wsX1_endOfLetters RX1 (some .int) Z layX) {σ : Sg} {v1 : Int32} {u : Int32}   : ∀ (n : Nat) (v2 : Int32), fX1_endOfLetters_l2 σ v1 n v2 = some u → G p l e rX1_endOfLetters s m args below meth c 3 Z layX (MQ below (QI Z layX σ u s.heap.size) args s 0 0 (pA Z layX s.heap.size)) σ 2 [(0, .ref (ad Z 31)), (2, .int v2)] [] := by
  intro n
  induction n with
  | zero => intro v2 h; exact absurd h (by simp [fX1_endOfLetters_l2])
  | succ n ih =>
    intro v2 h
    rw [fX1_endOfLetters_l2] at h
    refine g_iload_n (pc := 2) C dX1_endOfLetters_2 rfl 1 rfl ?_
    refine g_aload_n (pc := 3) C dX1_endOfLetters_3 rfl 0 rfl ?_
    refine g_getr (pc := 4) C (Cn := RX1) (T := TX1) (N := 9) (ci := 1) (k := 31) (j := 0) uX1_endOfLetters_X1 (by rfl) rfl (by decide) (by decide +kernel) (q := 32) rfl dX1_endOfLetters_4 ?_
    refine g_getiN (pc := 7) C (host := "MoundVotes") (Cn := RX5) (T := TX5) (N := 2) (ci := 5) (k := 32) (j := 1) uX1_endOfLetters_X5 (by rfl) rfl (by decide) (by decide +kernel) (q := 0) rfl dX1_endOfLetters_7 ?_
    refine g_icmp_ge (pc := 10) C (tgt := 33) dX1_endOfLetters_10 (by decide) h (fun hc10 h => ?_) (fun hc10 h => ?_)
    · refine g_iload_n (pc := 33) C dX1_endOfLetters_33 rfl 1 rfl ?_
      exact g_iret C dX1_endOfLetters_34 rfl (Option.some.inj h)
    · refine g_aload_n (pc := 13) C dX1_endOfLetters_13 rfl 0 rfl ?_
      refine g_getr (pc := 14) C (Cn := RX1) (T := TX1) (N := 9) (ci := 1) (k := 31) (j := 0) uX1_endOfLetters_X1 (by rfl) rfl (by decide) (by decide +kernel) (q := 32) rfl dX1_endOfLetters_14 ?_
      refine g_iload_n (pc := 17) C dX1_endOfLetters_17 rfl 1 rfl ?_
      obtain ⟨t1, et1, h⟩ := bs h
      refine g_callVi (pc := 18) C (As := [.int v2]) (rest := []) (k := 32) (by rfl) (by rfl) (cwV 1 C.2.2.2.2.2.1 gX1_endOfLetters_X5_at rfl rfl rfl (by decide +kernel) ⟨Nat.le_of_ble_eq_true rfl, Nat.le_of_ble_eq_true rfl⟩) (mX5_at l Z  et1) rfl rfl (Nat.le_of_ble_eq_true rfl) dX1_endOfLetters_18 ?_
      obtain ⟨t2, et2, h⟩ := bs h
      refine g_callSi (pc := 21) C (As := [.int t1]) (rest := []) (va_cwS 1 C.2.2.2.2.2.1 gX1_endOfLetters_X1_isLetter rfl rfl rfl (by decide +kernel) ⟨Nat.le_of_ble_eq_true rfl, Nat.le_of_ble_eq_true rfl⟩) (mX1_isLetter l Z  et2) rfl rfl (Nat.le_of_ble_eq_true rfl) dX1_endOfLetters_21 ?_
      refine g_if_eq (pc := 24) C (tgt := 33) dX1_endOfLetters_24 (by decide) h (fun hc24 h => ?_) (fun hc24 h => ?_)
      · refine g_iload_n (pc := 33) C dX1_endOfLetters_33 rfl 1 rfl ?_
        exact g_iret C dX1_endOfLetters_34 rfl (Option.some.inj h)
      · refine g_iinc (pc := 27) C (j := 1) (v := (v2 + 1)) (lv2 := [(2, .int (v2 + 1)), (0, .ref (ad Z 31))]) dX1_endOfLetters_27 rfl rfl (by decide) rfl ?_
        refine g_goto (pc := 30) C (tgt := 2) dX1_endOfLetters_30 (by decide) ?_
        exact g_sub [1, 0] rfl (ih _ h)
set_option maxHeartbeats 1000000 in
set_option maxRecDepth 20000 in
theorem kX1_endOfLetters_e {p : Program} {l : Launch} {e : Env} {s : State} {m : MethodId} {args : Array Value} {below : List Frame} {meth : Method} {c : Code} {Z : Sh} (C : Cx p s m args meth c cX1_endOfLetters 3 wsX1_endOfLetters RX1 (some .int) Z layX) {σ : Sg} {v1 : Int32} {u : Int32}  (h : fX1_endOfLetters σ v1 = some u) : G p l e rX1_endOfLetters s m args below meth c 3 Z layX (MQ below (QI Z layX σ u s.heap.size) args s 0 0 (pA Z layX s.heap.size)) σ 0 [(0, .ref (ad Z 31)), (1, .int v1)] [] := by
  unfold fX1_endOfLetters at h
  refine g_iload_n (pc := 0) C dX1_endOfLetters_0 rfl 1 rfl ?_
  refine g_istore_n (pc := 1) C (lv2 := [(2, .int v1), (0, .ref (ad Z 31)), (1, .int v1)]) dX1_endOfLetters_1 rfl (by decide) rfl ?_
  exact g_sub [1, 0] rfl (kX1_endOfLetters_l2 C   _ _ h)
theorem mX1_endOfLetters (l : Launch) (Z : Sh) {σ : Sg} {v1 : Int32} {u : Int32}  (h : fX1_endOfLetters σ v1 = some u) : MI l Z layX yX1_endOfLetters wsX1_endOfLetters rX1_endOfLetters [.ref (ad Z 31), .int v1] σ σ u :=
  MI.of (cc := cX1_endOfLetters) (maxL := 3) (ret := (some .int)) (by decide) rfl (Nat.le_of_ble_eq_true rfl) (fun p e s m below meth c C => kX1_endOfLetters_e C  h)
