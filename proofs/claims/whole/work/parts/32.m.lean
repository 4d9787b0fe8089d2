def rX8_seatless : Room := { frames := 0, cells := 0, slots := 0, locals := 0 }
theorem uX8_seatless_X8 : ∀ w ∈ wsX80, w ∈ wsX8_seatless := by decide +kernel
def fX8_seatless_l4 (σ : Sg)   : Nat → Int32 → Int32 → Option (Int32)
  | 0, _, _ => none
  | n + 1, v1, v2 => if (σ 0 2) ≤ v2 then some v1 else (rd (σ 1) 116 ((16 : Int32) + v2)).bind fun t1 => if t1 = 0 then fX8_seatless_l4 σ n (v1 ||| ((1 : Int32) <<< (v2 &&& 31))) (v2 + 1) else fX8_seatless_l4 σ n (v1 ||| (0 : Int32)) (v2 + 1)
def fX8_seatless (σ : Sg)  : Option (Int32) := fX8_seatless_l4 σ 2000 (0 : Int32) (0 : Int32)
set_option maxHeartbeats 1000000 in
set_option maxRecDepth 20000 in
theorem kX8_seatless_l4 {p : Program} {l : Launch} {e : Env} {s : State} {m : MethodId} {args : Array Value} {below : List Frame} {meth : Method} {c : Code} {Z : Sh} (C : Cx p s m args meth c cX8_seatless 3 wsX8_seatless RX8 (some .int) Z layM) {σ : Sg}  {u : Int32}   : ∀ (n : Nat) (v1 : Int32) (v2 : Int32), fX8_seatless_l4 σ n v1 v2 = some u → G p l e rX8_seatless s m args below meth c 3 Z layM (MQ below (QI Z layM σ u s.heap.size) args s 0 0 (pA Z layM s.heap.size)) σ 4 [(0, .ref (ad Z 0)), (1, .int v1), (2, .int v2)] [] := by
  intro n
  induction n with
  | zero => intro v1 v2 h; exact absurd h (by simp [fX8_seatless_l4])
  | succ n ih =>
    intro v1 v2 h
    rw [fX8_seatless_l4] at h
    refine g_iload_n (pc := 4) C dX8_seatless_4 rfl 2 rfl ?_
    refine g_aload_n (pc := 5) C dX8_seatless_5 rfl 0 rfl ?_
    refine g_geti (pc := 6) C (Cn := RX8) (T := TX8) (N := 32) (ci := 8) (k := 0) (j := 2) uX8_seatless_X8 (by rfl) rfl (by decide) (by decide +kernel) (q := 0) rfl dX8_seatless_6 ?_
    refine g_icmp_ge (pc := 9) C (tgt := 40) dX8_seatless_9 (by decide) h (fun hc9 h => ?_) (fun hc9 h => ?_)
    · refine g_iload_n (pc := 40) C dX8_seatless_40 rfl 1 rfl ?_
      exact g_iret C dX8_seatless_41 rfl (Option.some.inj h)
    · refine g_iload_n (pc := 12) C dX8_seatless_12 rfl 1 rfl ?_
      refine g_aload_n (pc := 13) C dX8_seatless_13 rfl 0 rfl ?_
      refine g_getr (pc := 14) C (Cn := RX8) (T := TX8) (N := 32) (ci := 8) (k := 0) (j := 0) uX8_seatless_X8 (by rfl) rfl (by decide) (by decide +kernel) (q := 1) rfl dX8_seatless_14 ?_
      refine g_bipush (pc := 17) C (v := (16 : Int32)) dX8_seatless_17 (by decide) ?_
      refine g_iload_n (pc := 19) C dX8_seatless_19 rfl 2 rfl ?_
      refine g_iadd (pc := 20) C dX8_seatless_20 ?_
      obtain ⟨t1, et1, h⟩ := bs h
      refine g_iald (pc := 21) C (k := 1) (n := 116) (by rfl) et1 dX8_seatless_21 ?_
      refine g_if_ne (pc := 22) C (tgt := 31) dX8_seatless_22 (by decide) h (fun hc22 h => ?_) (fun hc22 h => ?_)
      · refine g_iconst (pc := 31) C (v := (0 : Int32)) dX8_seatless_31 (by decide) ?_
        refine g_ior (pc := 32) C dX8_seatless_32 ?_
        refine g_istore_n (pc := 33) C (lv2 := [(1, .int (v1 ||| (0 : Int32))), (0, .ref (ad Z 0)), (2, .int v2)]) dX8_seatless_33 rfl (by decide) rfl ?_
        refine g_iinc (pc := 34) C (j := 2) (v := (v2 + 1)) (lv2 := [(2, .int (v2 + 1)), (1, .int (v1 ||| (0 : Int32))), (0, .ref (ad Z 0))]) dX8_seatless_34 rfl rfl (by decide) rfl ?_
        refine g_goto (pc := 37) C (tgt := 4) dX8_seatless_37 (by decide) ?_
        exact g_sub [2, 1, 0] rfl (ih _ _ h)
      · refine g_iconst (pc := 25) C (v := (1 : Int32)) dX8_seatless_25 (by decide) ?_
        refine g_iload_n (pc := 26) C dX8_seatless_26 rfl 2 rfl ?_
        refine g_ishl (pc := 27) C dX8_seatless_27 ?_
        refine g_goto (pc := 28) C (tgt := 32) dX8_seatless_28 (by decide) ?_
        refine g_ior (pc := 32) C dX8_seatless_32 ?_
        refine g_istore_n (pc := 33) C (lv2 := [(1, .int (v1 ||| ((1 : Int32) <<< (v2 &&& 31)))), (0, .ref (ad Z 0)), (2, .int v2)]) dX8_seatless_33 rfl (by decide) rfl ?_
        refine g_iinc (pc := 34) C (j := 2) (v := (v2 + 1)) (lv2 := [(2, .int (v2 + 1)), (1, .int (v1 ||| ((1 : Int32) <<< (v2 &&& 31)))), (0, .ref (ad Z 0))]) dX8_seatless_34 rfl rfl (by decide) rfl ?_
        refine g_goto (pc := 37) C (tgt := 4) dX8_seatless_37 (by decide) ?_
        exact g_sub [2, 1, 0] rfl (ih _ _ h)
set_option maxHeartbeats 1000000 in
set_option maxRecDepth 20000 in
theorem kX8_seatless_e {p : Program} {l : Launch} {e : Env} {s : State} {m : MethodId} {args : Array Value} {below : List Frame} {meth : Method} {c : Code} {Z : Sh} (C : Cx p s m args meth c cX8_seatless 3 wsX8_seatless RX8 (some .int) Z layM) {σ : Sg}  {u : Int32}  (h : fX8_seatless σ = some u) : G p l e rX8_seatless s m args below meth c 3 Z layM (MQ below (QI Z layM σ u s.heap.size) args s 0 0 (pA Z layM s.heap.size)) σ 0 [(0, .ref (ad Z 0))] [] := by
  unfold fX8_seatless at h
  refine g_iconst (pc := 0) C (v := (0 : Int32)) dX8_seatless_0 (by decide) ?_
  refine g_istore_n (pc := 1) C (lv2 := [(1, .int (0 : Int32)), (0, .ref (ad Z 0))]) dX8_seatless_1 rfl (by decide) rfl ?_
  refine g_iconst (pc := 2) C (v := (0 : Int32)) dX8_seatless_2 (by decide) ?_
  refine g_istore_n (pc := 3) C (lv2 := [(2, .int (0 : Int32)), (1, .int (0 : Int32)), (0, .ref (ad Z 0))]) dX8_seatless_3 rfl (by decide) rfl ?_
  exact g_sub [2, 1, 0] rfl (kX8_seatless_l4 C   _ _ _ h)
theorem mX8_seatless (l : Launch) (Z : Sh) {σ : Sg}  {u : Int32}  (h : fX8_seatless σ = some u) : MI l Z layM yX8_seatless wsX8_seatless rX8_seatless [.ref (ad Z 0)] σ σ u :=
  MI.of (cc := cX8_seatless) (maxL := 3) (ret := (some .int)) (by decide) rfl (Nat.le_of_ble_eq_true rfl) (fun p e s m below meth c C => kX8_seatless_e C  h)

def rX8_rule : Room := { frames := 3, cells := 0, slots := 0, locals := 64 }
theorem uX8_rule_X8 : ∀ w ∈ wsX80, w ∈ wsX8_rule := by decide +kernel
def fX8_rule (σ : Sg) (v1 : Int32) : Option (Int32) := if v1 = (0 : Int32) then some (σ 0 1) else if v1 = (1 : Int32) then some (σ 0 2) else if v1 = (2 : Int32) then (rd (σ 1) 116 (28 : Int32)).bind fun t1 => some (t1 + (3 : Int32)) else if v1 = (3 : Int32) then (fX8_all σ).bind fun t2 => (fX8_seatsOf σ t2).bind fun t3 => some t3 else if v1 = (4 : Int32) then (fX8_guineas σ).bind fun t4 => some t4 else if v1 = (5 : Int32) then (fX8_nobodys σ).bind fun t5 => some t5 else if v1 = (6 : Int32) then (fX8_seatless σ).bind fun t6 => some t6 else some (-1 : Int32)
set_option maxHeartbeats 1000000 in
set_option maxRecDepth 20000 in
theorem kX8_rule_e {p : Program} {l : Launch} {e : Env} {s : State} {m : MethodId} {args : Array Value} {below : List Frame} {meth : Method} {c : Code} {Z : Sh} (C : Cx p s m args meth c cX8_rule 2 wsX8_rule RX8 (some .int) Z layM) {σ : Sg} {v1 : Int32} {u : Int32}  (h : fX8_rule σ v1 = some u) : G p l e rX8_rule s m args below meth c 2 Z layM (MQ below (QI Z layM σ u s.heap.size) args s 0 0 (pA Z layM s.heap.size)) σ 0 [(0, .ref (ad Z 0)), (1, .int v1)] [] := by
  unfold fX8_rule at h
  refine g_iload_n (pc := 0) C dX8_rule_0 rfl 1 rfl ?_
  refine g_sw (pc := 1) C (off := 43) (tgt := 44) (0 : Int32) dX8_rule_1 (by decide) (by decide) (by decide) (by decide) h (fun hc1 h => ?_) (fun hn1_0 h => ?_)
  · refine g_aload_n (pc := 44) C dX8_rule_44 rfl 0 rfl ?_
    refine g_geti (pc := 45) C (Cn := RX8) (T := TX8) (N := 32) (ci := 8) (k := 0) (j := 1) uX8_rule_X8 (by rfl) rfl (by decide) (by decide +kernel) (q := 0) rfl dX8_rule_45 ?_
    exact g_iret C dX8_rule_48 rfl (Option.some.inj h)
  refine g_sw (pc := 1) C (off := 48) (tgt := 49) (1 : Int32) dX8_rule_1 (by decide) (by decide) (by decide) (by decide) h (fun hc1 h => ?_) (fun hn1_1 h => ?_)
  · refine g_aload_n (pc := 49) C dX8_rule_49 rfl 0 rfl ?_
    refine g_geti (pc := 50) C (Cn := RX8) (T := TX8) (N := 32) (ci := 8) (k := 0) (j := 2) uX8_rule_X8 (by rfl) rfl (by decide) (by decide +kernel) (q := 0) rfl dX8_rule_50 ?_
    exact g_iret C dX8_rule_53 rfl (Option.some.inj h)
  refine g_sw (pc := 1) C (off := 53) (tgt := 54) (2 : Int32) dX8_rule_1 (by decide) (by decide) (by decide) (by decide) h (fun hc1 h => ?_) (fun hn1_2 h => ?_)
  · refine g_aload_n (pc := 54) C dX8_rule_54 rfl 0 rfl ?_
    refine g_getr (pc := 55) C (Cn := RX8) (T := TX8) (N := 32) (ci := 8) (k := 0) (j := 0) uX8_rule_X8 (by rfl) rfl (by decide) (by decide +kernel) (q := 1) rfl dX8_rule_55 ?_
    refine g_bipush (pc := 58) C (v := (28 : Int32)) dX8_rule_58 (by decide) ?_
    obtain ⟨t1, et1, h⟩ := bs h
    refine g_iald (pc := 60) C (k := 1) (n := 116) (by rfl) et1 dX8_rule_60 ?_
    refine g_iconst (pc := 61) C (v := (3 : Int32)) dX8_rule_61 (by decide) ?_
    refine g_iadd (pc := 62) C dX8_rule_62 ?_
    exact g_iret C dX8_rule_63 rfl (Option.some.inj h)
  refine g_sw (pc := 1) C (off := 63) (tgt := 64) (3 : Int32) dX8_rule_1 (by decide) (by decide) (by decide) (by decide) h (fun hc1 h => ?_) (fun hn1_3 h => ?_)
  · refine g_aload_n (pc := 64) C dX8_rule_64 rfl 0 rfl ?_
    refine g_aload_n (pc := 65) C dX8_rule_65 rfl 0 rfl ?_
    obtain ⟨t2, et2, h⟩ := bs h
    refine g_callVi (pc := 66) C (As := []) (rest := [.ref (ad Z 0)]) (k := 0) (by rfl) (by rfl) (cwV 0 C.2.2.2.2.2.1 gX8_rule_X8_all rfl rfl rfl (by decide +kernel) ⟨Nat.le_of_ble_eq_true rfl, Nat.le_of_ble_eq_true rfl⟩) (mX8_all l Z  et2) rfl rfl (Nat.le_of_ble_eq_true rfl) dX8_rule_66 ?_
    obtain ⟨t3, et3, h⟩ := bs h
    refine g_callVi (pc := 69) C (As := [.int t2]) (rest := []) (k := 0) (by rfl) (by rfl) (cwV 1 C.2.2.2.2.2.1 gX8_rule_X8_seatsOf rfl rfl rfl (by decide +kernel) ⟨Nat.le_of_ble_eq_true rfl, Nat.le_of_ble_eq_true rfl⟩) (mX8_seatsOf l Z  et3) rfl rfl (Nat.le_of_ble_eq_true rfl) dX8_rule_69 ?_
    exact g_iret C dX8_rule_72 rfl (Option.some.inj h)
  refine g_sw (pc := 1) C (off := 72) (tgt := 73) (4 : Int32) dX8_rule_1 (by decide) (by decide) (by decide) (by decide) h (fun hc1 h => ?_) (fun hn1_4 h => ?_)
  · refine g_aload_n (pc := 73) C dX8_rule_73 rfl 0 rfl ?_
    obtain ⟨t4, et4, h⟩ := bs h
    refine g_callVi (pc := 74) C (As := []) (rest := []) (k := 0) (by rfl) (by rfl) (cwV 0 C.2.2.2.2.2.1 gX8_rule_X8_guineas rfl rfl rfl (by decide +kernel) ⟨Nat.le_of_ble_eq_true rfl, Nat.le_of_ble_eq_true rfl⟩) (mX8_guineas l Z  et4) rfl rfl (Nat.le_of_ble_eq_true rfl) dX8_rule_74 ?_
    exact g_iret C dX8_rule_77 rfl (Option.some.inj h)
  refine g_sw (pc := 1) C (off := 77) (tgt := 78) (5 : Int32) dX8_rule_1 (by decide) (by decide) (by decide) (by decide) h (fun hc1 h => ?_) (fun hn1_5 h => ?_)
  · refine g_aload_n (pc := 78) C dX8_rule_78 rfl 0 rfl ?_
    obtain ⟨t5, et5, h⟩ := bs h
    refine g_callVi (pc := 79) C (As := []) (rest := []) (k := 0) (by rfl) (by rfl) (cwV 0 C.2.2.2.2.2.1 gX8_rule_X8_nobodys rfl rfl rfl (by decide +kernel) ⟨Nat.le_of_ble_eq_true rfl, Nat.le_of_ble_eq_true rfl⟩) (mX8_nobodys l Z  et5) rfl rfl (Nat.le_of_ble_eq_true rfl) dX8_rule_79 ?_
    exact g_iret C dX8_rule_82 rfl (Option.some.inj h)
  refine g_sw (pc := 1) C (off := 82) (tgt := 83) (6 : Int32) dX8_rule_1 (by decide) (by decide) (by decide) (by decide) h (fun hc1 h => ?_) (fun hn1_6 h => ?_)
  · refine g_aload_n (pc := 83) C dX8_rule_83 rfl 0 rfl ?_
    obtain ⟨t6, et6, h⟩ := bs h
    refine g_callVi (pc := 84) C (As := []) (rest := []) (k := 0) (by rfl) (by rfl) (cwV 0 C.2.2.2.2.2.1 gX8_rule_X8_seatless rfl rfl rfl (by decide +kernel) ⟨Nat.le_of_ble_eq_true rfl, Nat.le_of_ble_eq_true rfl⟩) (mX8_seatless l Z  et6) rfl rfl (Nat.le_of_ble_eq_true rfl) dX8_rule_84 ?_
    exact g_iret C dX8_rule_87 rfl (Option.some.inj h)
  refine g_swd (pc := 1) C (tgt := 88) dX8_rule_1 (by have z0 := ne_ti hn1_0; have z1 := ne_ti hn1_1; have z2 := ne_ti hn1_2; have z3 := ne_ti hn1_3; have z4 := ne_ti hn1_4; have z5 := ne_ti hn1_5; have z6 := ne_ti hn1_6; simp at z0 z1 z2 z3 z4 z5 z6; omega) (by decide) ?_
  refine g_iconst (pc := 88) C (v := (-1 : Int32)) dX8_rule_88 (by decide) ?_
  exact g_iret C dX8_rule_89 rfl (Option.some.inj h)
theorem mX8_rule (l : Launch) (Z : Sh) {σ : Sg} {v1 : Int32} {u : Int32}  (h : fX8_rule σ v1 = some u) : MI l Z layM yX8_rule wsX8_rule rX8_rule [.ref (ad Z 0), .int v1] σ σ u :=
  MI.of (cc := cX8_rule) (maxL := 2) (ret := (some .int)) (by decide) rfl (Nat.le_of_ble_eq_true rfl) (fun p e s m below meth c C => kX8_rule_e C  h)

def rX8_lord : Room := { frames := 2, cells := 0, slots := 0, locals := 46 }
theorem uX8_lord_X8 : ∀ w ∈ wsX80, w ∈ wsX8_lord := by decide +kernel
def fX8_lord (σ : Sg) (v1 : Int32) (v2 : Int32) : Option (Int32) := (fX8_isLord σ v1).bind fun t1 => if t1 = 0 then some (-1 : Int32) else (fX8_in v2.toInt64 (0 : Int64) (2 : Int64)).bind fun t2 => if t2 = 0 then some (-1 : Int32) else (fX8_boroughsOf σ ((1 : Int32) <<< (v1 &&& 31))).bind fun t3 => if v2 = 0 then (rd (σ 1) 116 v1).bind fun t5 => some t5 else if v2 = (1 : Int32) then some t3 else (fX8_seatsOf σ t3).bind fun t4 => some t4
set_option maxHeartbeats 1000000 in
set_option maxRecDepth 20000 in
theorem kX8_lord_e {p : Program} {l : Launch} {e : Env} {s : State} {m : MethodId} {args : Array Value} {below : List Frame} {meth : Method} {c : Code} {Z : Sh} (C : Cx p s m args meth c cX8_lord 4 wsX8_lord RX8 (some .int) Z layM) {σ : Sg} {v1 : Int32} {v2 : Int32} {u : Int32}  (h : fX8_lord σ v1 v2 = some u) : G p l e rX8_lord s m args below meth c 4 Z layM (MQ below (QI Z layM σ u s.heap.size) args s 0 0 (pA Z layM s.heap.size)) σ 0 [(0, .ref (ad Z 0)), (1, .int v1), (2, .int v2)] [] := by
  unfold fX8_lord at h
  refine g_aload_n (pc := 0) C dX8_lord_0 rfl 0 rfl ?_
  refine g_iload_n (pc := 1) C dX8_lord_1 rfl 1 rfl ?_
  obtain ⟨t1, et1, h⟩ := bs h
  refine g_callVi (pc := 2) C (As := [.int v1]) (rest := []) (k := 0) (by rfl) (by rfl) (cwV 1 C.2.2.2.2.2.1 gX8_lord_X8_isLord rfl rfl rfl (by decide +kernel) ⟨Nat.le_of_ble_eq_true rfl, Nat.le_of_ble_eq_true rfl⟩) (mX8_isLord l Z  et1) rfl rfl (Nat.le_of_ble_eq_true rfl) dX8_lord_2 ?_
  refine g_if_eq (pc := 5) C (tgt := 20) dX8_lord_5 (by decide) h (fun hc5 h => ?_) (fun hc5 h => ?_)
  · refine g_iconst (pc := 20) C (v := (-1 : Int32)) dX8_lord_20 (by decide) ?_
    exact g_iret C dX8_lord_21 rfl (Option.some.inj h)
  · refine g_iload_n (pc := 8) C dX8_lord_8 rfl 2 rfl ?_
    refine g_i2l (pc := 9) C dX8_lord_9 ?_
    refine g_lconst (pc := 10) C (v := (0 : Int64)) dX8_lord_10 (by decide) ?_
    refine g_ldc2 (pc := 11) C (v := (2 : Int64)) (by decide +kernel) dX8_lord_11 ?_
    obtain ⟨t2, et2, h⟩ := bs h
    refine g_callSi (pc := 14) C (As := [.long v2.toInt64, .long (0 : Int64), .long (2 : Int64)]) (rest := []) (va_cwS 3 C.2.2.2.2.2.1 gX8_lord_X8_in rfl rfl rfl (by decide +kernel) ⟨Nat.le_of_ble_eq_true rfl, Nat.le_of_ble_eq_true rfl⟩) (mX8_in l Z  et2) rfl rfl (Nat.le_of_ble_eq_true rfl) dX8_lord_14 ?_
    refine g_if_ne (pc := 17) C (tgt := 22) dX8_lord_17 (by decide) h (fun hc17 h => ?_) (fun hc17 h => ?_)
    · refine g_aload_n (pc := 22) C dX8_lord_22 rfl 0 rfl ?_
      refine g_iconst (pc := 23) C (v := (1 : Int32)) dX8_lord_23 (by decide) ?_
      refine g_iload_n (pc := 24) C dX8_lord_24 rfl 1 rfl ?_
      refine g_ishl (pc := 25) C dX8_lord_25 ?_
      obtain ⟨t3, et3, h⟩ := bs h
      refine g_callVi (pc := 26) C (As := [.int ((1 : Int32) <<< (v1 &&& 31))]) (rest := []) (k := 0) (by rfl) (by rfl) (cwV 1 C.2.2.2.2.2.1 gX8_lord_X8_boroughsOf rfl rfl rfl (by decide +kernel) ⟨Nat.le_of_ble_eq_true rfl, Nat.le_of_ble_eq_true rfl⟩) (mX8_boroughsOf l Z  et3) rfl rfl (Nat.le_of_ble_eq_true rfl) dX8_lord_26 ?_
      refine g_istore_n (pc := 29) C (lv2 := [(3, .int t3), (0, .ref (ad Z 0)), (1, .int v1), (2, .int v2)]) dX8_lord_29 rfl (by decide) rfl ?_
      refine g_iload_n (pc := 30) C dX8_lord_30 rfl 3 rfl ?_
      refine g_if_ne (pc := 31) C (tgt := 43) dX8_lord_31 (by decide) h (fun hc31 h => ?_) (fun hc31 h => ?_)
      · refine g_iload_n (pc := 43) C dX8_lord_43 rfl 3 rfl ?_
        refine g_iconst (pc := 44) C (v := (1 : Int32)) dX8_lord_44 (by decide) ?_
        refine g_icmp_ne (pc := 45) C (tgt := 52) dX8_lord_45 (by decide) h (fun hc45 h => ?_) (fun hc45 h => ?_)
        · refine g_aload_n (pc := 52) C dX8_lord_52 rfl 1 rfl ?_
          refine g_iload_n (pc := 53) C dX8_lord_53 rfl 0 rfl ?_
          obtain ⟨t4, et4, h⟩ := bs h
          refine g_callVi (pc := 54) C (As := [.int t3]) (rest := []) (k := 0) (by rfl) (by rfl) (cwV 1 C.2.2.2.2.2.1 gX8_lord_X8_seatsOf rfl rfl rfl (by decide +kernel) ⟨Nat.le_of_ble_eq_true rfl, Nat.le_of_ble_eq_true rfl⟩) (mX8_seatsOf l Z  et4) rfl rfl (Nat.le_of_ble_eq_true rfl) dX8_lord_54 ?_
          exact g_iret C dX8_lord_57 rfl (Option.some.inj h)
        · refine g_iload_n (pc := 48) C dX8_lord_48 rfl 0 rfl ?_
          refine g_goto (pc := 49) C (tgt := 57) dX8_lord_49 (by decide) ?_
          exact g_iret C dX8_lord_57 rfl (Option.some.inj h)
      · refine g_aload_n (pc := 34) C dX8_lord_34 rfl 1 rfl ?_
        refine g_getr (pc := 35) C (Cn := RX8) (T := TX8) (N := 32) (ci := 8) (k := 0) (j := 0) uX8_lord_X8 (by rfl) rfl (by decide) (by decide +kernel) (q := 1) rfl dX8_lord_35 ?_
        refine g_iload_n (pc := 38) C dX8_lord_38 rfl 2 rfl ?_
        obtain ⟨t5, et5, h⟩ := bs h
        refine g_iald (pc := 39) C (k := 1) (n := 116) (by rfl) et5 dX8_lord_39 ?_
        refine g_goto (pc := 40) C (tgt := 57) dX8_lord_40 (by decide) ?_
        exact g_iret C dX8_lord_57 rfl (Option.some.inj h)
    · refine g_iconst (pc := 20) C (v := (-1 : Int32)) dX8_lord_20 (by decide) ?_
      exact g_iret C dX8_lord_21 rfl (Option.some.inj h)
theorem mX8_lord (l : Launch) (Z : Sh) {σ : Sg} {v1 : Int32} {v2 : Int32} {u : Int32}  (h : fX8_lord σ v1 v2 = some u) : MI l Z layM yX8_lord wsX8_lord rX8_lord [.ref (ad Z 0), .int v1, .int v2] σ σ u :=
  MI.of (cc := cX8_lord) (maxL := 4) (ret := (some .int)) (by decide) rfl (Nat.le_of_ble_eq_true rfl) (fun p e s m below meth c C => kX8_lord_e C  h)

def rX8_orNone : Room := { frames := 0, cells := 0, slots := 0, locals := 0 }
def fX8_orNone (v0 : Int32) : Option (Int32) := if 0 ≤ v0 then some v0 else some (-4 : Int32)
set_option maxHeartbeats 1000000 in
set_option maxRecDepth 20000 in
theorem kX8_orNone_e {p : Program} {l : Launch} {e : Env} {s : State} {m : MethodId} {args : Array Value} {below : List Frame} {meth : Method} {c : Code} {Z : Sh} (C : Cx p s m args meth c cX8_orNone 1 wsX8_orNone RX8 (some .int) Z layM) {σ : Sg} {v0 : Int32} {u : Int32}  (h : fX8_orNone v0 = some u) : G p l e rX8_orNone s m args below meth c 1 Z layM (MQ below (QI Z layM σ u s.heap.size) args s 0 0 (pA Z layM s.heap.size)) σ 0 [(0, .int v0)] [] := by
  unfold fX8_orNone at h
  refine g_iload_n (pc := 0) C dX8_orNone_0 rfl 0 rfl ?_
  refine g_if_ge (pc := 1) C (tgt := 9) dX8_orNone_1 (by decide) h (fun hc1 h => ?_) (fun hc1 h => ?_)
  · refine g_iload_n (pc := 9) C dX8_orNone_9 rfl 0 rfl ?_
    exact g_iret C dX8_orNone_10 rfl (Option.some.inj h)
  · refine g_bipush (pc := 4) C (v := (-4 : Int32)) dX8_orNone_4 (by decide) ?_
    refine g_goto (pc := 6) C (tgt := 10) dX8_orNone_6 (by decide) ?_
    exact g_iret C dX8_orNone_10 rfl (Option.some.inj h)
theorem mX8_orNone (l : Launch) (Z : Sh) {σ : Sg} {v0 : Int32} {u : Int32}  (h : fX8_orNone v0 = some u) : MI l Z layM yX8_orNone wsX8_orNone rX8_orNone [.int v0] σ σ u :=
  MI.of (cc := cX8_orNone) (maxL := 1) (ret := (some .int)) (by decide) rfl (Nat.le_of_ble_eq_true rfl) (fun p e s m below meth c C => kX8_orNone_e C  h)

def rX8_borough : Room := { frames := 2, cells := 0, slots := 0, locals := 46 }
theorem uX8_borough_X8 : ∀ w ∈ wsX80, w ∈ wsX8_borough := by decide +kernel
def fX8_borough_b48 (σ : Sg) (v1 : Int32) (v2 : Int32)   : Option (Int32) := (rd (σ 1) 116 (((4 : Int32) + ((6 : Int32) * v2)) + v1)).bind fun t1 => some t1
def fX8_borough (σ : Sg) (v1 : Int32) (v2 : Int32) : Option (Int32) := (fX8_isBorough σ v1).bind fun t1 => if t1 = 0 then some (-1 : Int32) else if v2 = (0 : Int32) then fX8_borough_b48 σ v1 v2 else if v2 = (1 : Int32) then fX8_borough_b48 σ v1 v2 else if v2 = (2 : Int32) then fX8_borough_b48 σ v1 v2 else if v2 = (3 : Int32) then (fX8_ownerOf σ v1).bind fun t2 => (fX8_orNone t2).bind fun t3 => some t3 else if v2 = (4 : Int32) then (fX8_votesOf σ v1).bind fun t4 => some t4 else if v2 = (5 : Int32) then (fX8_costOf σ v1).bind fun t5 => some t5 else some (-1 : Int32)
set_option maxHeartbeats 1000000 in
set_option maxRecDepth 20000 in
theorem kX8_borough_b48 {p : Program} {l : Launch} {e : Env} {s : State} {m : MethodId} {args : Array Value} {below : List Frame} {meth : Method} {c : Code} {Z : Sh} (C : Cx p s m args meth c cX8_borough 3 wsX8_borough RX8 (some .int) Z layM) {σ : Sg} {v1 : Int32} {v2 : Int32} {u : Int32}    (h : fX8_borough_b48 σ v1 v2  = some u) : G p l e rX8_borough s m args below meth c 3 Z layM (MQ below (QI Z layM σ u s.heap.size) args s 0 0 (pA Z layM s.heap.size)) σ 48 [(0, .ref (ad Z 0)), (1, .int v1), (2, .int v2)] [] := by
  unfold fX8_borough_b48 at h
  refine g_aload_n (pc := 48) C dX8_borough_48 rfl 0 rfl ?_
  refine g_getr (pc := 49) C (Cn := RX8) (T := TX8) (N := 32) (ci := 8) (k := 0) (j := 0) uX8_borough_X8 (by rfl) rfl (by decide) (by decide +kernel) (q := 1) rfl dX8_borough_49 ?_
  refine g_iconst (pc := 52) C (v := (4 : Int32)) dX8_borough_52 (by decide) ?_
  refine g_bipush (pc := 53) C (v := (6 : Int32)) dX8_borough_53 (by decide) ?_
  refine g_iload_n (pc := 55) C dX8_borough_55 rfl 2 rfl ?_
  refine g_imul (pc := 56) C dX8_borough_56 ?_
  refine g_iadd (pc := 57) C dX8_borough_57 ?_
  refine g_iload_n (pc := 58) C dX8_borough_58 rfl 1 rfl ?_
  refine g_iadd (pc := 59) C dX8_borough_59 ?_
  obtain ⟨t1, et1, h⟩ := bs h
  refine g_iald (pc := 60) C (k := 1) (n := 116) (by rfl) et1 dX8_borough_60 ?_
  exact g_iret C dX8_borough_61 rfl (Option.some.inj h)
set_option maxHeartbeats 1000000 in
set_option maxRecDepth 20000 in
theorem kX8_borough_e {p : Program} {l : Launch} {e : Env} {s : State} {m : MethodId} {args : Array Value} {below : List Frame} {meth : Method} {c : Code} {Z : Sh} (C : Cx p s m args meth c cX8_borough 3 wsX8_borough RX8 (some .int) Z layM) {σ : Sg} {v1 : Int32} {v2 : Int32} {u : Int32}  (h : fX8_borough σ v1 v2 = some u) : G p l e rX8_borough s m args below meth c 3 Z layM (MQ below (QI Z layM σ u s.heap.size) args s 0 0 (pA Z layM s.heap.size)) σ 0 [(0, .ref (ad Z 0)), (1, .int v1), (2, .int v2)] [] := by
  unfold fX8_borough at h
  refine g_aload_n (pc := 0) C dX8_borough_0 rfl 0 rfl ?_
  refine g_iload_n (pc := 1) C dX8_borough_1 rfl 1 rfl ?_
  obtain ⟨t1, et1, h⟩ := bs h
  refine g_callVi (pc := 2) C (As := [.int v1]) (rest := []) (k := 0) (by rfl) (by rfl) (cwV 1 C.2.2.2.2.2.1 gX8_borough_X8_isBorough rfl rfl rfl (by decide +kernel) ⟨Nat.le_of_ble_eq_true rfl, Nat.le_of_ble_eq_true rfl⟩) (mX8_isBorough l Z  et1) rfl rfl (Nat.le_of_ble_eq_true rfl) dX8_borough_2 ?_
  refine g_if_ne (pc := 5) C (tgt := 10) dX8_borough_5 (by decide) h (fun hc5 h => ?_) (fun hc5 h => ?_)
  · refine g_iload_n (pc := 10) C dX8_borough_10 rfl 2 rfl ?_
    refine g_sw (pc := 11) C (off := 37) (tgt := 48) (0 : Int32) dX8_borough_11 (by decide) (by decide) (by decide) (by decide) h (fun hc11 h => ?_) (fun hn11_0 h => ?_)
    · exact g_sub [0, 1, 2] rfl (kX8_borough_b48 C    h)
    refine g_sw (pc := 11) C (off := 37) (tgt := 48) (1 : Int32) dX8_borough_11 (by decide) (by decide) (by decide) (by decide) h (fun hc11 h => ?_) (fun hn11_1 h => ?_)
    · exact g_sub [0, 1, 2] rfl (kX8_borough_b48 C    h)
    refine g_sw (pc := 11) C (off := 37) (tgt := 48) (2 : Int32) dX8_borough_11 (by decide) (by decide) (by decide) (by decide) h (fun hc11 h => ?_) (fun hn11_2 h => ?_)
    · exact g_sub [0, 1, 2] rfl (kX8_borough_b48 C    h)
    refine g_sw (pc := 11) C (off := 51) (tgt := 62) (3 : Int32) dX8_borough_11 (by decide) (by decide) (by decide) (by decide) h (fun hc11 h => ?_) (fun hn11_3 h => ?_)
    · refine g_aload_n (pc := 62) C dX8_borough_62 rfl 0 rfl ?_
      refine g_iload_n (pc := 63) C dX8_borough_63 rfl 1 rfl ?_
      obtain ⟨t2, et2, h⟩ := bs h
      refine g_callVi (pc := 64) C (As := [.int v1]) (rest := []) (k := 0) (by rfl) (by rfl) (cwV 1 C.2.2.2.2.2.1 gX8_borough_X8_ownerOf rfl rfl rfl (by decide +kernel) ⟨Nat.le_of_ble_eq_true rfl, Nat.le_of_ble_eq_true rfl⟩) (mX8_ownerOf l Z  et2) rfl rfl (Nat.le_of_ble_eq_true rfl) dX8_borough_64 ?_
      obtain ⟨t3, et3, h⟩ := bs h
      refine g_callSi (pc := 67) C (As := [.int t2]) (rest := []) (va_cwS 1 C.2.2.2.2.2.1 gX8_borough_X8_orNone rfl rfl rfl (by decide +kernel) ⟨Nat.le_of_ble_eq_true rfl, Nat.le_of_ble_eq_true rfl⟩) (mX8_orNone l Z  et3) rfl rfl (Nat.le_of_ble_eq_true rfl) dX8_borough_67 ?_
      exact g_iret C dX8_borough_70 rfl (Option.some.inj h)
    refine g_sw (pc := 11) C (off := 60) (tgt := 71) (4 : Int32) dX8_borough_11 (by decide) (by decide) (by decide) (by decide) h (fun hc11 h => ?_) (fun hn11_4 h => ?_)
    · refine g_aload_n (pc := 71) C dX8_borough_71 rfl 0 rfl ?_
      refine g_iload_n (pc := 72) C dX8_borough_72 rfl 1 rfl ?_
      obtain ⟨t4, et4, h⟩ := bs h
      refine g_callVi (pc := 73) C (As := [.int v1]) (rest := []) (k := 0) (by rfl) (by rfl) (cwV 1 C.2.2.2.2.2.1 gX8_borough_X8_votesOf rfl rfl rfl (by decide +kernel) ⟨Nat.le_of_ble_eq_true rfl, Nat.le_of_ble_eq_true rfl⟩) (mX8_votesOf l Z  et4) rfl rfl (Nat.le_of_ble_eq_true rfl) dX8_borough_73 ?_
      exact g_iret C dX8_borough_76 rfl (Option.some.inj h)
    refine g_sw (pc := 11) C (off := 66) (tgt := 77) (5 : Int32) dX8_borough_11 (by decide) (by decide) (by decide) (by decide) h (fun hc11 h => ?_) (fun hn11_5 h => ?_)
    · refine g_aload_n (pc := 77) C dX8_borough_77 rfl 0 rfl ?_
      refine g_iload_n (pc := 78) C dX8_borough_78 rfl 1 rfl ?_
      obtain ⟨t5, et5, h⟩ := bs h
      refine g_callVi (pc := 79) C (As := [.int v1]) (rest := []) (k := 0) (by rfl) (by rfl) (cwV 1 C.2.2.2.2.2.1 gX8_borough_X8_costOf rfl rfl rfl (by decide +kernel) ⟨Nat.le_of_ble_eq_true rfl, Nat.le_of_ble_eq_true rfl⟩) (mX8_costOf l Z  et5) rfl rfl (Nat.le_of_ble_eq_true rfl) dX8_borough_79 ?_
      exact g_iret C dX8_borough_82 rfl (Option.some.inj h)
    refine g_swd (pc := 11) C (tgt := 83) dX8_borough_11 (by have z0 := ne_ti hn11_0; have z1 := ne_ti hn11_1; have z2 := ne_ti hn11_2; have z3 := ne_ti hn11_3; have z4 := ne_ti hn11_4; have z5 := ne_ti hn11_5; simp at z0 z1 z2 z3 z4 z5; omega) (by decide) ?_
    refine g_iconst (pc := 83) C (v := (-1 : Int32)) dX8_borough_83 (by decide) ?_
    exact g_iret C dX8_borough_84 rfl (Option.some.inj h)
  · refine g_iconst (pc := 8) C (v := (-1 : Int32)) dX8_borough_8 (by decide) ?_
    exact g_iret C dX8_borough_9 rfl (Option.some.inj h)
theorem mX8_borough (l : Launch) (Z : Sh) {σ : Sg} {v1 : Int32} {v2 : Int32} {u : Int32}  (h : fX8_borough σ v1 v2 = some u) : MI l Z layM yX8_borough wsX8_borough rX8_borough [.ref (ad Z 0), .int v1, .int v2] σ σ u :=
  MI.of (cc := cX8_borough) (maxL := 3) (ret := (some .int)) (by decide) rfl (Nat.le_of_ble_eq_true rfl) (fun p e s m below meth c C => kX8_borough_e C  h)

def rX8_puts : Room := { frames := 0, cells := 0, slots := 0, locals := 0 }
theorem uX8_puts_X8 : ∀ w ∈ wsX80, w ∈ wsX8_puts := by decide +kernel
def fX8_puts (σ : Sg) (v1 : Int32) (v2 : Int32) (v3 : Int32) (v4 : Int32) : Option (Sg × Int32) := if v1 = 0 then some (σ, (-1 : Int32)) else (rd (σ 1) 116 v2).bind fun t1 => (wr σ 1 116 v2 (v3 - v4)).bind fun σ2 => some (σ2, (t1 + v4))
set_option maxHeartbeats 1000000 in
set_option maxRecDepth 20000 in
theorem kX8_puts_e {p : Program} {l : Launch} {e : Env} {s : State} {m : MethodId} {args : Array Value} {below : List Frame} {meth : Method} {c : Code} {Z : Sh} (C : Cx p s m args meth c cX8_puts 6 wsX8_puts RX8 (some .int) Z layM) {σ : Sg} {v1 : Int32} {v2 : Int32} {v3 : Int32} {v4 : Int32} {u : Sg × Int32}  (h : fX8_puts σ v1 v2 v3 v4 = some u) : G p l e rX8_puts s m args below meth c 6 Z layM (MQ below (QI Z layM u.1 u.2 s.heap.size) args s 0 0 (pA Z layM s.heap.size)) σ 0 [(0, .ref (ad Z 0)), (1, .int v1), (2, .int v2), (3, .int v3), (4, .int v4)] [] := by
  unfold fX8_puts at h
  refine g_iload_n (pc := 0) C dX8_puts_0 rfl 1 rfl ?_
  refine g_if_ne (pc := 1) C (tgt := 6) dX8_puts_1 (by decide) h (fun hc1 h => ?_) (fun hc1 h => ?_)
  · refine g_aload_n (pc := 6) C dX8_puts_6 rfl 0 rfl ?_
    refine g_getr (pc := 7) C (Cn := RX8) (T := TX8) (N := 32) (ci := 8) (k := 0) (j := 0) uX8_puts_X8 (by rfl) rfl (by decide) (by decide +kernel) (q := 1) rfl dX8_puts_7 ?_
    refine g_iload_n (pc := 10) C dX8_puts_10 rfl 2 rfl ?_
    obtain ⟨t1, et1, h⟩ := bs h
    refine g_iald (pc := 11) C (k := 1) (n := 116) (by rfl) et1 dX8_puts_11 ?_
    refine g_iload (pc := 12) C dX8_puts_12 4 rfl ?_
    refine g_iadd (pc := 14) C dX8_puts_14 ?_
    refine g_istore (pc := 15) C (lv2 := [(5, .int (t1 + v4)), (0, .ref (ad Z 0)), (1, .int v1), (2, .int v2), (3, .int v3), (4, .int v4)]) dX8_puts_15 (by decide) rfl ?_
    refine g_aload_n (pc := 17) C dX8_puts_17 rfl 1 rfl ?_
    refine g_getr (pc := 18) C (Cn := RX8) (T := TX8) (N := 32) (ci := 8) (k := 0) (j := 0) uX8_puts_X8 (by rfl) rfl (by decide) (by decide +kernel) (q := 1) rfl dX8_puts_18 ?_
    refine g_iload_n (pc := 21) C dX8_puts_21 rfl 3 rfl ?_
    refine g_iload_n (pc := 22) C dX8_puts_22 rfl 4 rfl ?_
    refine g_iload (pc := 23) C dX8_puts_23 5 rfl ?_
    refine g_isub (pc := 25) C dX8_puts_25 ?_
    obtain ⟨σ2, eσ2, h⟩ := bs h
    refine g_iast (pc := 26) C (k := 1) (n := 116) (by rfl) eσ2 dX8_puts_26 ?_
    refine g_iload (pc := 27) C dX8_puts_27 0 rfl ?_
    exact g_iret C dX8_puts_29 (pfst h) (psnd h)
  · refine g_iconst (pc := 4) C (v := (-1 : Int32)) dX8_puts_4 (by decide) ?_
    exact g_iret C dX8_puts_5 (pfst h) (psnd h)
theorem mX8_puts (l : Launch) (Z : Sh) {σ : Sg} {v1 : Int32} {v2 : Int32} {v3 : Int32} {v4 : Int32} {u : Sg × Int32}  (h : fX8_puts σ v1 v2 v3 v4 = some u) : MI l Z layM yX8_puts wsX8_puts rX8_puts [.ref (ad Z 0), .int v1, .int v2, .int v3, .int v4] σ u.1 u.2 :=
  MI.of (cc := cX8_puts) (maxL := 6) (ret := (some .int)) (by decide) rfl (Nat.le_of_ble_eq_true rfl) (fun p e s m below meth c C => kX8_puts_e C  h)

def rX8_alter : Room := { frames := 2, cells := 0, slots := 0, locals := 46 }
def fX8_alter_b76 (v1 : Int32) (v2 : Int32) (v3 : Int32)  (σ : Sg) (s1 : Int32) : Option (Sg × Int32) := (fX8_puts σ s1 (((4 : Int32) + ((6 : Int32) * v2)) + v1) v3 (0 : Int32)).bind fun u1 => some (u1.1, u1.2)
def fX8_alter_b75 (v1 : Int32) (v2 : Int32) (v3 : Int32)  (σ : Sg) : Option (Sg × Int32) := fX8_alter_b76 v1 v2 v3 σ (0 : Int32)
def fX8_alter_b55 (v1 : Int32) (v2 : Int32) (v3 : Int32)  (σ : Sg) (s0 : Int32) : Option (Sg × Int32) := (fX8_isBorough σ v1).bind fun t1 => if t1 = 0 then fX8_alter_b75 v1 v2 v3 σ else if s0 = 0 then fX8_alter_b75 v1 v2 v3 σ else fX8_alter_b76 v1 v2 v3 σ (1 : Int32)
def fX8_alter_b54 (v1 : Int32) (v2 : Int32) (v3 : Int32)  (σ : Sg) : Option (Sg × Int32) := fX8_alter_b55 v1 v2 v3 σ (0 : Int32)
def fX8_alter (σ : Sg) (v1 : Int32) (v2 : Int32) (v3 : Int32) : Option (Sg × Int32) := if v2 = 0 then (fX8_in v3.toInt64 (0 : Int64) (3 : Int64)).bind fun t3 => fX8_alter_b55 v1 v2 v3 σ t3 else if v2 = (1 : Int32) then (fX8_in v3.toInt64 (1 : Int64) (9 : Int64)).bind fun t2 => fX8_alter_b55 v1 v2 v3 σ t2 else if v2 = (2 : Int32) then (fX8_in v3.toInt64 (0 : Int64) (3 : Int64)).bind fun t1 => if t1 = 0 then fX8_alter_b54 v1 v2 v3 σ else fX8_alter_b55 v1 v2 v3 σ (1 : Int32) else fX8_alter_b54 v1 v2 v3 σ
set_option maxHeartbeats 1000000 in
set_option maxRecDepth 20000 in
theorem kX8_alter_b76 {p : Program} {l : Launch} {e : Env} {s : State} {m : MethodId} {args : Array Value} {below : List Frame} {meth : Method} {c : Code} {Z : Sh} (C : Cx p s m args meth c cX8_alter 5 wsX8_alter RX8 (some .int) Z layM) {v1 : Int32} {v2 : Int32} {v3 : Int32} {u : Sg × Int32}   {σ : Sg} {s1 : Int32} (h : fX8_alter_b76 v1 v2 v3 σ s1 = some u) : G p l e rX8_alter s m args below meth c 5 Z layM (MQ below (QI Z layM u.1 u.2 s.heap.size) args s 0 0 (pA Z layM s.heap.size)) σ 76 [(1, .int v1), (2, .int v2), (3, .int v3)] [.int s1, .ref (ad Z 0)] := by
  unfold fX8_alter_b76 at h
  refine g_iconst (pc := 76) C (v := (4 : Int32)) dX8_alter_76 (by decide) ?_
  refine g_bipush (pc := 77) C (v := (6 : Int32)) dX8_alter_77 (by decide) ?_
  refine g_iload_n (pc := 79) C dX8_alter_79 rfl 1 rfl ?_
  refine g_imul (pc := 80) C dX8_alter_80 ?_
  refine g_iadd (pc := 81) C dX8_alter_81 ?_
  refine g_iload_n (pc := 82) C dX8_alter_82 rfl 0 rfl ?_
  refine g_iadd (pc := 83) C dX8_alter_83 ?_
  refine g_iload_n (pc := 84) C dX8_alter_84 rfl 2 rfl ?_
  refine g_iconst (pc := 85) C (v := (0 : Int32)) dX8_alter_85 (by decide) ?_
  obtain ⟨u1, eu1, h⟩ := bs h
  refine g_callVi (pc := 86) C (As := [.int s1, .int (((4 : Int32) + ((6 : Int32) * v2)) + v1), .int v3, .int (0 : Int32)]) (rest := []) (k := 0) (by rfl) (by rfl) (cwV 4 C.2.2.2.2.2.1 gX8_alter_X8_puts rfl rfl rfl (by decide +kernel) ⟨Nat.le_of_ble_eq_true rfl, Nat.le_of_ble_eq_true rfl⟩) (mX8_puts l Z  eu1) rfl rfl (Nat.le_of_ble_eq_true rfl) dX8_alter_86 ?_
  exact g_iret C dX8_alter_89 (pfst h) (psnd h)
set_option maxHeartbeats 1000000 in
set_option maxRecDepth 20000 in
theorem kX8_alter_b75 {p : Program} {l : Launch} {e : Env} {s : State} {m : MethodId} {args : Array Value} {below : List Frame} {meth : Method} {c : Code} {Z : Sh} (C : Cx p s m args meth c cX8_alter 5 wsX8_alter RX8 (some .int) Z layM) {v1 : Int32} {v2 : Int32} {v3 : Int32} {u : Sg × Int32}   {σ : Sg} (h : fX8_alter_b75 v1 v2 v3 σ = some u) : G p l e rX8_alter s m args below meth c 5 Z layM (MQ below (QI Z layM u.1 u.2 s.heap.size) args s 0 0 (pA Z layM s.heap.size)) σ 75 [(1, .int v1), (2, .int v2), (3, .int v3)] [.ref (ad Z 0)] := by
  unfold fX8_alter_b75 at h
  refine g_iconst (pc := 75) C (v := (0 : Int32)) dX8_alter_75 (by decide) ?_
  exact g_sub [0, 1, 2] rfl (kX8_alter_b76 C    h)
set_option maxHeartbeats 1000000 in
set_option maxRecDepth 20000 in
theorem kX8_alter_b55 {p : Program} {l : Launch} {e : Env} {s : State} {m : MethodId} {args : Array Value} {below : List Frame} {meth : Method} {c : Code} {Z : Sh} (C : Cx p s m args meth c cX8_alter 5 wsX8_alter RX8 (some .int) Z layM) {v1 : Int32} {v2 : Int32} {v3 : Int32} {u : Sg × Int32}   {σ : Sg} {s0 : Int32} (h : fX8_alter_b55 v1 v2 v3 σ s0 = some u) : G p l e rX8_alter s m args below meth c 5 Z layM (MQ below (QI Z layM u.1 u.2 s.heap.size) args s 0 0 (pA Z layM s.heap.size)) σ 55 [(0, .ref (ad Z 0)), (1, .int v1), (2, .int v2), (3, .int v3)] [.int s0] := by
  unfold fX8_alter_b55 at h
  refine g_istore (pc := 55) C (lv2 := [(4, .int s0), (0, .ref (ad Z 0)), (1, .int v1), (2, .int v2), (3, .int v3)]) dX8_alter_55 (by decide) rfl ?_
  refine g_aload_n (pc := 57) C dX8_alter_57 rfl 1 rfl ?_
  refine g_aload_n (pc := 58) C dX8_alter_58 rfl 1 rfl ?_
  refine g_iload_n (pc := 59) C dX8_alter_59 rfl 2 rfl ?_
  obtain ⟨t1, et1, h⟩ := bs h
  refine g_callVi (pc := 60) C (As := [.int v1]) (rest := [.ref (ad Z 0)]) (k := 0) (by rfl) (by rfl) (cwV 1 C.2.2.2.2.2.1 gX8_alter_X8_isBorough rfl rfl rfl (by decide +kernel) ⟨Nat.le_of_ble_eq_true rfl, Nat.le_of_ble_eq_true rfl⟩) (mX8_isBorough l Z  et1) rfl rfl (Nat.le_of_ble_eq_true rfl) dX8_alter_60 ?_
  refine g_if_eq (pc := 63) C (tgt := 75) dX8_alter_63 (by decide) h (fun hc63 h => ?_) (fun hc63 h => ?_)
  · exact g_sub [2, 3, 4] rfl (kX8_alter_b75 C    h)
  · refine g_iload (pc := 66) C dX8_alter_66 0 rfl ?_
    refine g_if_eq (pc := 68) C (tgt := 75) dX8_alter_68 (by decide) h (fun hc68 h => ?_) (fun hc68 h => ?_)
    · exact g_sub [2, 3, 4] rfl (kX8_alter_b75 C    h)
    · refine g_iconst (pc := 71) C (v := (1 : Int32)) dX8_alter_71 (by decide) ?_
      refine g_goto (pc := 72) C (tgt := 76) dX8_alter_72 (by decide) ?_
      exact g_sub [2, 3, 4] rfl (kX8_alter_b76 C    h)
set_option maxHeartbeats 1000000 in
set_option maxRecDepth 20000 in
theorem kX8_alter_b54 {p : Program} {l : Launch} {e : Env} {s : State} {m : MethodId} {args : Array Value} {below : List Frame} {meth : Method} {c : Code} {Z : Sh} (C : Cx p s m args meth c cX8_alter 5 wsX8_alter RX8 (some .int) Z layM) {v1 : Int32} {v2 : Int32} {v3 : Int32} {u : Sg × Int32}   {σ : Sg} (h : fX8_alter_b54 v1 v2 v3 σ = some u) : G p l e rX8_alter s m args below meth c 5 Z layM (MQ below (QI Z layM u.1 u.2 s.heap.size) args s 0 0 (pA Z layM s.heap.size)) σ 54 [(0, .ref (ad Z 0)), (1, .int v1), (2, .int v2), (3, .int v3)] [] := by
  unfold fX8_alter_b54 at h
  refine g_iconst (pc := 54) C (v := (0 : Int32)) dX8_alter_54 (by decide) ?_
  exact g_sub [0, 1, 2, 3] rfl (kX8_alter_b55 C    h)
set_option maxHeartbeats 1000000 in
set_option maxRecDepth 20000 in
theorem kX8_alter_e {p : Program} {l : Launch} {e : Env} {s : State} {m : MethodId} {args : Array Value} {below : List Frame} {meth : Method} {c : Code} {Z : Sh} (C : Cx p s m args meth c cX8_alter 5 wsX8_alter RX8 (some .int) Z layM) {σ : Sg} {v1 : Int32} {v2 : Int32} {v3 : Int32} {u : Sg × Int32}  (h : fX8_alter σ v1 v2 v3 = some u) : G p l e rX8_alter s m args below meth c 5 Z layM (MQ below (QI Z layM u.1 u.2 s.heap.size) args s 0 0 (pA Z layM s.heap.size)) σ 0 [(0, .ref (ad Z 0)), (1, .int v1), (2, .int v2), (3, .int v3)] [] := by
  unfold fX8_alter at h
  refine g_iload_n (pc := 0) C dX8_alter_0 rfl 2 rfl ?_
  refine g_if_ne (pc := 1) C (tgt := 16) dX8_alter_1 (by decide) h (fun hc1 h => ?_) (fun hc1 h => ?_)
  · refine g_iload_n (pc := 16) C dX8_alter_16 rfl 2 rfl ?_
    refine g_iconst (pc := 17) C (v := (1 : Int32)) dX8_alter_17 (by decide) ?_
    refine g_icmp_ne (pc := 18) C (tgt := 33) dX8_alter_18 (by decide) h (fun hc18 h => ?_) (fun hc18 h => ?_)
    · refine g_iload_n (pc := 33) C dX8_alter_33 rfl 2 rfl ?_
      refine g_iconst (pc := 34) C (v := (2 : Int32)) dX8_alter_34 (by decide) ?_
      refine g_icmp_ne (pc := 35) C (tgt := 54) dX8_alter_35 (by decide) h (fun hc35 h => ?_) (fun hc35 h => ?_)
      · exact g_sub [0, 1, 2, 3] rfl (kX8_alter_b54 C    h)
      · refine g_iload_n (pc := 38) C dX8_alter_38 rfl 3 rfl ?_
        refine g_i2l (pc := 39) C dX8_alter_39 ?_
        refine g_lconst (pc := 40) C (v := (0 : Int64)) dX8_alter_40 (by decide) ?_
        refine g_ldc2 (pc := 41) C (v := (3 : Int64)) (by decide +kernel) dX8_alter_41 ?_
        obtain ⟨t1, et1, h⟩ := bs h
        refine g_callSi (pc := 44) C (As := [.long v3.toInt64, .long (0 : Int64), .long (3 : Int64)]) (rest := []) (va_cwS 3 C.2.2.2.2.2.1 gX8_alter_X8_in rfl rfl rfl (by decide +kernel) ⟨Nat.le_of_ble_eq_true rfl, Nat.le_of_ble_eq_true rfl⟩) (mX8_in l Z  et1) rfl rfl (Nat.le_of_ble_eq_true rfl) dX8_alter_44 ?_
        refine g_if_eq (pc := 47) C (tgt := 54) dX8_alter_47 (by decide) h (fun hc47 h => ?_) (fun hc47 h => ?_)
        · exact g_sub [0, 1, 2, 3] rfl (kX8_alter_b54 C    h)
        · refine g_iconst (pc := 50) C (v := (1 : Int32)) dX8_alter_50 (by decide) ?_
          refine g_goto (pc := 51) C (tgt := 55) dX8_alter_51 (by decide) ?_
          exact g_sub [0, 1, 2, 3] rfl (kX8_alter_b55 C    h)
    · refine g_iload_n (pc := 21) C dX8_alter_21 rfl 3 rfl ?_
      refine g_i2l (pc := 22) C dX8_alter_22 ?_
      refine g_lconst (pc := 23) C (v := (1 : Int64)) dX8_alter_23 (by decide) ?_
      refine g_ldc2 (pc := 24) C (v := (9 : Int64)) (by decide +kernel) dX8_alter_24 ?_
      obtain ⟨t2, et2, h⟩ := bs h
      refine g_callSi (pc := 27) C (As := [.long v3.toInt64, .long (1 : Int64), .long (9 : Int64)]) (rest := []) (va_cwS 3 C.2.2.2.2.2.1 gX8_alter_X8_in rfl rfl rfl (by decide +kernel) ⟨Nat.le_of_ble_eq_true rfl, Nat.le_of_ble_eq_true rfl⟩) (mX8_in l Z  et2) rfl rfl (Nat.le_of_ble_eq_true rfl) dX8_alter_27 ?_
      refine g_goto (pc := 30) C (tgt := 55) dX8_alter_30 (by decide) ?_
      exact g_sub [0, 1, 2, 3] rfl (kX8_alter_b55 C    h)
  · refine g_iload_n (pc := 4) C dX8_alter_4 rfl 3 rfl ?_
    refine g_i2l (pc := 5) C dX8_alter_5 ?_
    refine g_lconst (pc := 6) C (v := (0 : Int64)) dX8_alter_6 (by decide) ?_
    refine g_ldc2 (pc := 7) C (v := (3 : Int64)) (by decide +kernel) dX8_alter_7 ?_
    obtain ⟨t3, et3, h⟩ := bs h
    refine g_callSi (pc := 10) C (As := [.long v3.toInt64, .long (0 : Int64), .long (3 : Int64)]) (rest := []) (va_cwS 3 C.2.2.2.2.2.1 gX8_alter_X8_in rfl rfl rfl (by decide +kernel) ⟨Nat.le_of_ble_eq_true rfl, Nat.le_of_ble_eq_true rfl⟩) (mX8_in l Z  et3) rfl rfl (Nat.le_of_ble_eq_true rfl) dX8_alter_10 ?_
    refine g_goto (pc := 13) C (tgt := 55) dX8_alter_13 (by decide) ?_
    exact g_sub [0, 1, 2, 3] rfl (kX8_alter_b55 C    h)
theorem mX8_alter (l : Launch) (Z : Sh) {σ : Sg} {v1 : Int32} {v2 : Int32} {v3 : Int32} {u : Sg × Int32}  (h : fX8_alter σ v1 v2 v3 = some u) : MI l Z layM yX8_alter wsX8_alter rX8_alter [.ref (ad Z 0), .int v1, .int v2, .int v3] σ u.1 u.2 :=
  MI.of (cc := cX8_alter) (maxL := 5) (ret := (some .int)) (by decide) rfl (Nat.le_of_ble_eq_true rfl) (fun p e s m below meth c C => kX8_alter_e C  h)

def rX8_give : Room := { frames := 2, cells := 0, slots := 0, locals := 46 }
theorem uX8_give_X8 : ∀ w ∈ wsX80, w ∈ wsX8_give := by decide +kernel
def fX8_give_b51 (v1 : Int32) (v2 : Int32)  (σ : Sg) (v3 : Int32) (s1 : Int32) (s2 : Int32) : Option (Sg × Int32) := (wr σ 1 116 s1 s2).bind fun σ1 => (fX8_orNone v3).bind fun t2 => some (σ1, t2)
def fX8_give_b24 (v1 : Int32) (v2 : Int32)  (σ : Sg) : Option (Sg × Int32) := (fX8_ownerOf σ v1).bind fun t1 => if v2 = (-4 : Int32) then fX8_give_b51 v1 v2 σ t1 ((22 : Int32) + v1) (0 : Int32) else fX8_give_b51 v1 v2 σ t1 ((22 : Int32) + v1) (v2 + (1 : Int32))
def fX8_give (σ : Sg) (v1 : Int32) (v2 : Int32) : Option (Sg × Int32) := (fX8_isBorough σ v1).bind fun t1 => if t1 = 0 then some (σ, (-1 : Int32)) else if v2 = (-4 : Int32) then fX8_give_b24 v1 v2 σ else (fX8_isLord σ v2).bind fun t2 => if t2 = 0 then some (σ, (-1 : Int32)) else fX8_give_b24 v1 v2 σ
set_option maxHeartbeats 1000000 in
set_option maxRecDepth 20000 in
theorem kX8_give_b51 {p : Program} {l : Launch} {e : Env} {s : State} {m : MethodId} {args : Array Value} {below : List Frame} {meth : Method} {c : Code} {Z : Sh} (C : Cx p s m args meth c cX8_give 4 wsX8_give RX8 (some .int) Z layM) {v1 : Int32} {v2 : Int32} {u : Sg × Int32}   {σ : Sg} {v3 : Int32} {s1 : Int32} {s2 : Int32} (h : fX8_give_b51 v1 v2 σ v3 s1 s2 = some u) : G p l e rX8_give s m args below meth c 4 Z layM (MQ below (QI Z layM u.1 u.2 s.heap.size) args s 0 0 (pA Z layM s.heap.size)) σ 51 [(3, .int v3)] [.int s2, .int s1, .ref (ad Z 1)] := by
  unfold fX8_give_b51 at h
  obtain ⟨σ1, eσ1, h⟩ := bs h
  refine g_iast (pc := 51) C (k := 1) (n := 116) (by rfl) eσ1 dX8_give_51 ?_
  refine g_iload_n (pc := 52) C dX8_give_52 rfl 0 rfl ?_
  obtain ⟨t2, et2, h⟩ := bs h
  refine g_callSi (pc := 53) C (As := [.int v3]) (rest := []) (va_cwS 1 C.2.2.2.2.2.1 gX8_give_X8_orNone rfl rfl rfl (by decide +kernel) ⟨Nat.le_of_ble_eq_true rfl, Nat.le_of_ble_eq_true rfl⟩) (mX8_orNone l Z  et2) rfl rfl (Nat.le_of_ble_eq_true rfl) dX8_give_53 ?_
  exact g_iret C dX8_give_56 (pfst h) (psnd h)
set_option maxHeartbeats 1000000 in
set_option maxRecDepth 20000 in
theorem kX8_give_b24 {p : Program} {l : Launch} {e : Env} {s : State} {m : MethodId} {args : Array Value} {below : List Frame} {meth : Method} {c : Code} {Z : Sh} (C : Cx p s m args meth c cX8_give 4 wsX8_give RX8 (some .int) Z layM) {v1 : Int32} {v2 : Int32} {u : Sg × Int32}   {σ : Sg} (h : fX8_give_b24 v1 v2 σ = some u) : G p l e rX8_give s m args below meth c 4 Z layM (MQ below (QI Z layM u.1 u.2 s.heap.size) args s 0 0 (pA Z layM s.heap.size)) σ 24 [(0, .ref (ad Z 0)), (1, .int v1), (2, .int v2)] [] := by
  unfold fX8_give_b24 at h
  refine g_aload_n (pc := 24) C dX8_give_24 rfl 0 rfl ?_
  refine g_iload_n (pc := 25) C dX8_give_25 rfl 1 rfl ?_
  obtain ⟨t1, et1, h⟩ := bs h
  refine g_callVi (pc := 26) C (As := [.int v1]) (rest := []) (k := 0) (by rfl) (by rfl) (cwV 1 C.2.2.2.2.2.1 gX8_give_X8_ownerOf rfl rfl rfl (by decide +kernel) ⟨Nat.le_of_ble_eq_true rfl, Nat.le_of_ble_eq_true rfl⟩) (mX8_ownerOf l Z  et1) rfl rfl (Nat.le_of_ble_eq_true rfl) dX8_give_26 ?_
  refine g_istore_n (pc := 29) C (lv2 := [(3, .int t1), (0, .ref (ad Z 0)), (1, .int v1), (2, .int v2)]) dX8_give_29 rfl (by decide) rfl ?_
  refine g_aload_n (pc := 30) C dX8_give_30 rfl 1 rfl ?_
  refine g_getr (pc := 31) C (Cn := RX8) (T := TX8) (N := 32) (ci := 8) (k := 0) (j := 0) uX8_give_X8 (by rfl) rfl (by decide) (by decide +kernel) (q := 1) rfl dX8_give_31 ?_
  refine g_bipush (pc := 34) C (v := (22 : Int32)) dX8_give_34 (by decide) ?_
  refine g_iload_n (pc := 36) C dX8_give_36 rfl 2 rfl ?_
  refine g_iadd (pc := 37) C dX8_give_37 ?_
  refine g_iload_n (pc := 38) C dX8_give_38 rfl 3 rfl ?_
  refine g_bipush (pc := 39) C (v := (-4 : Int32)) dX8_give_39 (by decide) ?_
  refine g_icmp_ne (pc := 41) C (tgt := 48) dX8_give_41 (by decide) h (fun hc41 h => ?_) (fun hc41 h => ?_)
  · refine g_iload_n (pc := 48) C dX8_give_48 rfl 3 rfl ?_
    refine g_iconst (pc := 49) C (v := (1 : Int32)) dX8_give_49 (by decide) ?_
    refine g_iadd (pc := 50) C dX8_give_50 ?_
    exact g_sub [0] rfl (kX8_give_b51 C    h)
  · refine g_iconst (pc := 44) C (v := (0 : Int32)) dX8_give_44 (by decide) ?_
    refine g_goto (pc := 45) C (tgt := 51) dX8_give_45 (by decide) ?_
    exact g_sub [0] rfl (kX8_give_b51 C    h)
set_option maxHeartbeats 1000000 in
set_option maxRecDepth 20000 in
theorem kX8_give_e {p : Program} {l : Launch} {e : Env} {s : State} {m : MethodId} {args : Array Value} {below : List Frame} {meth : Method} {c : Code} {Z : Sh} (C : Cx p s m args meth c cX8_give 4 wsX8_give RX8 (some .int) Z layM) {σ : Sg} {v1 : Int32} {v2 : Int32} {u : Sg × Int32}  (h : fX8_give σ v1 v2 = some u) : G p l e rX8_give s m args below meth c 4 Z layM (MQ below (QI Z layM u.1 u.2 s.heap.size) args s 0 0 (pA Z layM s.heap.size)) σ 0 [(0, .ref (ad Z 0)), (1, .int v1), (2, .int v2)] [] := by
  unfold fX8_give at h
  refine g_aload_n (pc := 0) C dX8_give_0 rfl 0 rfl ?_
  refine g_iload_n (pc := 1) C dX8_give_1 rfl 1 rfl ?_
  obtain ⟨t1, et1, h⟩ := bs h
  refine g_callVi (pc := 2) C (As := [.int v1]) (rest := []) (k := 0) (by rfl) (by rfl) (cwV 1 C.2.2.2.2.2.1 gX8_give_X8_isBorough rfl rfl rfl (by decide +kernel) ⟨Nat.le_of_ble_eq_true rfl, Nat.le_of_ble_eq_true rfl⟩) (mX8_isBorough l Z  et1) rfl rfl (Nat.le_of_ble_eq_true rfl) dX8_give_2 ?_
  refine g_if_eq (pc := 5) C (tgt := 22) dX8_give_5 (by decide) h (fun hc5 h => ?_) (fun hc5 h => ?_)
  · refine g_iconst (pc := 22) C (v := (-1 : Int32)) dX8_give_22 (by decide) ?_
    exact g_iret C dX8_give_23 (pfst h) (psnd h)
  · refine g_iload_n (pc := 8) C dX8_give_8 rfl 2 rfl ?_
    refine g_bipush (pc := 9) C (v := (-4 : Int32)) dX8_give_9 (by decide) ?_
    refine g_icmp_eq (pc := 11) C (tgt := 24) dX8_give_11 (by decide) h (fun hc11 h => ?_) (fun hc11 h => ?_)
    · exact g_sub [0, 1, 2] rfl (kX8_give_b24 C    h)
    · refine g_aload_n (pc := 14) C dX8_give_14 rfl 0 rfl ?_
      refine g_iload_n (pc := 15) C dX8_give_15 rfl 2 rfl ?_
      obtain ⟨t2, et2, h⟩ := bs h
      refine g_callVi (pc := 16) C (As := [.int v2]) (rest := []) (k := 0) (by rfl) (by rfl) (cwV 1 C.2.2.2.2.2.1 gX8_give_X8_isLord rfl rfl rfl (by decide +kernel) ⟨Nat.le_of_ble_eq_true rfl, Nat.le_of_ble_eq_true rfl⟩) (mX8_isLord l Z  et2) rfl rfl (Nat.le_of_ble_eq_true rfl) dX8_give_16 ?_
      refine g_if_ne (pc := 19) C (tgt := 24) dX8_give_19 (by decide) h (fun hc19 h => ?_) (fun hc19 h => ?_)
      · exact g_sub [0, 1, 2] rfl (kX8_give_b24 C    h)
      · refine g_iconst (pc := 22) C (v := (-1 : Int32)) dX8_give_22 (by decide) ?_
        exact g_iret C dX8_give_23 (pfst h) (psnd h)
theorem mX8_give (l : Launch) (Z : Sh) {σ : Sg} {v1 : Int32} {v2 : Int32} {u : Sg × Int32}  (h : fX8_give σ v1 v2 = some u) : MI l Z layM yX8_give wsX8_give rX8_give [.ref (ad Z 0), .int v1, .int v2] σ u.1 u.2 :=
  MI.of (cc := cX8_give) (maxL := 4) (ret := (some .int)) (by decide) rfl (Nat.le_of_ble_eq_true rfl) (fun p e s m below meth c C => kX8_give_e C  h)

def rX8_purse : Room := { frames := 2, cells := 0, slots := 0, locals := 46 }
def fX8_purse_b26 (v1 : Int32) (v2 : Int32)  (σ : Sg) (s1 : Int32) : Option (Sg × Int32) := (fX8_puts σ s1 v1 v2 (0 : Int32)).bind fun u1 => some (u1.1, u1.2)
def fX8_purse_b25 (v1 : Int32) (v2 : Int32)  (σ : Sg) : Option (Sg × Int32) := fX8_purse_b26 v1 v2 σ (0 : Int32)
def fX8_purse (σ : Sg) (v1 : Int32) (v2 : Int32) : Option (Sg × Int32) := (fX8_isLord σ v1).bind fun t1 => if t1 = 0 then fX8_purse_b25 v1 v2 σ else (fX8_in v2.toInt64 (0 : Int64) (99 : Int64)).bind fun t2 => if t2 = 0 then fX8_purse_b25 v1 v2 σ else fX8_purse_b26 v1 v2 σ (1 : Int32)
set_option maxHeartbeats 1000000 in
set_option maxRecDepth 20000 in
theorem kX8_purse_b26 {p : Program} {l : Launch} {e : Env} {s : State} {m : MethodId} {args : Array Value} {below : List Frame} {meth : Method} {c : Code} {Z : Sh} (C : Cx p s m args meth c cX8_purse 3 wsX8_purse RX8 (some .int) Z layM) {v1 : Int32} {v2 : Int32} {u : Sg × Int32}   {σ : Sg} {s1 : Int32} (h : fX8_purse_b26 v1 v2 σ s1 = some u) : G p l e rX8_purse s m args below meth c 3 Z layM (MQ below (QI Z layM u.1 u.2 s.heap.size) args s 0 0 (pA Z layM s.heap.size)) σ 26 [(1, .int v1), (2, .int v2)] [.int s1, .ref (ad Z 0)] := by
  unfold fX8_purse_b26 at h
  refine g_iload_n (pc := 26) C dX8_purse_26 rfl 0 rfl ?_
  refine g_iload_n (pc := 27) C dX8_purse_27 rfl 1 rfl ?_
  refine g_iconst (pc := 28) C (v := (0 : Int32)) dX8_purse_28 (by decide) ?_
  obtain ⟨u1, eu1, h⟩ := bs h
  refine g_callVi (pc := 29) C (As := [.int s1, .int v1, .int v2, .int (0 : Int32)]) (rest := []) (k := 0) (by rfl) (by rfl) (cwV 4 C.2.2.2.2.2.1 gX8_purse_X8_puts rfl rfl rfl (by decide +kernel) ⟨Nat.le_of_ble_eq_true rfl, Nat.le_of_ble_eq_true rfl⟩) (mX8_puts l Z  eu1) rfl rfl (Nat.le_of_ble_eq_true rfl) dX8_purse_29 ?_
  exact g_iret C dX8_purse_32 (pfst h) (psnd h)
set_option maxHeartbeats 1000000 in
set_option maxRecDepth 20000 in
theorem kX8_purse_b25 {p : Program} {l : Launch} {e : Env} {s : State} {m : MethodId} {args : Array Value} {below : List Frame} {meth : Method} {c : Code} {Z : Sh} (C : Cx p s m args meth c cX8_purse 3 wsX8_purse RX8 (some .int) Z layM) {v1 : Int32} {v2 : Int32} {u : Sg × Int32}   {σ : Sg} (h : fX8_purse_b25 v1 v2 σ = some u) : G p l e rX8_purse s m args below meth c 3 Z layM (MQ below (QI Z layM u.1 u.2 s.heap.size) args s 0 0 (pA Z layM s.heap.size)) σ 25 [(1, .int v1), (2, .int v2)] [.ref (ad Z 0)] := by
  unfold fX8_purse_b25 at h
  refine g_iconst (pc := 25) C (v := (0 : Int32)) dX8_purse_25 (by decide) ?_
  exact g_sub [0, 1] rfl (kX8_purse_b26 C    h)
set_option maxHeartbeats 1000000 in
set_option maxRecDepth 20000 in
theorem kX8_purse_e {p : Program} {l : Launch} {e : Env} {s : State} {m : MethodId} {args : Array Value} {below : List Frame} {meth : Method} {c : Code} {Z : Sh} (C : Cx p s m args meth c cX8_purse 3 wsX8_purse RX8 (some .int) Z layM) {σ : Sg} {v1 : Int32} {v2 : Int32} {u : Sg × Int32}  (h : fX8_purse σ v1 v2 = some u) : G p l e rX8_purse s m args below meth c 3 Z layM (MQ below (QI Z layM u.1 u.2 s.heap.size) args s 0 0 (pA Z layM s.heap.size)) σ 0 [(0, .ref (ad Z 0)), (1, .int v1), (2, .int v2)] [] := by
  unfold fX8_purse at h
  refine g_aload_n (pc := 0) C dX8_purse_0 rfl 0 rfl ?_
  refine g_aload_n (pc := 1) C dX8_purse_1 rfl 0 rfl ?_
  refine g_iload_n (pc := 2) C dX8_purse_2 rfl 1 rfl ?_
  obtain ⟨t1, et1, h⟩ := bs h
  refine g_callVi (pc := 3) C (As := [.int v1]) (rest := [.ref (ad Z 0)]) (k := 0) (by rfl) (by rfl) (cwV 1 C.2.2.2.2.2.1 gX8_purse_X8_isLord rfl rfl rfl (by decide +kernel) ⟨Nat.le_of_ble_eq_true rfl, Nat.le_of_ble_eq_true rfl⟩) (mX8_isLord l Z  et1) rfl rfl (Nat.le_of_ble_eq_true rfl) dX8_purse_3 ?_
  refine g_if_eq (pc := 6) C (tgt := 25) dX8_purse_6 (by decide) h (fun hc6 h => ?_) (fun hc6 h => ?_)
  · exact g_sub [1, 2] rfl (kX8_purse_b25 C    h)
  · refine g_iload_n (pc := 9) C dX8_purse_9 rfl 2 rfl ?_
    refine g_i2l (pc := 10) C dX8_purse_10 ?_
    refine g_lconst (pc := 11) C (v := (0 : Int64)) dX8_purse_11 (by decide) ?_
    refine g_ldc2 (pc := 12) C (v := (99 : Int64)) (by decide +kernel) dX8_purse_12 ?_
    obtain ⟨t2, et2, h⟩ := bs h
    refine g_callSi (pc := 15) C (As := [.long v2.toInt64, .long (0 : Int64), .long (99 : Int64)]) (rest := [.ref (ad Z 0)]) (va_cwS 3 C.2.2.2.2.2.1 gX8_purse_X8_in rfl rfl rfl (by decide +kernel) ⟨Nat.le_of_ble_eq_true rfl, Nat.le_of_ble_eq_true rfl⟩) (mX8_in l Z  et2) rfl rfl (Nat.le_of_ble_eq_true rfl) dX8_purse_15 ?_
    refine g_if_eq (pc := 18) C (tgt := 25) dX8_purse_18 (by decide) h (fun hc18 h => ?_) (fun hc18 h => ?_)
    · exact g_sub [1, 2] rfl (kX8_purse_b25 C    h)
    · refine g_iconst (pc := 21) C (v := (1 : Int32)) dX8_purse_21 (by decide) ?_
      refine g_goto (pc := 22) C (tgt := 26) dX8_purse_22 (by decide) ?_
      exact g_sub [1, 2] rfl (kX8_purse_b26 C    h)
theorem mX8_purse (l : Launch) (Z : Sh) {σ : Sg} {v1 : Int32} {v2 : Int32} {u : Sg × Int32}  (h : fX8_purse σ v1 v2 = some u) : MI l Z layM yX8_purse wsX8_purse rX8_purse [.ref (ad Z 0), .int v1, .int v2] σ u.1 u.2 :=
  MI.of (cc := cX8_purse) (maxL := 3) (ret := (some .int)) (by decide) rfl (Nat.le_of_ble_eq_true rfl) (fun p e s m below meth c C => kX8_purse_e C  h)

def rX8_price : Room := { frames := 1, cells := 0, slots := 0, locals := 25 }
def fX8_price (σ : Sg) (v1 : Int32) : Option (Sg × Int32) := (fX8_in v1.toInt64 (0 : Int64) (9 : Int64)).bind fun t1 => (fX8_puts σ t1 (28 : Int32) v1 (3 : Int32)).bind fun u2 => some (u2.1, u2.2)
set_option maxHeartbeats 1000000 in
set_option maxRecDepth 20000 in
theorem kX8_price_e {p : Program} {l : Launch} {e : Env} {s : State} {m : MethodId} {args : Array Value} {below : List Frame} {meth : Method} {c : Code} {Z : Sh} (C : Cx p s m args meth c cX8_price 2 wsX8_price RX8 (some .int) Z layM) {σ : Sg} {v1 : Int32} {u : Sg × Int32}  (h : fX8_price σ v1 = some u) : G p l e rX8_price s m args below meth c 2 Z layM (MQ below (QI Z layM u.1 u.2 s.heap.size) args s 0 0 (pA Z layM s.heap.size)) σ 0 [(0, .ref (ad Z 0)), (1, .int v1)] [] := by
  unfold fX8_price at h
  refine g_aload_n (pc := 0) C dX8_price_0 rfl 0 rfl ?_
  refine g_iload_n (pc := 1) C dX8_price_1 rfl 1 rfl ?_
  refine g_i2l (pc := 2) C dX8_price_2 ?_
  refine g_lconst (pc := 3) C (v := (0 : Int64)) dX8_price_3 (by decide) ?_
  refine g_ldc2 (pc := 4) C (v := (9 : Int64)) (by decide +kernel) dX8_price_4 ?_
  obtain ⟨t1, et1, h⟩ := bs h
  refine g_callSi (pc := 7) C (As := [.long v1.toInt64, .long (0 : Int64), .long (9 : Int64)]) (rest := [.ref (ad Z 0)]) (va_cwS 3 C.2.2.2.2.2.1 gX8_price_X8_in rfl rfl rfl (by decide +kernel) ⟨Nat.le_of_ble_eq_true rfl, Nat.le_of_ble_eq_true rfl⟩) (mX8_in l Z  et1) rfl rfl (Nat.le_of_ble_eq_true rfl) dX8_price_7 ?_
  refine g_bipush (pc := 10) C (v := (28 : Int32)) dX8_price_10 (by decide) ?_
  refine g_iload_n (pc := 12) C dX8_price_12 rfl 1 rfl ?_
  refine g_iconst (pc := 13) C (v := (3 : Int32)) dX8_price_13 (by decide) ?_
  obtain ⟨u2, eu2, h⟩ := bs h
  refine g_callVi (pc := 14) C (As := [.int t1, .int (28 : Int32), .int v1, .int (3 : Int32)]) (rest := []) (k := 0) (by rfl) (by rfl) (cwV 4 C.2.2.2.2.2.1 gX8_price_X8_puts rfl rfl rfl (by decide +kernel) ⟨Nat.le_of_ble_eq_true rfl, Nat.le_of_ble_eq_true rfl⟩) (mX8_puts l Z  eu2) rfl rfl (Nat.le_of_ble_eq_true rfl) dX8_price_14 ?_
  exact g_iret C dX8_price_17 (pfst h) (psnd h)
theorem mX8_price (l : Launch) (Z : Sh) {σ : Sg} {v1 : Int32} {u : Sg × Int32}  (h : fX8_price σ v1 = some u) : MI l Z layM yX8_price wsX8_price rX8_price [.ref (ad Z 0), .int v1] σ u.1 u.2 :=
  MI.of (cc := cX8_price) (maxL := 2) (ret := (some .int)) (by decide) rfl (Nat.le_of_ble_eq_true rfl) (fun p e s m below meth c C => kX8_price_e C  h)

def rX8_canBuy : Room := { frames := 2, cells := 0, slots := 0, locals := 44 }
theorem uX8_canBuy_X8 : ∀ w ∈ wsX80, w ∈ wsX8_canBuy := by decide +kernel
def fX8_canBuy (σ : Sg) (v1 : Int32) (v2 : Int32) : Option (Int32) := (fX8_ownerOf σ v2).bind fun t1 => if t1 = v1 then some (0 : Int32) else (rd (σ 1) 116 v1).bind fun t2 => (fX8_costOf σ v2).bind fun t3 => if t2 < t3 then some (0 : Int32) else some (1 : Int32)
set_option maxHeartbeats 1000000 in
set_option maxRecDepth 20000 in
theorem kX8_canBuy_e {p : Program} {l : Launch} {e : Env} {s : State} {m : MethodId} {args : Array Value} {below : List Frame} {meth : Method} {c : Code} {Z : Sh} (C : Cx p s m args meth c cX8_canBuy 3 wsX8_canBuy RX8 (some .boolean) Z layM) {σ : Sg} {v1 : Int32} {v2 : Int32} {u : Int32}  (h : fX8_canBuy σ v1 v2 = some u) : G p l e rX8_canBuy s m args below meth c 3 Z layM (MQ below (QI Z layM σ u s.heap.size) args s 0 0 (pA Z layM s.heap.size)) σ 0 [(0, .ref (ad Z 0)), (1, .int v1), (2, .int v2)] [] := by
  unfold fX8_canBuy at h
  refine g_aload_n (pc := 0) C dX8_canBuy_0 rfl 0 rfl ?_
  refine g_iload_n (pc := 1) C dX8_canBuy_1 rfl 2 rfl ?_
  obtain ⟨t1, et1, h⟩ := bs h
  refine g_callVi (pc := 2) C (As := [.int v2]) (rest := []) (k := 0) (by rfl) (by rfl) (cwV 1 C.2.2.2.2.2.1 gX8_canBuy_X8_ownerOf rfl rfl rfl (by decide +kernel) ⟨Nat.le_of_ble_eq_true rfl, Nat.le_of_ble_eq_true rfl⟩) (mX8_ownerOf l Z  et1) rfl rfl (Nat.le_of_ble_eq_true rfl) dX8_canBuy_2 ?_
  refine g_iload_n (pc := 5) C dX8_canBuy_5 rfl 1 rfl ?_
  refine g_icmp_eq (pc := 6) C (tgt := 27) dX8_canBuy_6 (by decide) h (fun hc6 h => ?_) (fun hc6 h => ?_)
  · refine g_iconst (pc := 27) C (v := (0 : Int32)) dX8_canBuy_27 (by decide) ?_
    exact g_zret C dX8_canBuy_28 rfl (rz0.trans h)
  · refine g_aload_n (pc := 9) C dX8_canBuy_9 rfl 0 rfl ?_
    refine g_getr (pc := 10) C (Cn := RX8) (T := TX8) (N := 32) (ci := 8) (k := 0) (j := 0) uX8_canBuy_X8 (by rfl) rfl (by decide) (by decide +kernel) (q := 1) rfl dX8_canBuy_10 ?_
    refine g_iload_n (pc := 13) C dX8_canBuy_13 rfl 1 rfl ?_
    obtain ⟨t2, et2, h⟩ := bs h
    refine g_iald (pc := 14) C (k := 1) (n := 116) (by rfl) et2 dX8_canBuy_14 ?_
    refine g_aload_n (pc := 15) C dX8_canBuy_15 rfl 0 rfl ?_
    refine g_iload_n (pc := 16) C dX8_canBuy_16 rfl 2 rfl ?_
    obtain ⟨t3, et3, h⟩ := bs h
    refine g_callVi (pc := 17) C (As := [.int v2]) (rest := [.int t2]) (k := 0) (by rfl) (by rfl) (cwV 1 C.2.2.2.2.2.1 gX8_canBuy_X8_costOf rfl rfl rfl (by decide +kernel) ⟨Nat.le_of_ble_eq_true rfl, Nat.le_of_ble_eq_true rfl⟩) (mX8_costOf l Z  et3) rfl rfl (Nat.le_of_ble_eq_true rfl) dX8_canBuy_17 ?_
    refine g_icmp_lt (pc := 20) C (tgt := 27) dX8_canBuy_20 (by decide) h (fun hc20 h => ?_) (fun hc20 h => ?_)
    · refine g_iconst (pc := 27) C (v := (0 : Int32)) dX8_canBuy_27 (by decide) ?_
      exact g_zret C dX8_canBuy_28 rfl (rz0.trans h)
    · refine g_iconst (pc := 23) C (v := (1 : Int32)) dX8_canBuy_23 (by decide) ?_
      refine g_goto (pc := 24) C (tgt := 28) dX8_canBuy_24 (by decide) ?_
      exact g_zret C dX8_canBuy_28 rfl (rz1.trans h)
theorem mX8_canBuy (l : Launch) (Z : Sh) {σ : Sg} {v1 : Int32} {v2 : Int32} {u : Int32}  (h : fX8_canBuy σ v1 v2 = some u) : MI l Z layM yX8_canBuy wsX8_canBuy rX8_canBuy [.ref (ad Z 0), .int v1, .int v2] σ σ u :=
  MI.of (cc := cX8_canBuy) (maxL := 3) (ret := (some .boolean)) (by decide) rfl (Nat.le_of_ble_eq_true rfl) (fun p e s m below meth c C => kX8_canBuy_e C  h)

def rX8_buys : Room := { frames := 3, cells := 0, slots := 0, locals := 66 }
theorem uX8_buys_X8 : ∀ w ∈ wsX80, w ∈ wsX8_buys := by decide +kernel
def fX8_buys_b83 (v1 : Int32) (v2 : Int32)  (σ : Sg) (v3 : Int32) : Option (Sg × Int32) := (rd (σ 1) 116 v1).bind fun t1 => (wr σ 1 116 v1 (t1 - v3)).bind fun σ2 => (wr σ2 1 116 ((22 : Int32) + v2) (v1 + (1 : Int32))).bind fun σ3 => (rd (σ3 1) 116 v1).bind fun t4 => some (σ3, t4)
def fX8_buys_b82 (v1 : Int32) (v2 : Int32)  (σ : Sg) (v3 : Int32) (s1 : Int32) (s2 : Int32) : Option (Sg × Int32) := (wr σ 1 116 s1 s2).bind fun σ1 => fX8_buys_b83 v1 v2 σ1 v3
def fX8_buys (σ : Sg) (v1 : Int32) (v2 : Int32) : Option (Sg × Int32) := (fX8_isLord σ v1).bind fun t1 => if t1 = 0 then some (σ, (-1 : Int32)) else (fX8_isBorough σ v2).bind fun t2 => if t2 = 0 then some (σ, (-1 : Int32)) else (fX8_canBuy σ v1 v2).bind fun t3 => if t3 = 0 then some (σ, (-2 : Int32)) else (fX8_costOf σ v2).bind fun t4 => (fX8_ownerOf σ v2).bind fun t5 => if t5 < 0 then fX8_buys_b83 v1 v2 σ t4 else (rd (σ 1) 116 t5).bind fun t6 => if (t6 + t4) ≤ (99 : Int32) then (rd (σ 1) 116 t5).bind fun t7 => fX8_buys_b82 v1 v2 σ t4 t5 (t7 + t4) else fX8_buys_b82 v1 v2 σ t4 t5 (99 : Int32)
set_option maxHeartbeats 1000000 in
set_option maxRecDepth 20000 in
theorem kX8_buys_b83 {p : Program} {l : Launch} {e : Env} {s : State} {m : MethodId} {args : Array Value} {below : List Frame} {meth : Method} {c : Code} {Z : Sh} (C : Cx p s m args meth c cX8_buys 5 wsX8_buys RX8 (some .int) Z layM) {v1 : Int32} {v2 : Int32} {u : Sg × Int32}   {σ : Sg} {v3 : Int32} (h : fX8_buys_b83 v1 v2 σ v3 = some u) : G p l e rX8_buys s m args below meth c 5 Z layM (MQ below (QI Z layM u.1 u.2 s.heap.size) args s 0 0 (pA Z layM s.heap.size)) σ 83 [(0, .ref (ad Z 0)), (1, .int v1), (2, .int v2), (3, .int v3)] [] := by
  unfold fX8_buys_b83 at h
  refine g_aload_n (pc := 83) C dX8_buys_83 rfl 0 rfl ?_
  refine g_getr (pc := 84) C (Cn := RX8) (T := TX8) (N := 32) (ci := 8) (k := 0) (j := 0) uX8_buys_X8 (by rfl) rfl (by decide) (by decide +kernel) (q := 1) rfl dX8_buys_84 ?_
  refine g_iload_n (pc := 87) C dX8_buys_87 rfl 1 rfl ?_
  refine g_dup2 (pc := 88) C rfl rfl dX8_buys_88 ?_
  obtain ⟨t1, et1, h⟩ := bs h
  refine g_iald (pc := 89) C (k := 1) (n := 116) (by rfl) et1 dX8_buys_89 ?_
  refine g_iload_n (pc := 90) C dX8_buys_90 rfl 3 rfl ?_
  refine g_isub (pc := 91) C dX8_buys_91 ?_
  obtain ⟨σ2, eσ2, h⟩ := bs h
  refine g_iast (pc := 92) C (k := 1) (n := 116) (by rfl) eσ2 dX8_buys_92 ?_
  refine g_aload_n (pc := 93) C dX8_buys_93 rfl 0 rfl ?_
  refine g_getr (pc := 94) C (Cn := RX8) (T := TX8) (N := 32) (ci := 8) (k := 0) (j := 0) uX8_buys_X8 (by rfl) rfl (by decide) (by decide +kernel) (q := 1) rfl dX8_buys_94 ?_
  refine g_bipush (pc := 97) C (v := (22 : Int32)) dX8_buys_97 (by decide) ?_
  refine g_iload_n (pc := 99) C dX8_buys_99 rfl 2 rfl ?_
  refine g_iadd (pc := 100) C dX8_buys_100 ?_
  refine g_iload_n (pc := 101) C dX8_buys_101 rfl 1 rfl ?_
  refine g_iconst (pc := 102) C (v := (1 : Int32)) dX8_buys_102 (by decide) ?_
  refine g_iadd (pc := 103) C dX8_buys_103 ?_
  obtain ⟨σ3, eσ3, h⟩ := bs h
  refine g_iast (pc := 104) C (k := 1) (n := 116) (by rfl) eσ3 dX8_buys_104 ?_
  refine g_aload_n (pc := 105) C dX8_buys_105 rfl 0 rfl ?_
  refine g_getr (pc := 106) C (Cn := RX8) (T := TX8) (N := 32) (ci := 8) (k := 0) (j := 0) uX8_buys_X8 (by rfl) rfl (by decide) (by decide +kernel) (q := 1) rfl dX8_buys_106 ?_
  refine g_iload_n (pc := 109) C dX8_buys_109 rfl 1 rfl ?_
  obtain ⟨t4, et4, h⟩ := bs h
  refine g_iald (pc := 110) C (k := 1) (n := 116) (by rfl) et4 dX8_buys_110 ?_
  exact g_iret C dX8_buys_111 (pfst h) (psnd h)
set_option maxHeartbeats 1000000 in
set_option maxRecDepth 20000 in
theorem kX8_buys_b82 {p : Program} {l : Launch} {e : Env} {s : State} {m : MethodId} {args : Array Value} {below : List Frame} {meth : Method} {c : Code} {Z : Sh} (C : Cx p s m args meth c cX8_buys 5 wsX8_buys RX8 (some .int) Z layM) {v1 : Int32} {v2 : Int32} {u : Sg × Int32}   {σ : Sg} {v3 : Int32} {s1 : Int32} {s2 : Int32} (h : fX8_buys_b82 v1 v2 σ v3 s1 s2 = some u) : G p l e rX8_buys s m args below meth c 5 Z layM (MQ below (QI Z layM u.1 u.2 s.heap.size) args s 0 0 (pA Z layM s.heap.size)) σ 82 [(0, .ref (ad Z 0)), (1, .int v1), (2, .int v2), (3, .int v3)] [.int s2, .int s1, .ref (ad Z 1)] := by
  unfold fX8_buys_b82 at h
  obtain ⟨σ1, eσ1, h⟩ := bs h
  refine g_iast (pc := 82) C (k := 1) (n := 116) (by rfl) eσ1 dX8_buys_82 ?_
  exact g_sub [0, 1, 2, 3] rfl (kX8_buys_b83 C    h)
set_option maxHeartbeats 1000000 in
set_option maxRecDepth 20000 in
theorem kX8_buys_e {p : Program} {l : Launch} {e : Env} {s : State} {m : MethodId} {args : Array Value} {below : List Frame} {meth : Method} {c : Code} {Z : Sh} (C : Cx p s m args meth c cX8_buys 5 wsX8_buys RX8 (some .int) Z layM) {σ : Sg} {v1 : Int32} {v2 : Int32} {u : Sg × Int32}  (h : fX8_buys σ v1 v2 = some u) : G p l e rX8_buys s m args below meth c 5 Z layM (MQ below (QI Z layM u.1 u.2 s.heap.size) args s 0 0 (pA Z layM s.heap.size)) σ 0 [(0, .ref (ad Z 0)), (1, .int v1), (2, .int v2)] [] := by
  unfold fX8_buys at h
  refine g_aload_n (pc := 0) C dX8_buys_0 rfl 0 rfl ?_
  refine g_iload_n (pc := 1) C dX8_buys_1 rfl 1 rfl ?_
  obtain ⟨t1, et1, h⟩ := bs h
  refine g_callVi (pc := 2) C (As := [.int v1]) (rest := []) (k := 0) (by rfl) (by rfl) (cwV 1 C.2.2.2.2.2.1 gX8_buys_X8_isLord rfl rfl rfl (by decide +kernel) ⟨Nat.le_of_ble_eq_true rfl, Nat.le_of_ble_eq_true rfl⟩) (mX8_isLord l Z  et1) rfl rfl (Nat.le_of_ble_eq_true rfl) dX8_buys_2 ?_
  refine g_if_eq (pc := 5) C (tgt := 16) dX8_buys_5 (by decide) h (fun hc5 h => ?_) (fun hc5 h => ?_)
  · refine g_iconst (pc := 16) C (v := (-1 : Int32)) dX8_buys_16 (by decide) ?_
    exact g_iret C dX8_buys_17 (pfst h) (psnd h)
  · refine g_aload_n (pc := 8) C dX8_buys_8 rfl 0 rfl ?_
    refine g_iload_n (pc := 9) C dX8_buys_9 rfl 2 rfl ?_
    obtain ⟨t2, et2, h⟩ := bs h
    refine g_callVi (pc := 10) C (As := [.int v2]) (rest := []) (k := 0) (by rfl) (by rfl) (cwV 1 C.2.2.2.2.2.1 gX8_buys_X8_isBorough rfl rfl rfl (by decide +kernel) ⟨Nat.le_of_ble_eq_true rfl, Nat.le_of_ble_eq_true rfl⟩) (mX8_isBorough l Z  et2) rfl rfl (Nat.le_of_ble_eq_true rfl) dX8_buys_10 ?_
    refine g_if_ne (pc := 13) C (tgt := 18) dX8_buys_13 (by decide) h (fun hc13 h => ?_) (fun hc13 h => ?_)
    · refine g_aload_n (pc := 18) C dX8_buys_18 rfl 0 rfl ?_
      refine g_iload_n (pc := 19) C dX8_buys_19 rfl 1 rfl ?_
      refine g_iload_n (pc := 20) C dX8_buys_20 rfl 2 rfl ?_
      obtain ⟨t3, et3, h⟩ := bs h
      refine g_callVi (pc := 21) C (As := [.int v1, .int v2]) (rest := []) (k := 0) (by rfl) (by rfl) (cwV 2 C.2.2.2.2.2.1 gX8_buys_X8_canBuy rfl rfl rfl (by decide +kernel) ⟨Nat.le_of_ble_eq_true rfl, Nat.le_of_ble_eq_true rfl⟩) (mX8_canBuy l Z  et3) rfl rfl (Nat.le_of_ble_eq_true rfl) dX8_buys_21 ?_
      refine g_if_ne (pc := 24) C (tgt := 30) dX8_buys_24 (by decide) h (fun hc24 h => ?_) (fun hc24 h => ?_)
      · refine g_aload_n (pc := 30) C dX8_buys_30 rfl 0 rfl ?_
        refine g_iload_n (pc := 31) C dX8_buys_31 rfl 2 rfl ?_
        obtain ⟨t4, et4, h⟩ := bs h
        refine g_callVi (pc := 32) C (As := [.int v2]) (rest := []) (k := 0) (by rfl) (by rfl) (cwV 1 C.2.2.2.2.2.1 gX8_buys_X8_costOf rfl rfl rfl (by decide +kernel) ⟨Nat.le_of_ble_eq_true rfl, Nat.le_of_ble_eq_true rfl⟩) (mX8_costOf l Z  et4) rfl rfl (Nat.le_of_ble_eq_true rfl) dX8_buys_32 ?_
        refine g_istore_n (pc := 35) C (lv2 := [(3, .int t4), (0, .ref (ad Z 0)), (1, .int v1), (2, .int v2)]) dX8_buys_35 rfl (by decide) rfl ?_
        refine g_aload_n (pc := 36) C dX8_buys_36 rfl 1 rfl ?_
        refine g_iload_n (pc := 37) C dX8_buys_37 rfl 3 rfl ?_
        obtain ⟨t5, et5, h⟩ := bs h
        refine g_callVi (pc := 38) C (As := [.int v2]) (rest := []) (k := 0) (by rfl) (by rfl) (cwV 1 C.2.2.2.2.2.1 gX8_buys_X8_ownerOf rfl rfl rfl (by decide +kernel) ⟨Nat.le_of_ble_eq_true rfl, Nat.le_of_ble_eq_true rfl⟩) (mX8_ownerOf l Z  et5) rfl rfl (Nat.le_of_ble_eq_true rfl) dX8_buys_38 ?_
        refine g_istore (pc := 41) C (lv2 := [(4, .int t5), (3, .int t4), (0, .ref (ad Z 0)), (1, .int v1), (2, .int v2)]) dX8_buys_41 (by decide) rfl ?_
        refine g_iload (pc := 43) C dX8_buys_43 0 rfl ?_
        refine g_if_lt (pc := 45) C (tgt := 83) dX8_buys_45 (by decide) h (fun hc45 h => ?_) (fun hc45 h => ?_)
        · exact g_sub [2, 3, 4, 1] rfl (kX8_buys_b83 C    h)
        · refine g_aload_n (pc := 48) C dX8_buys_48 rfl 2 rfl ?_
          refine g_getr (pc := 49) C (Cn := RX8) (T := TX8) (N := 32) (ci := 8) (k := 0) (j := 0) uX8_buys_X8 (by rfl) rfl (by decide) (by decide +kernel) (q := 1) rfl dX8_buys_49 ?_
          refine g_iload (pc := 52) C dX8_buys_52 0 rfl ?_
          refine g_aload_n (pc := 54) C dX8_buys_54 rfl 2 rfl ?_
          refine g_getr (pc := 55) C (Cn := RX8) (T := TX8) (N := 32) (ci := 8) (k := 0) (j := 0) uX8_buys_X8 (by rfl) rfl (by decide) (by decide +kernel) (q := 1) rfl dX8_buys_55 ?_
          refine g_iload (pc := 58) C dX8_buys_58 0 rfl ?_
          obtain ⟨t6, et6, h⟩ := bs h
          refine g_iald (pc := 60) C (k := 1) (n := 116) (by rfl) et6 dX8_buys_60 ?_
          refine g_iload_n (pc := 61) C dX8_buys_61 rfl 1 rfl ?_
          refine g_iadd (pc := 62) C dX8_buys_62 ?_
          refine g_bipush (pc := 63) C (v := (99 : Int32)) dX8_buys_63 (by decide) ?_
          refine g_icmp_le (pc := 65) C (tgt := 73) dX8_buys_65 (by decide) h (fun hc65 h => ?_) (fun hc65 h => ?_)
          · refine g_aload_n (pc := 73) C dX8_buys_73 rfl 2 rfl ?_
            refine g_getr (pc := 74) C (Cn := RX8) (T := TX8) (N := 32) (ci := 8) (k := 0) (j := 0) uX8_buys_X8 (by rfl) rfl (by decide) (by decide +kernel) (q := 1) rfl dX8_buys_74 ?_
            refine g_iload (pc := 77) C dX8_buys_77 0 rfl ?_
            obtain ⟨t7, et7, h⟩ := bs h
            refine g_iald (pc := 79) C (k := 1) (n := 116) (by rfl) et7 dX8_buys_79 ?_
            refine g_iload_n (pc := 80) C dX8_buys_80 rfl 1 rfl ?_
            refine g_iadd (pc := 81) C dX8_buys_81 ?_
            exact g_sub [2, 3, 4, 1] rfl (kX8_buys_b82 C    h)
          · refine g_bipush (pc := 68) C (v := (99 : Int32)) dX8_buys_68 (by decide) ?_
            refine g_goto (pc := 70) C (tgt := 82) dX8_buys_70 (by decide) ?_
            exact g_sub [2, 3, 4, 1] rfl (kX8_buys_b82 C    h)
      · refine g_bipush (pc := 27) C (v := (-2 : Int32)) dX8_buys_27 (by decide) ?_
        exact g_iret C dX8_buys_29 (pfst h) (psnd h)
    · refine g_iconst (pc := 16) C (v := (-1 : Int32)) dX8_buys_16 (by decide) ?_
      exact g_iret C dX8_buys_17 (pfst h) (psnd h)
theorem mX8_buys (l : Launch) (Z : Sh) {σ : Sg} {v1 : Int32} {v2 : Int32} {u : Sg × Int32}  (h : fX8_buys σ v1 v2 = some u) : MI l Z layM yX8_buys wsX8_buys rX8_buys [.ref (ad Z 0), .int v1, .int v2] σ u.1 u.2 :=
  MI.of (cc := cX8_buys) (maxL := 5) (ret := (some .int)) (by decide) rfl (Nat.le_of_ble_eq_true rfl) (fun p e s m below meth c C => kX8_buys_e C  h)

def rX8_buy : Room := { frames := 4, cells := 0, slots := 0, locals := 90 }
def fX8_buy (σ : Sg) (v1 : Int32) (v2 : Int32) : Option (Sg × Int32) := (fX8_buys σ v1 v2).bind fun u1 => some (u1.1, u1.2)
set_option maxHeartbeats 1000000 in
set_option maxRecDepth 20000 in
theorem kX8_buy_e {p : Program} {l : Launch} {e : Env} {s : State} {m : MethodId} {args : Array Value} {below : List Frame} {meth : Method} {c : Code} {Z : Sh} (C : Cx p s m args meth c cX8_buy 3 wsX8_buy RX8 (some .int) Z layM) {σ : Sg} {v1 : Int32} {v2 : Int32} {u : Sg × Int32}  (h : fX8_buy σ v1 v2 = some u) : G p l e rX8_buy s m args below meth c 3 Z layM (MQ below (QI Z layM u.1 u.2 s.heap.size) args s 0 0 (pA Z layM s.heap.size)) σ 0 [(0, .ref (ad Z 0)), (1, .int v1), (2, .int v2)] [] := by
  unfold fX8_buy at h
  refine g_aload_n (pc := 0) C dX8_buy_0 rfl 0 rfl ?_
  refine g_iload_n (pc := 1) C dX8_buy_1 rfl 1 rfl ?_
  refine g_iload_n (pc := 2) C dX8_buy_2 rfl 2 rfl ?_
  obtain ⟨u1, eu1, h⟩ := bs h
  refine g_callVi (pc := 3) C (As := [.int v1, .int v2]) (rest := []) (k := 0) (by rfl) (by rfl) (cwV 2 C.2.2.2.2.2.1 gX8_buy_X8_buys rfl rfl rfl (by decide +kernel) ⟨Nat.le_of_ble_eq_true rfl, Nat.le_of_ble_eq_true rfl⟩) (mX8_buys l Z  eu1) rfl rfl (Nat.le_of_ble_eq_true rfl) dX8_buy_3 ?_
  exact g_iret C dX8_buy_6 (pfst h) (psnd h)
theorem mX8_buy (l : Launch) (Z : Sh) {σ : Sg} {v1 : Int32} {v2 : Int32} {u : Sg × Int32}  (h : fX8_buy σ v1 v2 = some u) : MI l Z layM yX8_buy wsX8_buy rX8_buy [.ref (ad Z 0), .int v1, .int v2] σ u.1 u.2 :=
  MI.of (cc := cX8_buy) (maxL := 3) (ret := (some .int)) (by decide) rfl (Nat.le_of_ble_eq_true rfl) (fun p e s m below meth c C => kX8_buy_e C  h)
