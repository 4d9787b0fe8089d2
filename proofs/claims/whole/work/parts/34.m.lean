def rX8_ordersBy : Room := { frames := 2, cells := 0, slots := 0, locals := 47 }
theorem uX8_ordersBy_X8 : ∀ w ∈ wsX80, w ∈ wsX8_ordersBy := by decide +kernel
def fX8_ordersBy_l5 (σ : Sg) (v1 : Int32)  : Nat → Int64 → Int32 → Option (Int64)
  | 0, _, _ => none
  | n + 1, v2, v4 => if ((1 : Int32) <<< ((σ 0 22) &&& 31)) ≤ v4 then some v2 else (fX8_bitsOf v4).bind fun t1 => (fX8_swingsBy σ v1 v4).bind fun t2 => if t2 = 0 then fX8_ordersBy_l5 σ v1 n (v2 + (0 : Int64)) (v4 + 1) else (fX8_ordersOf t1).bind fun t3 => (fX8_ordersOf (((σ 0 22) - (1 : Int32)) - t1)).bind fun t4 => fX8_ordersBy_l5 σ v1 n (v2 + (t3 * t4)) (v4 + 1)
def fX8_ordersBy (σ : Sg) (v1 : Int32) : Option (Int64) := fX8_ordersBy_l5 σ v1 2000 (0 : Int64) (0 : Int32)
set_option maxHeartbeats 1000000 in
set_option maxRecDepth 20000 in
theorem kX8_ordersBy_l5 {p : Program} {l : Launch} {e : Env} {s : State} {m : MethodId} {args : Array Value} {below : List Frame} {meth : Method} {c : Code} {Z : Sh} (C : Cx p s m args meth c cX8_ordersBy 6 wsX8_ordersBy RX8 (some .long) Z layM) {σ : Sg} {v1 : Int32} {u : Int64}   : ∀ (n : Nat) (v2 : Int64) (v4 : Int32), fX8_ordersBy_l5 σ v1 n v2 v4 = some u → G p l e rX8_ordersBy s m args below meth c 6 Z layM (MQ below (QL Z layM σ u s.heap.size) args s 0 0 (pA Z layM s.heap.size)) σ 5 [(0, .ref (ad Z 0)), (1, .int v1), (2, .long v2), (4, .int v4)] [] := by
  intro n
  induction n with
  | zero => intro v2 v4 h; exact absurd h (by simp [fX8_ordersBy_l5])
  | succ n ih =>
    intro v2 v4 h
    rw [fX8_ordersBy_l5] at h
    refine g_iload (pc := 5) C dX8_ordersBy_5 3 rfl ?_
    refine g_iconst (pc := 7) C (v := (1 : Int32)) dX8_ordersBy_7 (by decide) ?_
    refine g_aload_n (pc := 8) C dX8_ordersBy_8 rfl 0 rfl ?_
    refine g_geti (pc := 9) C (Cn := RX8) (T := TX8) (N := 32) (ci := 8) (k := 0) (j := 22) uX8_ordersBy_X8 (by rfl) rfl (by decide) (by decide +kernel) (q := 0) rfl dX8_ordersBy_9 ?_
    refine g_ishl (pc := 12) C dX8_ordersBy_12 ?_
    refine g_icmp_ge (pc := 13) C (tgt := 64) dX8_ordersBy_13 (by decide) h (fun hc13 h => ?_) (fun hc13 h => ?_)
    · refine g_lload_n (pc := 64) C dX8_ordersBy_64 rfl 2 rfl ?_
      exact g_lret C dX8_ordersBy_65 rfl (Option.some.inj h)
    · refine g_iload (pc := 16) C dX8_ordersBy_16 3 rfl ?_
      obtain ⟨t1, et1, h⟩ := bs h
      refine g_callSi (pc := 18) C (As := [.int v4]) (rest := []) (va_cwS 1 C.2.2.2.2.2.1 gX8_ordersBy_X8_bitsOf rfl rfl rfl (by decide +kernel) ⟨Nat.le_of_ble_eq_true rfl, Nat.le_of_ble_eq_true rfl⟩) (mX8_bitsOf l Z  et1) rfl rfl (Nat.le_of_ble_eq_true rfl) dX8_ordersBy_18 ?_
      refine g_istore (pc := 21) C (lv2 := [(5, .int t1), (0, .ref (ad Z 0)), (1, .int v1), (2, .long v2), (4, .int v4)]) dX8_ordersBy_21 (by decide) rfl ?_
      refine g_lload_n (pc := 23) C dX8_ordersBy_23 rfl 3 rfl ?_
      refine g_aload_n (pc := 24) C dX8_ordersBy_24 rfl 1 rfl ?_
      refine g_iload_n (pc := 25) C dX8_ordersBy_25 rfl 2 rfl ?_
      refine g_iload (pc := 26) C dX8_ordersBy_26 4 rfl ?_
      obtain ⟨t2, et2, h⟩ := bs h
      refine g_callVi (pc := 28) C (As := [.int v1, .int v4]) (rest := [.long v2]) (k := 0) (by rfl) (by rfl) (cwV 2 C.2.2.2.2.2.1 gX8_ordersBy_X8_swingsBy rfl rfl rfl (by decide +kernel) ⟨Nat.le_of_ble_eq_true rfl, Nat.le_of_ble_eq_true rfl⟩) (mX8_swingsBy l Z  et2) rfl rfl (Nat.le_of_ble_eq_true rfl) dX8_ordersBy_28 ?_
      refine g_if_eq (pc := 31) C (tgt := 55) dX8_ordersBy_31 (by decide) h (fun hc31 h => ?_) (fun hc31 h => ?_)
      · refine g_lconst (pc := 55) C (v := (0 : Int64)) dX8_ordersBy_55 (by decide) ?_
        refine g_ladd (pc := 56) C dX8_ordersBy_56 ?_
        refine g_lstore_n (pc := 57) C (lv2 := [(2, .long (v2 + (0 : Int64))), (5, .int t1), (0, .ref (ad Z 0)), (1, .int v1), (4, .int v4)]) dX8_ordersBy_57 rfl (by decide) rfl ?_
        refine g_iinc (pc := 58) C (j := 4) (v := (v4 + 1)) (lv2 := [(4, .int (v4 + 1)), (2, .long (v2 + (0 : Int64))), (5, .int t1), (0, .ref (ad Z 0)), (1, .int v1)]) dX8_ordersBy_58 rfl rfl (by decide) rfl ?_
        refine g_goto (pc := 61) C (tgt := 5) dX8_ordersBy_61 (by decide) ?_
        exact g_sub [3, 4, 1, 0] rfl (ih _ _ h)
      · refine g_iload (pc := 34) C dX8_ordersBy_34 0 rfl ?_
        obtain ⟨t3, et3, h⟩ := bs h
        refine g_callSl (pc := 36) C (As := [.int t1]) (rest := [.long v2]) (va_cwS 1 C.2.2.2.2.2.1 gX8_ordersBy_X8_ordersOf rfl rfl rfl (by decide +kernel) ⟨Nat.le_of_ble_eq_true rfl, Nat.le_of_ble_eq_true rfl⟩) (mX8_ordersOf l Z  et3) rfl rfl (Nat.le_of_ble_eq_true rfl) dX8_ordersBy_36 ?_
        refine g_aload_n (pc := 39) C dX8_ordersBy_39 rfl 1 rfl ?_
        refine g_geti (pc := 40) C (Cn := RX8) (T := TX8) (N := 32) (ci := 8) (k := 0) (j := 22) uX8_ordersBy_X8 (by rfl) rfl (by decide) (by decide +kernel) (q := 0) rfl dX8_ordersBy_40 ?_
        refine g_iconst (pc := 43) C (v := (1 : Int32)) dX8_ordersBy_43 (by decide) ?_
        refine g_isub (pc := 44) C dX8_ordersBy_44 ?_
        refine g_iload (pc := 45) C dX8_ordersBy_45 0 rfl ?_
        refine g_isub (pc := 47) C dX8_ordersBy_47 ?_
        obtain ⟨t4, et4, h⟩ := bs h
        refine g_callSl (pc := 48) C (As := [.int (((σ 0 22) - (1 : Int32)) - t1)]) (rest := [.long t3, .long v2]) (va_cwS 1 C.2.2.2.2.2.1 gX8_ordersBy_X8_ordersOf rfl rfl rfl (by decide +kernel) ⟨Nat.le_of_ble_eq_true rfl, Nat.le_of_ble_eq_true rfl⟩) (mX8_ordersOf l Z  et4) rfl rfl (Nat.le_of_ble_eq_true rfl) dX8_ordersBy_48 ?_
        refine g_lmul (pc := 51) C dX8_ordersBy_51 ?_
        refine g_goto (pc := 52) C (tgt := 56) dX8_ordersBy_52 (by decide) ?_
        refine g_ladd (pc := 56) C dX8_ordersBy_56 ?_
        refine g_lstore_n (pc := 57) C (lv2 := [(2, .long (v2 + (t3 * t4))), (5, .int t1), (0, .ref (ad Z 0)), (1, .int v1), (4, .int v4)]) dX8_ordersBy_57 rfl (by decide) rfl ?_
        refine g_iinc (pc := 58) C (j := 4) (v := (v4 + 1)) (lv2 := [(4, .int (v4 + 1)), (2, .long (v2 + (t3 * t4))), (5, .int t1), (0, .ref (ad Z 0)), (1, .int v1)]) dX8_ordersBy_58 rfl rfl (by decide) rfl ?_
        refine g_goto (pc := 61) C (tgt := 5) dX8_ordersBy_61 (by decide) ?_
        exact g_sub [3, 4, 1, 0] rfl (ih _ _ h)
set_option maxHeartbeats 1000000 in
set_option maxRecDepth 20000 in
theorem kX8_ordersBy_e {p : Program} {l : Launch} {e : Env} {s : State} {m : MethodId} {args : Array Value} {below : List Frame} {meth : Method} {c : Code} {Z : Sh} (C : Cx p s m args meth c cX8_ordersBy 6 wsX8_ordersBy RX8 (some .long) Z layM) {σ : Sg} {v1 : Int32} {u : Int64}  (h : fX8_ordersBy σ v1 = some u) : G p l e rX8_ordersBy s m args below meth c 6 Z layM (MQ below (QL Z layM σ u s.heap.size) args s 0 0 (pA Z layM s.heap.size)) σ 0 [(0, .ref (ad Z 0)), (1, .int v1)] [] := by
  unfold fX8_ordersBy at h
  refine g_lconst (pc := 0) C (v := (0 : Int64)) dX8_ordersBy_0 (by decide) ?_
  refine g_lstore_n (pc := 1) C (lv2 := [(2, .long (0 : Int64)), (0, .ref (ad Z 0)), (1, .int v1)]) dX8_ordersBy_1 rfl (by decide) rfl ?_
  refine g_iconst (pc := 2) C (v := (0 : Int32)) dX8_ordersBy_2 (by decide) ?_
  refine g_istore (pc := 3) C (lv2 := [(4, .int (0 : Int32)), (2, .long (0 : Int64)), (0, .ref (ad Z 0)), (1, .int v1)]) dX8_ordersBy_3 (by decide) rfl ?_
  exact g_sub [2, 3, 1, 0] rfl (kX8_ordersBy_l5 C   _ _ _ h)
theorem mX8_ordersBy (l : Launch) (Z : Sh) {σ : Sg} {v1 : Int32} {u : Int64}  (h : fX8_ordersBy σ v1 = some u) : ML l Z layM yX8_ordersBy wsX8_ordersBy rX8_ordersBy [.ref (ad Z 0), .int v1] σ σ u :=
  ML.of (cc := cX8_ordersBy) (maxL := 6) (ret := (some .long)) (by decide) rfl (Nat.le_of_ble_eq_true rfl) (fun p e s m below meth c C => kX8_ordersBy_e C  h)

def rX8_share : Room := { frames := 4, cells := 0, slots := 0, locals := 88 }
theorem uX8_share_X8 : ∀ w ∈ wsX80, w ∈ wsX8_share := by decide +kernel
def fX8_share (σ : Sg) (v1 : Int32) (v2 : Int32) : Option (Sg × Int64) := (fX8_isLord σ v1).bind fun t1 => if t1 = 0 then some (σ, (-1 : Int64)) else (fX8_in v2.toInt64 (0 : Int64) (1 : Int64)).bind fun t2 => if t2 = 0 then some (σ, (-1 : Int64)) else (fX8_laysPlayers σ (-4 : Int32)).bind fun u3 => (fX8_ordersBy u3.1 v1).bind fun t4 => (fX8_ordersOf (u3.1 0 22)).bind fun t5 => (fX8_lowest t4 t5 v2).bind fun t6 => some (u3.1, t6)
set_option maxHeartbeats 1000000 in
set_option maxRecDepth 20000 in
theorem kX8_share_e {p : Program} {l : Launch} {e : Env} {s : State} {m : MethodId} {args : Array Value} {below : List Frame} {meth : Method} {c : Code} {Z : Sh} (C : Cx p s m args meth c cX8_share 3 wsX8_share RX8 (some .long) Z layM) {σ : Sg} {v1 : Int32} {v2 : Int32} {u : Sg × Int64}  (h : fX8_share σ v1 v2 = some u) : G p l e rX8_share s m args below meth c 3 Z layM (MQ below (QL Z layM u.1 u.2 s.heap.size) args s 0 0 (pA Z layM s.heap.size)) σ 0 [(0, .ref (ad Z 0)), (1, .int v1), (2, .int v2)] [] := by
  unfold fX8_share at h
  refine g_aload_n (pc := 0) C dX8_share_0 rfl 0 rfl ?_
  refine g_iload_n (pc := 1) C dX8_share_1 rfl 1 rfl ?_
  obtain ⟨t1, et1, h⟩ := bs h
  refine g_callVi (pc := 2) C (As := [.int v1]) (rest := []) (k := 0) (by rfl) (by rfl) (cwV 1 C.2.2.2.2.2.1 gX8_share_X8_isLord rfl rfl rfl (by decide +kernel) ⟨Nat.le_of_ble_eq_true rfl, Nat.le_of_ble_eq_true rfl⟩) (mX8_isLord l Z  et1) rfl rfl (Nat.le_of_ble_eq_true rfl) dX8_share_2 ?_
  refine g_if_eq (pc := 5) C (tgt := 18) dX8_share_5 (by decide) h (fun hc5 h => ?_) (fun hc5 h => ?_)
  · refine g_ldc2 (pc := 18) C (v := (-1 : Int64)) (by decide +kernel) dX8_share_18 ?_
    exact g_lret C dX8_share_21 (pfst h) (psnd h)
  · refine g_iload_n (pc := 8) C dX8_share_8 rfl 2 rfl ?_
    refine g_i2l (pc := 9) C dX8_share_9 ?_
    refine g_lconst (pc := 10) C (v := (0 : Int64)) dX8_share_10 (by decide) ?_
    refine g_lconst (pc := 11) C (v := (1 : Int64)) dX8_share_11 (by decide) ?_
    obtain ⟨t2, et2, h⟩ := bs h
    refine g_callSi (pc := 12) C (As := [.long v2.toInt64, .long (0 : Int64), .long (1 : Int64)]) (rest := []) (va_cwS 3 C.2.2.2.2.2.1 gX8_share_X8_in rfl rfl rfl (by decide +kernel) ⟨Nat.le_of_ble_eq_true rfl, Nat.le_of_ble_eq_true rfl⟩) (mX8_in l Z  et2) rfl rfl (Nat.le_of_ble_eq_true rfl) dX8_share_12 ?_
    refine g_if_ne (pc := 15) C (tgt := 22) dX8_share_15 (by decide) h (fun hc15 h => ?_) (fun hc15 h => ?_)
    · refine g_aload_n (pc := 22) C dX8_share_22 rfl 0 rfl ?_
      refine g_bipush (pc := 23) C (v := (-4 : Int32)) dX8_share_23 (by decide) ?_
      obtain ⟨u3, eu3, h⟩ := bs h
      refine g_callVi (pc := 25) C (As := [.int (-4 : Int32)]) (rest := []) (k := 0) (by rfl) (by rfl) (cwV 1 C.2.2.2.2.2.1 gX8_share_X8_laysPlayers rfl rfl rfl (by decide +kernel) ⟨Nat.le_of_ble_eq_true rfl, Nat.le_of_ble_eq_true rfl⟩) (mX8_laysPlayers l Z  eu3) rfl rfl (Nat.le_of_ble_eq_true rfl) dX8_share_25 ?_
      refine g_pop (pc := 28) C rfl dX8_share_28 ?_
      refine g_aload_n (pc := 29) C dX8_share_29 rfl 0 rfl ?_
      refine g_iload_n (pc := 30) C dX8_share_30 rfl 1 rfl ?_
      obtain ⟨t4, et4, h⟩ := bs h
      refine g_callVl (pc := 31) C (As := [.int v1]) (rest := []) (k := 0) (by rfl) (by rfl) (cwV 1 C.2.2.2.2.2.1 gX8_share_X8_ordersBy rfl rfl rfl (by decide +kernel) ⟨Nat.le_of_ble_eq_true rfl, Nat.le_of_ble_eq_true rfl⟩) (mX8_ordersBy l Z  et4) rfl rfl (Nat.le_of_ble_eq_true rfl) dX8_share_31 ?_
      refine g_aload_n (pc := 34) C dX8_share_34 rfl 0 rfl ?_
      refine g_geti (pc := 35) C (Cn := RX8) (T := TX8) (N := 32) (ci := 8) (k := 0) (j := 22) uX8_share_X8 (by rfl) rfl (by decide) (by decide +kernel) (q := 0) rfl dX8_share_35 ?_
      obtain ⟨t5, et5, h⟩ := bs h
      refine g_callSl (pc := 38) C (As := [.int (u3.1 0 22)]) (rest := [.long t4]) (va_cwS 1 C.2.2.2.2.2.1 gX8_share_X8_ordersOf rfl rfl rfl (by decide +kernel) ⟨Nat.le_of_ble_eq_true rfl, Nat.le_of_ble_eq_true rfl⟩) (mX8_ordersOf l Z  et5) rfl rfl (Nat.le_of_ble_eq_true rfl) dX8_share_38 ?_
      refine g_iload_n (pc := 41) C dX8_share_41 rfl 2 rfl ?_
      obtain ⟨t6, et6, h⟩ := bs h
      refine g_callSl (pc := 42) C (As := [.long t4, .long t5, .int v2]) (rest := []) (va_cwS 3 C.2.2.2.2.2.1 gX8_share_X8_lowest rfl rfl rfl (by decide +kernel) ⟨Nat.le_of_ble_eq_true rfl, Nat.le_of_ble_eq_true rfl⟩) (mX8_lowest l Z  et6) rfl rfl (Nat.le_of_ble_eq_true rfl) dX8_share_42 ?_
      exact g_lret C dX8_share_45 (pfst h) (psnd h)
    · refine g_ldc2 (pc := 18) C (v := (-1 : Int64)) (by decide +kernel) dX8_share_18 ?_
      exact g_lret C dX8_share_21 (pfst h) (psnd h)
theorem mX8_share (l : Launch) (Z : Sh) {σ : Sg} {v1 : Int32} {v2 : Int32} {u : Sg × Int64}  (h : fX8_share σ v1 v2 = some u) : ML l Z layM yX8_share wsX8_share rX8_share [.ref (ad Z 0), .int v1, .int v2] σ u.1 u.2 :=
  ML.of (cc := cX8_share) (maxL := 3) (ret := (some .long)) (by decide) rfl (Nat.le_of_ble_eq_true rfl) (fun p e s m below meth c C => kX8_share_e C  h)

def rX8_alone : Room := { frames := 4, cells := 0, slots := 0, locals := 88 }
theorem uX8_alone_X8 : ∀ w ∈ wsX80, w ∈ wsX8_alone := by decide +kernel
def fX8_alone (σ : Sg) (v1 : Int32) (v2 : Int32) : Option (Sg × Int64) := (fX8_isBorough σ v1).bind fun t1 => if t1 = 0 then some (σ, (-1 : Int64)) else (fX8_in v2.toInt64 (0 : Int64) (1 : Int64)).bind fun t2 => if t2 = 0 then some (σ, (-1 : Int64)) else (fX8_ownerOf σ v1).bind fun t3 => if t3 < 0 then (fX8_laysPlayers σ v1).bind fun u4 => (fX8_ordersBy u4.1 u4.2).bind fun t5 => (fX8_ordersOf (u4.1 0 22)).bind fun t6 => (fX8_lowest t5 t6 v2).bind fun t7 => some (u4.1, t7) else some (σ, (-2 : Int64))
set_option maxHeartbeats 1000000 in
set_option maxRecDepth 20000 in
theorem kX8_alone_e {p : Program} {l : Launch} {e : Env} {s : State} {m : MethodId} {args : Array Value} {below : List Frame} {meth : Method} {c : Code} {Z : Sh} (C : Cx p s m args meth c cX8_alone 4 wsX8_alone RX8 (some .long) Z layM) {σ : Sg} {v1 : Int32} {v2 : Int32} {u : Sg × Int64}  (h : fX8_alone σ v1 v2 = some u) : G p l e rX8_alone s m args below meth c 4 Z layM (MQ below (QL Z layM u.1 u.2 s.heap.size) args s 0 0 (pA Z layM s.heap.size)) σ 0 [(0, .ref (ad Z 0)), (1, .int v1), (2, .int v2)] [] := by
  unfold fX8_alone at h
  refine g_aload_n (pc := 0) C dX8_alone_0 rfl 0 rfl ?_
  refine g_iload_n (pc := 1) C dX8_alone_1 rfl 1 rfl ?_
  obtain ⟨t1, et1, h⟩ := bs h
  refine g_callVi (pc := 2) C (As := [.int v1]) (rest := []) (k := 0) (by rfl) (by rfl) (cwV 1 C.2.2.2.2.2.1 gX8_alone_X8_isBorough rfl rfl rfl (by decide +kernel) ⟨Nat.le_of_ble_eq_true rfl, Nat.le_of_ble_eq_true rfl⟩) (mX8_isBorough l Z  et1) rfl rfl (Nat.le_of_ble_eq_true rfl) dX8_alone_2 ?_
  refine g_if_eq (pc := 5) C (tgt := 18) dX8_alone_5 (by decide) h (fun hc5 h => ?_) (fun hc5 h => ?_)
  · refine g_ldc2 (pc := 18) C (v := (-1 : Int64)) (by decide +kernel) dX8_alone_18 ?_
    exact g_lret C dX8_alone_21 (pfst h) (psnd h)
  · refine g_iload_n (pc := 8) C dX8_alone_8 rfl 2 rfl ?_
    refine g_i2l (pc := 9) C dX8_alone_9 ?_
    refine g_lconst (pc := 10) C (v := (0 : Int64)) dX8_alone_10 (by decide) ?_
    refine g_lconst (pc := 11) C (v := (1 : Int64)) dX8_alone_11 (by decide) ?_
    obtain ⟨t2, et2, h⟩ := bs h
    refine g_callSi (pc := 12) C (As := [.long v2.toInt64, .long (0 : Int64), .long (1 : Int64)]) (rest := []) (va_cwS 3 C.2.2.2.2.2.1 gX8_alone_X8_in rfl rfl rfl (by decide +kernel) ⟨Nat.le_of_ble_eq_true rfl, Nat.le_of_ble_eq_true rfl⟩) (mX8_in l Z  et2) rfl rfl (Nat.le_of_ble_eq_true rfl) dX8_alone_12 ?_
    refine g_if_ne (pc := 15) C (tgt := 22) dX8_alone_15 (by decide) h (fun hc15 h => ?_) (fun hc15 h => ?_)
    · refine g_aload_n (pc := 22) C dX8_alone_22 rfl 0 rfl ?_
      refine g_iload_n (pc := 23) C dX8_alone_23 rfl 1 rfl ?_
      obtain ⟨t3, et3, h⟩ := bs h
      refine g_callVi (pc := 24) C (As := [.int v1]) (rest := []) (k := 0) (by rfl) (by rfl) (cwV 1 C.2.2.2.2.2.1 gX8_alone_X8_ownerOf rfl rfl rfl (by decide +kernel) ⟨Nat.le_of_ble_eq_true rfl, Nat.le_of_ble_eq_true rfl⟩) (mX8_ownerOf l Z  et3) rfl rfl (Nat.le_of_ble_eq_true rfl) dX8_alone_24 ?_
      refine g_if_lt (pc := 27) C (tgt := 34) dX8_alone_27 (by decide) h (fun hc27 h => ?_) (fun hc27 h => ?_)
      · refine g_aload_n (pc := 34) C dX8_alone_34 rfl 0 rfl ?_
        refine g_iload_n (pc := 35) C dX8_alone_35 rfl 1 rfl ?_
        obtain ⟨u4, eu4, h⟩ := bs h
        refine g_callVi (pc := 36) C (As := [.int v1]) (rest := []) (k := 0) (by rfl) (by rfl) (cwV 1 C.2.2.2.2.2.1 gX8_alone_X8_laysPlayers rfl rfl rfl (by decide +kernel) ⟨Nat.le_of_ble_eq_true rfl, Nat.le_of_ble_eq_true rfl⟩) (mX8_laysPlayers l Z  eu4) rfl rfl (Nat.le_of_ble_eq_true rfl) dX8_alone_36 ?_
        refine g_istore_n (pc := 39) C (lv2 := [(3, .int u4.2), (0, .ref (ad Z 0)), (1, .int v1), (2, .int v2)]) dX8_alone_39 rfl (by decide) rfl ?_
        refine g_aload_n (pc := 40) C dX8_alone_40 rfl 1 rfl ?_
        refine g_iload_n (pc := 41) C dX8_alone_41 rfl 0 rfl ?_
        obtain ⟨t5, et5, h⟩ := bs h
        refine g_callVl (pc := 42) C (As := [.int u4.2]) (rest := []) (k := 0) (by rfl) (by rfl) (cwV 1 C.2.2.2.2.2.1 gX8_alone_X8_ordersBy rfl rfl rfl (by decide +kernel) ⟨Nat.le_of_ble_eq_true rfl, Nat.le_of_ble_eq_true rfl⟩) (mX8_ordersBy l Z  et5) rfl rfl (Nat.le_of_ble_eq_true rfl) dX8_alone_42 ?_
        refine g_aload_n (pc := 45) C dX8_alone_45 rfl 1 rfl ?_
        refine g_geti (pc := 46) C (Cn := RX8) (T := TX8) (N := 32) (ci := 8) (k := 0) (j := 22) uX8_alone_X8 (by rfl) rfl (by decide) (by decide +kernel) (q := 0) rfl dX8_alone_46 ?_
        obtain ⟨t6, et6, h⟩ := bs h
        refine g_callSl (pc := 49) C (As := [.int (u4.1 0 22)]) (rest := [.long t5]) (va_cwS 1 C.2.2.2.2.2.1 gX8_alone_X8_ordersOf rfl rfl rfl (by decide +kernel) ⟨Nat.le_of_ble_eq_true rfl, Nat.le_of_ble_eq_true rfl⟩) (mX8_ordersOf l Z  et6) rfl rfl (Nat.le_of_ble_eq_true rfl) dX8_alone_49 ?_
        refine g_iload_n (pc := 52) C dX8_alone_52 rfl 3 rfl ?_
        obtain ⟨t7, et7, h⟩ := bs h
        refine g_callSl (pc := 53) C (As := [.long t5, .long t6, .int v2]) (rest := []) (va_cwS 3 C.2.2.2.2.2.1 gX8_alone_X8_lowest rfl rfl rfl (by decide +kernel) ⟨Nat.le_of_ble_eq_true rfl, Nat.le_of_ble_eq_true rfl⟩) (mX8_lowest l Z  et7) rfl rfl (Nat.le_of_ble_eq_true rfl) dX8_alone_53 ?_
        exact g_lret C dX8_alone_56 (pfst h) (psnd h)
      · refine g_ldc2 (pc := 30) C (v := (-2 : Int64)) (by decide +kernel) dX8_alone_30 ?_
        exact g_lret C dX8_alone_33 (pfst h) (psnd h)
    · refine g_ldc2 (pc := 18) C (v := (-1 : Int64)) (by decide +kernel) dX8_alone_18 ?_
      exact g_lret C dX8_alone_21 (pfst h) (psnd h)
theorem mX8_alone (l : Launch) (Z : Sh) {σ : Sg} {v1 : Int32} {v2 : Int32} {u : Sg × Int64}  (h : fX8_alone σ v1 v2 = some u) : ML l Z layM yX8_alone wsX8_alone rX8_alone [.ref (ad Z 0), .int v1, .int v2] σ u.1 u.2 :=
  ML.of (cc := cX8_alone) (maxL := 4) (ret := (some .long)) (by decide) rfl (Nat.le_of_ble_eq_true rfl) (fun p e s m below meth c C => kX8_alone_e C  h)

def rX8_costsOf : Room := { frames := 2, cells := 0, slots := 0, locals := 44 }
theorem uX8_costsOf_X8 : ∀ w ∈ wsX80, w ∈ wsX8_costsOf := by decide +kernel
def fX8_costsOf_l4 (σ : Sg) (v1 : Int32)  : Nat → Int32 → Int32 → Option (Int32)
  | 0, _, _ => none
  | n + 1, v2, v3 => if (σ 0 2) ≤ v3 then some v2 else if ((v1 >>> (v3 &&& 31)) &&& (1 : Int32)) = (1 : Int32) then (fX8_costOf σ v3).bind fun t1 => fX8_costsOf_l4 σ v1 n (v2 + t1) (v3 + 1) else fX8_costsOf_l4 σ v1 n (v2 + (0 : Int32)) (v3 + 1)
def fX8_costsOf (σ : Sg) (v1 : Int32) : Option (Int32) := fX8_costsOf_l4 σ v1 2000 (0 : Int32) (0 : Int32)
set_option maxHeartbeats 1000000 in
set_option maxRecDepth 20000 in
theorem kX8_costsOf_l4 {p : Program} {l : Launch} {e : Env} {s : State} {m : MethodId} {args : Array Value} {below : List Frame} {meth : Method} {c : Code} {Z : Sh} (C : Cx p s m args meth c cX8_costsOf 4 wsX8_costsOf RX8 (some .int) Z layM) {σ : Sg} {v1 : Int32} {u : Int32}   : ∀ (n : Nat) (v2 : Int32) (v3 : Int32), fX8_costsOf_l4 σ v1 n v2 v3 = some u → G p l e rX8_costsOf s m args below meth c 4 Z layM (MQ below (QI Z layM σ u s.heap.size) args s 0 0 (pA Z layM s.heap.size)) σ 4 [(0, .ref (ad Z 0)), (1, .int v1), (2, .int v2), (3, .int v3)] [] := by
  intro n
  induction n with
  | zero => intro v2 v3 h; exact absurd h (by simp [fX8_costsOf_l4])
  | succ n ih =>
    intro v2 v3 h
    rw [fX8_costsOf_l4] at h
    refine g_iload_n (pc := 4) C dX8_costsOf_4 rfl 3 rfl ?_
    refine g_aload_n (pc := 5) C dX8_costsOf_5 rfl 0 rfl ?_
    refine g_geti (pc := 6) C (Cn := RX8) (T := TX8) (N := 32) (ci := 8) (k := 0) (j := 2) uX8_costsOf_X8 (by rfl) rfl (by decide) (by decide +kernel) (q := 0) rfl dX8_costsOf_6 ?_
    refine g_icmp_ge (pc := 9) C (tgt := 39) dX8_costsOf_9 (by decide) h (fun hc9 h => ?_) (fun hc9 h => ?_)
    · refine g_iload_n (pc := 39) C dX8_costsOf_39 rfl 2 rfl ?_
      exact g_iret C dX8_costsOf_40 rfl (Option.some.inj h)
    · refine g_iload_n (pc := 12) C dX8_costsOf_12 rfl 2 rfl ?_
      refine g_iload_n (pc := 13) C dX8_costsOf_13 rfl 1 rfl ?_
      refine g_iload_n (pc := 14) C dX8_costsOf_14 rfl 3 rfl ?_
      refine g_ishr (pc := 15) C dX8_costsOf_15 ?_
      refine g_iconst (pc := 16) C (v := (1 : Int32)) dX8_costsOf_16 (by decide) ?_
      refine g_iand (pc := 17) C dX8_costsOf_17 ?_
      refine g_iconst (pc := 18) C (v := (1 : Int32)) dX8_costsOf_18 (by decide) ?_
      refine g_icmp_ne (pc := 19) C (tgt := 30) dX8_costsOf_19 (by decide) h (fun hc19 h => ?_) (fun hc19 h => ?_)
      · refine g_iconst (pc := 30) C (v := (0 : Int32)) dX8_costsOf_30 (by decide) ?_
        refine g_iadd (pc := 31) C dX8_costsOf_31 ?_
        refine g_istore_n (pc := 32) C (lv2 := [(2, .int (v2 + (0 : Int32))), (0, .ref (ad Z 0)), (1, .int v1), (3, .int v3)]) dX8_costsOf_32 rfl (by decide) rfl ?_
        refine g_iinc (pc := 33) C (j := 3) (v := (v3 + 1)) (lv2 := [(3, .int (v3 + 1)), (2, .int (v2 + (0 : Int32))), (0, .ref (ad Z 0)), (1, .int v1)]) dX8_costsOf_33 rfl rfl (by decide) rfl ?_
        refine g_goto (pc := 36) C (tgt := 4) dX8_costsOf_36 (by decide) ?_
        exact g_sub [2, 3, 1, 0] rfl (ih _ _ h)
      · refine g_aload_n (pc := 22) C dX8_costsOf_22 rfl 0 rfl ?_
        refine g_iload_n (pc := 23) C dX8_costsOf_23 rfl 3 rfl ?_
        obtain ⟨t1, et1, h⟩ := bs h
        refine g_callVi (pc := 24) C (As := [.int v3]) (rest := [.int v2]) (k := 0) (by rfl) (by rfl) (cwV 1 C.2.2.2.2.2.1 gX8_costsOf_X8_costOf rfl rfl rfl (by decide +kernel) ⟨Nat.le_of_ble_eq_true rfl, Nat.le_of_ble_eq_true rfl⟩) (mX8_costOf l Z  et1) rfl rfl (Nat.le_of_ble_eq_true rfl) dX8_costsOf_24 ?_
        refine g_goto (pc := 27) C (tgt := 31) dX8_costsOf_27 (by decide) ?_
        refine g_iadd (pc := 31) C dX8_costsOf_31 ?_
        refine g_istore_n (pc := 32) C (lv2 := [(2, .int (v2 + t1)), (0, .ref (ad Z 0)), (1, .int v1), (3, .int v3)]) dX8_costsOf_32 rfl (by decide) rfl ?_
        refine g_iinc (pc := 33) C (j := 3) (v := (v3 + 1)) (lv2 := [(3, .int (v3 + 1)), (2, .int (v2 + t1)), (0, .ref (ad Z 0)), (1, .int v1)]) dX8_costsOf_33 rfl rfl (by decide) rfl ?_
        refine g_goto (pc := 36) C (tgt := 4) dX8_costsOf_36 (by decide) ?_
        exact g_sub [2, 3, 1, 0] rfl (ih _ _ h)
set_option maxHeartbeats 1000000 in
set_option maxRecDepth 20000 in
theorem kX8_costsOf_e {p : Program} {l : Launch} {e : Env} {s : State} {m : MethodId} {args : Array Value} {below : List Frame} {meth : Method} {c : Code} {Z : Sh} (C : Cx p s m args meth c cX8_costsOf 4 wsX8_costsOf RX8 (some .int) Z layM) {σ : Sg} {v1 : Int32} {u : Int32}  (h : fX8_costsOf σ v1 = some u) : G p l e rX8_costsOf s m args below meth c 4 Z layM (MQ below (QI Z layM σ u s.heap.size) args s 0 0 (pA Z layM s.heap.size)) σ 0 [(0, .ref (ad Z 0)), (1, .int v1)] [] := by
  unfold fX8_costsOf at h
  refine g_iconst (pc := 0) C (v := (0 : Int32)) dX8_costsOf_0 (by decide) ?_
  refine g_istore_n (pc := 1) C (lv2 := [(2, .int (0 : Int32)), (0, .ref (ad Z 0)), (1, .int v1)]) dX8_costsOf_1 rfl (by decide) rfl ?_
  refine g_iconst (pc := 2) C (v := (0 : Int32)) dX8_costsOf_2 (by decide) ?_
  refine g_istore_n (pc := 3) C (lv2 := [(3, .int (0 : Int32)), (2, .int (0 : Int32)), (0, .ref (ad Z 0)), (1, .int v1)]) dX8_costsOf_3 rfl (by decide) rfl ?_
  exact g_sub [2, 3, 1, 0] rfl (kX8_costsOf_l4 C   _ _ _ h)
theorem mX8_costsOf (l : Launch) (Z : Sh) {σ : Sg} {v1 : Int32} {u : Int32}  (h : fX8_costsOf σ v1 = some u) : MI l Z layM yX8_costsOf wsX8_costsOf rX8_costsOf [.ref (ad Z 0), .int v1] σ σ u :=
  MI.of (cc := cX8_costsOf) (maxL := 4) (ret := (some .int)) (by decide) rfl (Nat.le_of_ble_eq_true rfl) (fun p e s m below meth c C => kX8_costsOf_e C  h)

def rX8_cheapest : Room := { frames := 3, cells := 0, slots := 0, locals := 67 }
def fX8_cheapest_b99 (σ : Sg) (v1 : Int32) (v2 : Int32) (v3 : Int32) (k11 : Int32 → Int32 → Int32 → Option (Int32)) (v4 : Int32) (v6 : Int32) (v8 : Int32) (s0 : Int32) : Option (Int32) := if v8 = 0 then k11 v4 s0 (v6 + 1) else (fX8_costsOf σ v6).bind fun t1 => k11 t1 s0 (v6 + 1)
def fX8_cheapest_b85 (σ : Sg) (v1 : Int32) (v2 : Int32) (v3 : Int32) (k11 : Int32 → Int32 → Int32 → Option (Int32)) (v4 : Int32) (v5 : Int32) (v6 : Int32) (s0 : Int32) : Option (Int32) := if s0 = 0 then fX8_cheapest_b99 σ v1 v2 v3 k11 v4 v6 s0 v5 else fX8_cheapest_b99 σ v1 v2 v3 k11 v4 v6 s0 v6
def fX8_cheapest_b80 (σ : Sg) (v1 : Int32) (v2 : Int32) (v3 : Int32) (k11 : Int32 → Int32 → Int32 → Option (Int32)) (v4 : Int32) (v5 : Int32) (v6 : Int32) : Option (Int32) := fX8_cheapest_b85 σ v1 v2 v3 k11 v4 v5 v6 (1 : Int32)
def fX8_cheapest_b84 (σ : Sg) (v1 : Int32) (v2 : Int32) (v3 : Int32) (k11 : Int32 → Int32 → Int32 → Option (Int32)) (v4 : Int32) (v5 : Int32) (v6 : Int32) : Option (Int32) := fX8_cheapest_b85 σ v1 v2 v3 k11 v4 v5 v6 (0 : Int32)
def fX8_cheapest_b55 (σ : Sg) (v1 : Int32) (v2 : Int32) (v3 : Int32) (k11 : Int32 → Int32 → Int32 → Option (Int32)) (v4 : Int32) (v5 : Int32) (v6 : Int32) (s0 : Int32) : Option (Int32) := if s0 = 0 then fX8_cheapest_b84 σ v1 v2 v3 k11 v4 v5 v6 else if v5 = (-4 : Int32) then fX8_cheapest_b80 σ v1 v2 v3 k11 v4 v5 v6 else (fX8_costsOf σ v6).bind fun t1 => if v4 ≤ t1 then fX8_cheapest_b84 σ v1 v2 v3 k11 v4 v5 v6 else fX8_cheapest_b80 σ v1 v2 v3 k11 v4 v5 v6
def fX8_cheapest_b54 (σ : Sg) (v1 : Int32) (v2 : Int32) (v3 : Int32) (k11 : Int32 → Int32 → Int32 → Option (Int32)) (v4 : Int32) (v5 : Int32) (v6 : Int32) : Option (Int32) := fX8_cheapest_b55 σ v1 v2 v3 k11 v4 v5 v6 (0 : Int32)
def fX8_cheapest_l11 (σ : Sg) (v1 : Int32) (v2 : Int32) (v3 : Int32)  : Nat → Int32 → Int32 → Int32 → Option (Int32)
  | 0, _, _, _ => none
  | n + 1, v4, v5, v6 => (fX8_all σ).bind fun t1 => if t1 < v6 then if v3 = 0 then some v4 else some v5 else if (v6 &&& (v2 ^^^ (-1 : Int32))) = 0 then (fX8_seatsOf σ (v1 ||| v6)).bind fun t2 => (fX8_all σ).bind fun t3 => (fX8_seatsOf σ t3).bind fun t4 => if ((2 : Int32) * t2) ≤ t4 then fX8_cheapest_b54 σ v1 v2 v3 (fun v4 v5 v6 => fX8_cheapest_l11 σ v1 v2 v3 n v4 v5 v6) v4 v5 v6 else fX8_cheapest_b55 σ v1 v2 v3 (fun v4 v5 v6 => fX8_cheapest_l11 σ v1 v2 v3 n v4 v5 v6) v4 v5 v6 (1 : Int32) else fX8_cheapest_b54 σ v1 v2 v3 (fun v4 v5 v6 => fX8_cheapest_l11 σ v1 v2 v3 n v4 v5 v6) v4 v5 v6
def fX8_cheapest (σ : Sg) (v1 : Int32) (v2 : Int32) (v3 : Int32) : Option (Int32) := fX8_cheapest_l11 σ v1 v2 v3 2000 (-4 : Int32) (-4 : Int32) (0 : Int32)
set_option maxHeartbeats 1000000 in
set_option maxRecDepth 20000 in
theorem kX8_cheapest_b99 {p : Program} {l : Launch} {e : Env} {s : State} {m : MethodId} {args : Array Value} {below : List Frame} {meth : Method} {c : Code} {Z : Sh} (C : Cx p s m args meth c cX8_cheapest 9 wsX8_cheapest RX8 (some .int) Z layM) {σ : Sg} {v1 : Int32} {v2 : Int32} {v3 : Int32} {u : Int32}  {k11 : Int32 → Int32 → Int32 → Option (Int32)} (hk11 : ∀ (v4 : Int32) (v5 : Int32) (v6 : Int32), k11 v4 v5 v6 = some u → G p l e rX8_cheapest s m args below meth c 9 Z layM (MQ below (QI Z layM σ u s.heap.size) args s 0 0 (pA Z layM s.heap.size)) σ 11 [(0, .ref (ad Z 0)), (1, .int v1), (2, .int v2), (3, .int v3), (4, .int v4), (5, .int v5), (6, .int v6)] []) {v4 : Int32} {v6 : Int32} {v8 : Int32} {s0 : Int32} (h : fX8_cheapest_b99 σ v1 v2 v3 k11 v4 v6 v8 s0 = some u) : G p l e rX8_cheapest s m args below meth c 9 Z layM (MQ below (QI Z layM σ u s.heap.size) args s 0 0 (pA Z layM s.heap.size)) σ 99 [(0, .ref (ad Z 0)), (1, .int v1), (2, .int v2), (3, .int v3), (4, .int v4), (6, .int v6), (8, .int v8)] [.int s0] := by
  unfold fX8_cheapest_b99 at h
  refine g_istore (pc := 99) C (lv2 := [(5, .int s0), (0, .ref (ad Z 0)), (1, .int v1), (2, .int v2), (3, .int v3), (4, .int v4), (6, .int v6), (8, .int v8)]) dX8_cheapest_99 (by decide) rfl ?_
  refine g_iload (pc := 101) C dX8_cheapest_101 7 rfl ?_
  refine g_if_eq (pc := 103) C (tgt := 115) dX8_cheapest_103 (by decide) h (fun hc103 h => ?_) (fun hc103 h => ?_)
  · refine g_iload (pc := 115) C dX8_cheapest_115 5 rfl ?_
    refine g_istore (pc := 117) C (lv2 := [(4, .int v4), (5, .int s0), (0, .ref (ad Z 0)), (1, .int v1), (2, .int v2), (3, .int v3), (6, .int v6), (8, .int v8)]) dX8_cheapest_117 (by decide) rfl ?_
    refine g_iinc (pc := 119) C (j := 6) (v := (v6 + 1)) (lv2 := [(6, .int (v6 + 1)), (4, .int v4), (5, .int s0), (0, .ref (ad Z 0)), (1, .int v1), (2, .int v2), (3, .int v3), (8, .int v8)]) dX8_cheapest_119 rfl rfl (by decide) rfl ?_
    refine g_goto (pc := 122) C (tgt := 11) dX8_cheapest_122 (by decide) ?_
    exact g_sub [3, 4, 5, 6, 1, 2, 0] rfl (hk11 _ _ _ h)
  · refine g_aload_n (pc := 106) C dX8_cheapest_106 rfl 1 rfl ?_
    refine g_iload (pc := 107) C dX8_cheapest_107 6 rfl ?_
    obtain ⟨t1, et1, h⟩ := bs h
    refine g_callVi (pc := 109) C (As := [.int v6]) (rest := []) (k := 0) (by rfl) (by rfl) (cwV 1 C.2.2.2.2.2.1 gX8_cheapest_X8_costsOf rfl rfl rfl (by decide +kernel) ⟨Nat.le_of_ble_eq_true rfl, Nat.le_of_ble_eq_true rfl⟩) (mX8_costsOf l Z  et1) rfl rfl (Nat.le_of_ble_eq_true rfl) dX8_cheapest_109 ?_
    refine g_goto (pc := 112) C (tgt := 117) dX8_cheapest_112 (by decide) ?_
    refine g_istore (pc := 117) C (lv2 := [(4, .int t1), (5, .int s0), (0, .ref (ad Z 0)), (1, .int v1), (2, .int v2), (3, .int v3), (6, .int v6), (8, .int v8)]) dX8_cheapest_117 (by decide) rfl ?_
    refine g_iinc (pc := 119) C (j := 6) (v := (v6 + 1)) (lv2 := [(6, .int (v6 + 1)), (4, .int t1), (5, .int s0), (0, .ref (ad Z 0)), (1, .int v1), (2, .int v2), (3, .int v3), (8, .int v8)]) dX8_cheapest_119 rfl rfl (by decide) rfl ?_
    refine g_goto (pc := 122) C (tgt := 11) dX8_cheapest_122 (by decide) ?_
    exact g_sub [3, 4, 5, 6, 1, 2, 0] rfl (hk11 _ _ _ h)
set_option maxHeartbeats 1000000 in
set_option maxRecDepth 20000 in
theorem kX8_cheapest_b85 {p : Program} {l : Launch} {e : Env} {s : State} {m : MethodId} {args : Array Value} {below : List Frame} {meth : Method} {c : Code} {Z : Sh} (C : Cx p s m args meth c cX8_cheapest 9 wsX8_cheapest RX8 (some .int) Z layM) {σ : Sg} {v1 : Int32} {v2 : Int32} {v3 : Int32} {u : Int32}  {k11 : Int32 → Int32 → Int32 → Option (Int32)} (hk11 : ∀ (v4 : Int32) (v5 : Int32) (v6 : Int32), k11 v4 v5 v6 = some u → G p l e rX8_cheapest s m args below meth c 9 Z layM (MQ below (QI Z layM σ u s.heap.size) args s 0 0 (pA Z layM s.heap.size)) σ 11 [(0, .ref (ad Z 0)), (1, .int v1), (2, .int v2), (3, .int v3), (4, .int v4), (5, .int v5), (6, .int v6)] []) {v4 : Int32} {v5 : Int32} {v6 : Int32} {s0 : Int32} (h : fX8_cheapest_b85 σ v1 v2 v3 k11 v4 v5 v6 s0 = some u) : G p l e rX8_cheapest s m args below meth c 9 Z layM (MQ below (QI Z layM σ u s.heap.size) args s 0 0 (pA Z layM s.heap.size)) σ 85 [(0, .ref (ad Z 0)), (1, .int v1), (2, .int v2), (3, .int v3), (4, .int v4), (5, .int v5), (6, .int v6)] [.int s0] := by
  unfold fX8_cheapest_b85 at h
  refine g_istore (pc := 85) C (lv2 := [(8, .int s0), (0, .ref (ad Z 0)), (1, .int v1), (2, .int v2), (3, .int v3), (4, .int v4), (5, .int v5), (6, .int v6)]) dX8_cheapest_85 (by decide) rfl ?_
  refine g_iload (pc := 87) C dX8_cheapest_87 0 rfl ?_
  refine g_if_eq (pc := 89) C (tgt := 97) dX8_cheapest_89 (by decide) h (fun hc89 h => ?_) (fun hc89 h => ?_)
  · refine g_iload (pc := 97) C dX8_cheapest_97 6 rfl ?_
    exact g_sub [1, 2, 3, 4, 5, 7, 0] rfl (kX8_cheapest_b99 C  hk11  h)
  · refine g_iload (pc := 92) C dX8_cheapest_92 7 rfl ?_
    refine g_goto (pc := 94) C (tgt := 99) dX8_cheapest_94 (by decide) ?_
    exact g_sub [1, 2, 3, 4, 5, 7, 0] rfl (kX8_cheapest_b99 C  hk11  h)
set_option maxHeartbeats 1000000 in
set_option maxRecDepth 20000 in
theorem kX8_cheapest_b80 {p : Program} {l : Launch} {e : Env} {s : State} {m : MethodId} {args : Array Value} {below : List Frame} {meth : Method} {c : Code} {Z : Sh} (C : Cx p s m args meth c cX8_cheapest 9 wsX8_cheapest RX8 (some .int) Z layM) {σ : Sg} {v1 : Int32} {v2 : Int32} {v3 : Int32} {u : Int32}  {k11 : Int32 → Int32 → Int32 → Option (Int32)} (hk11 : ∀ (v4 : Int32) (v5 : Int32) (v6 : Int32), k11 v4 v5 v6 = some u → G p l e rX8_cheapest s m args below meth c 9 Z layM (MQ below (QI Z layM σ u s.heap.size) args s 0 0 (pA Z layM s.heap.size)) σ 11 [(0, .ref (ad Z 0)), (1, .int v1), (2, .int v2), (3, .int v3), (4, .int v4), (5, .int v5), (6, .int v6)] []) {v4 : Int32} {v5 : Int32} {v6 : Int32} (h : fX8_cheapest_b80 σ v1 v2 v3 k11 v4 v5 v6 = some u) : G p l e rX8_cheapest s m args below meth c 9 Z layM (MQ below (QI Z layM σ u s.heap.size) args s 0 0 (pA Z layM s.heap.size)) σ 80 [(0, .ref (ad Z 0)), (1, .int v1), (2, .int v2), (3, .int v3), (4, .int v4), (5, .int v5), (6, .int v6)] [] := by
  unfold fX8_cheapest_b80 at h
  refine g_iconst (pc := 80) C (v := (1 : Int32)) dX8_cheapest_80 (by decide) ?_
  refine g_goto (pc := 81) C (tgt := 85) dX8_cheapest_81 (by decide) ?_
  exact g_sub [0, 1, 2, 3, 4, 5, 6] rfl (kX8_cheapest_b85 C  hk11  h)
set_option maxHeartbeats 1000000 in
set_option maxRecDepth 20000 in
theorem kX8_cheapest_b84 {p : Program} {l : Launch} {e : Env} {s : State} {m : MethodId} {args : Array Value} {below : List Frame} {meth : Method} {c : Code} {Z : Sh} (C : Cx p s m args meth c cX8_cheapest 9 wsX8_cheapest RX8 (some .int) Z layM) {σ : Sg} {v1 : Int32} {v2 : Int32} {v3 : Int32} {u : Int32}  {k11 : Int32 → Int32 → Int32 → Option (Int32)} (hk11 : ∀ (v4 : Int32) (v5 : Int32) (v6 : Int32), k11 v4 v5 v6 = some u → G p l e rX8_cheapest s m args below meth c 9 Z layM (MQ below (QI Z layM σ u s.heap.size) args s 0 0 (pA Z layM s.heap.size)) σ 11 [(0, .ref (ad Z 0)), (1, .int v1), (2, .int v2), (3, .int v3), (4, .int v4), (5, .int v5), (6, .int v6)] []) {v4 : Int32} {v5 : Int32} {v6 : Int32} (h : fX8_cheapest_b84 σ v1 v2 v3 k11 v4 v5 v6 = some u) : G p l e rX8_cheapest s m args below meth c 9 Z layM (MQ below (QI Z layM σ u s.heap.size) args s 0 0 (pA Z layM s.heap.size)) σ 84 [(0, .ref (ad Z 0)), (1, .int v1), (2, .int v2), (3, .int v3), (4, .int v4), (5, .int v5), (6, .int v6)] [] := by
  unfold fX8_cheapest_b84 at h
  refine g_iconst (pc := 84) C (v := (0 : Int32)) dX8_cheapest_84 (by decide) ?_
  exact g_sub [0, 1, 2, 3, 4, 5, 6] rfl (kX8_cheapest_b85 C  hk11  h)
set_option maxHeartbeats 1000000 in
set_option maxRecDepth 20000 in
theorem kX8_cheapest_b55 {p : Program} {l : Launch} {e : Env} {s : State} {m : MethodId} {args : Array Value} {below : List Frame} {meth : Method} {c : Code} {Z : Sh} (C : Cx p s m args meth c cX8_cheapest 9 wsX8_cheapest RX8 (some .int) Z layM) {σ : Sg} {v1 : Int32} {v2 : Int32} {v3 : Int32} {u : Int32}  {k11 : Int32 → Int32 → Int32 → Option (Int32)} (hk11 : ∀ (v4 : Int32) (v5 : Int32) (v6 : Int32), k11 v4 v5 v6 = some u → G p l e rX8_cheapest s m args below meth c 9 Z layM (MQ below (QI Z layM σ u s.heap.size) args s 0 0 (pA Z layM s.heap.size)) σ 11 [(0, .ref (ad Z 0)), (1, .int v1), (2, .int v2), (3, .int v3), (4, .int v4), (5, .int v5), (6, .int v6)] []) {v4 : Int32} {v5 : Int32} {v6 : Int32} {s0 : Int32} (h : fX8_cheapest_b55 σ v1 v2 v3 k11 v4 v5 v6 s0 = some u) : G p l e rX8_cheapest s m args below meth c 9 Z layM (MQ below (QI Z layM σ u s.heap.size) args s 0 0 (pA Z layM s.heap.size)) σ 55 [(0, .ref (ad Z 0)), (1, .int v1), (2, .int v2), (3, .int v3), (4, .int v4), (5, .int v5), (6, .int v6)] [.int s0] := by
  unfold fX8_cheapest_b55 at h
  refine g_istore (pc := 55) C (lv2 := [(7, .int s0), (0, .ref (ad Z 0)), (1, .int v1), (2, .int v2), (3, .int v3), (4, .int v4), (5, .int v5), (6, .int v6)]) dX8_cheapest_55 (by decide) rfl ?_
  refine g_iload (pc := 57) C dX8_cheapest_57 0 rfl ?_
  refine g_if_eq (pc := 59) C (tgt := 84) dX8_cheapest_59 (by decide) h (fun hc59 h => ?_) (fun hc59 h => ?_)
  · exact g_sub [1, 2, 3, 4, 5, 6, 7] rfl (kX8_cheapest_b84 C  hk11  h)
  · refine g_iload (pc := 62) C dX8_cheapest_62 6 rfl ?_
    refine g_bipush (pc := 64) C (v := (-4 : Int32)) dX8_cheapest_64 (by decide) ?_
    refine g_icmp_eq (pc := 66) C (tgt := 80) dX8_cheapest_66 (by decide) h (fun hc66 h => ?_) (fun hc66 h => ?_)
    · exact g_sub [1, 2, 3, 4, 5, 6, 7] rfl (kX8_cheapest_b80 C  hk11  h)
    · refine g_aload_n (pc := 69) C dX8_cheapest_69 rfl 1 rfl ?_
      refine g_iload (pc := 70) C dX8_cheapest_70 7 rfl ?_
      obtain ⟨t1, et1, h⟩ := bs h
      refine g_callVi (pc := 72) C (As := [.int v6]) (rest := []) (k := 0) (by rfl) (by rfl) (cwV 1 C.2.2.2.2.2.1 gX8_cheapest_X8_costsOf rfl rfl rfl (by decide +kernel) ⟨Nat.le_of_ble_eq_true rfl, Nat.le_of_ble_eq_true rfl⟩) (mX8_costsOf l Z  et1) rfl rfl (Nat.le_of_ble_eq_true rfl) dX8_cheapest_72 ?_
      refine g_iload (pc := 75) C dX8_cheapest_75 5 rfl ?_
      refine g_icmp_ge (pc := 77) C (tgt := 84) dX8_cheapest_77 (by decide) h (fun hc77 h => ?_) (fun hc77 h => ?_)
      · exact g_sub [1, 2, 3, 4, 5, 6, 7] rfl (kX8_cheapest_b84 C  hk11  h)
      · exact g_sub [1, 2, 3, 4, 5, 6, 7] rfl (kX8_cheapest_b80 C  hk11  h)
set_option maxHeartbeats 1000000 in
set_option maxRecDepth 20000 in
theorem kX8_cheapest_b54 {p : Program} {l : Launch} {e : Env} {s : State} {m : MethodId} {args : Array Value} {below : List Frame} {meth : Method} {c : Code} {Z : Sh} (C : Cx p s m args meth c cX8_cheapest 9 wsX8_cheapest RX8 (some .int) Z layM) {σ : Sg} {v1 : Int32} {v2 : Int32} {v3 : Int32} {u : Int32}  {k11 : Int32 → Int32 → Int32 → Option (Int32)} (hk11 : ∀ (v4 : Int32) (v5 : Int32) (v6 : Int32), k11 v4 v5 v6 = some u → G p l e rX8_cheapest s m args below meth c 9 Z layM (MQ below (QI Z layM σ u s.heap.size) args s 0 0 (pA Z layM s.heap.size)) σ 11 [(0, .ref (ad Z 0)), (1, .int v1), (2, .int v2), (3, .int v3), (4, .int v4), (5, .int v5), (6, .int v6)] []) {v4 : Int32} {v5 : Int32} {v6 : Int32} (h : fX8_cheapest_b54 σ v1 v2 v3 k11 v4 v5 v6 = some u) : G p l e rX8_cheapest s m args below meth c 9 Z layM (MQ below (QI Z layM σ u s.heap.size) args s 0 0 (pA Z layM s.heap.size)) σ 54 [(0, .ref (ad Z 0)), (1, .int v1), (2, .int v2), (3, .int v3), (4, .int v4), (5, .int v5), (6, .int v6)] [] := by
  unfold fX8_cheapest_b54 at h
  refine g_iconst (pc := 54) C (v := (0 : Int32)) dX8_cheapest_54 (by decide) ?_
  exact g_sub [0, 1, 2, 3, 4, 5, 6] rfl (kX8_cheapest_b55 C  hk11  h)
set_option maxHeartbeats 1000000 in
set_option maxRecDepth 20000 in
theorem kX8_cheapest_l11 {p : Program} {l : Launch} {e : Env} {s : State} {m : MethodId} {args : Array Value} {below : List Frame} {meth : Method} {c : Code} {Z : Sh} (C : Cx p s m args meth c cX8_cheapest 9 wsX8_cheapest RX8 (some .int) Z layM) {σ : Sg} {v1 : Int32} {v2 : Int32} {v3 : Int32} {u : Int32}   : ∀ (n : Nat) (v4 : Int32) (v5 : Int32) (v6 : Int32), fX8_cheapest_l11 σ v1 v2 v3 n v4 v5 v6 = some u → G p l e rX8_cheapest s m args below meth c 9 Z layM (MQ below (QI Z layM σ u s.heap.size) args s 0 0 (pA Z layM s.heap.size)) σ 11 [(0, .ref (ad Z 0)), (1, .int v1), (2, .int v2), (3, .int v3), (4, .int v4), (5, .int v5), (6, .int v6)] [] := by
  intro n
  induction n with
  | zero => intro v4 v5 v6 h; exact absurd h (by simp [fX8_cheapest_l11])
  | succ n ih =>
    intro v4 v5 v6 h
    rw [fX8_cheapest_l11] at h
    refine g_iload (pc := 11) C dX8_cheapest_11 6 rfl ?_
    refine g_aload_n (pc := 13) C dX8_cheapest_13 rfl 0 rfl ?_
    obtain ⟨t1, et1, h⟩ := bs h
    refine g_callVi (pc := 14) C (As := []) (rest := [.int v6]) (k := 0) (by rfl) (by rfl) (cwV 0 C.2.2.2.2.2.1 gX8_cheapest_X8_all rfl rfl rfl (by decide +kernel) ⟨Nat.le_of_ble_eq_true rfl, Nat.le_of_ble_eq_true rfl⟩) (mX8_all l Z  et1) rfl rfl (Nat.le_of_ble_eq_true rfl) dX8_cheapest_14 ?_
    refine g_icmp_gt (pc := 17) C (tgt := 125) dX8_cheapest_17 (by decide) h (fun hc17 h => ?_) (fun hc17 h => ?_)
    · refine g_iload_n (pc := 125) C dX8_cheapest_125 rfl 3 rfl ?_
      refine g_if_ne (pc := 126) C (tgt := 134) dX8_cheapest_126 (by decide) h (fun hc126 h => ?_) (fun hc126 h => ?_)
      · refine g_iload (pc := 134) C dX8_cheapest_134 5 rfl ?_
        exact g_iret C dX8_cheapest_136 rfl (Option.some.inj h)
      · refine g_iload (pc := 129) C dX8_cheapest_129 4 rfl ?_
        refine g_goto (pc := 131) C (tgt := 136) dX8_cheapest_131 (by decide) ?_
        exact g_iret C dX8_cheapest_136 rfl (Option.some.inj h)
    · refine g_iload (pc := 20) C dX8_cheapest_20 6 rfl ?_
      refine g_iload_n (pc := 22) C dX8_cheapest_22 rfl 2 rfl ?_
      refine g_iconst (pc := 23) C (v := (-1 : Int32)) dX8_cheapest_23 (by decide) ?_
      refine g_ixor (pc := 24) C dX8_cheapest_24 ?_
      refine g_iand (pc := 25) C dX8_cheapest_25 ?_
      refine g_if_ne (pc := 26) C (tgt := 54) dX8_cheapest_26 (by decide) h (fun hc26 h => ?_) (fun hc26 h => ?_)
      · exact g_sub [0, 1, 2, 3, 4, 5, 6] rfl (kX8_cheapest_b54 C  ih  h)
      · refine g_iconst (pc := 29) C (v := (2 : Int32)) dX8_cheapest_29 (by decide) ?_
        refine g_aload_n (pc := 30) C dX8_cheapest_30 rfl 0 rfl ?_
        refine g_iload_n (pc := 31) C dX8_cheapest_31 rfl 1 rfl ?_
        refine g_iload (pc := 32) C dX8_cheapest_32 6 rfl ?_
        refine g_ior (pc := 34) C dX8_cheapest_34 ?_
        obtain ⟨t2, et2, h⟩ := bs h
        refine g_callVi (pc := 35) C (As := [.int (v1 ||| v6)]) (rest := [.int (2 : Int32)]) (k := 0) (by rfl) (by rfl) (cwV 1 C.2.2.2.2.2.1 gX8_cheapest_X8_seatsOf rfl rfl rfl (by decide +kernel) ⟨Nat.le_of_ble_eq_true rfl, Nat.le_of_ble_eq_true rfl⟩) (mX8_seatsOf l Z  et2) rfl rfl (Nat.le_of_ble_eq_true rfl) dX8_cheapest_35 ?_
        refine g_imul (pc := 38) C dX8_cheapest_38 ?_
        refine g_aload_n (pc := 39) C dX8_cheapest_39 rfl 0 rfl ?_
        refine g_aload_n (pc := 40) C dX8_cheapest_40 rfl 0 rfl ?_
        obtain ⟨t3, et3, h⟩ := bs h
        refine g_callVi (pc := 41) C (As := []) (rest := [.ref (ad Z 0), .int ((2 : Int32) * t2)]) (k := 0) (by rfl) (by rfl) (cwV 0 C.2.2.2.2.2.1 gX8_cheapest_X8_all rfl rfl rfl (by decide +kernel) ⟨Nat.le_of_ble_eq_true rfl, Nat.le_of_ble_eq_true rfl⟩) (mX8_all l Z  et3) rfl rfl (Nat.le_of_ble_eq_true rfl) dX8_cheapest_41 ?_
        obtain ⟨t4, et4, h⟩ := bs h
        refine g_callVi (pc := 44) C (As := [.int t3]) (rest := [.int ((2 : Int32) * t2)]) (k := 0) (by rfl) (by rfl) (cwV 1 C.2.2.2.2.2.1 gX8_cheapest_X8_seatsOf rfl rfl rfl (by decide +kernel) ⟨Nat.le_of_ble_eq_true rfl, Nat.le_of_ble_eq_true rfl⟩) (mX8_seatsOf l Z  et4) rfl rfl (Nat.le_of_ble_eq_true rfl) dX8_cheapest_44 ?_
        refine g_icmp_le (pc := 47) C (tgt := 54) dX8_cheapest_47 (by decide) h (fun hc47 h => ?_) (fun hc47 h => ?_)
        · exact g_sub [0, 1, 2, 3, 4, 5, 6] rfl (kX8_cheapest_b54 C  ih  h)
        · refine g_iconst (pc := 50) C (v := (1 : Int32)) dX8_cheapest_50 (by decide) ?_
          refine g_goto (pc := 51) C (tgt := 55) dX8_cheapest_51 (by decide) ?_
          exact g_sub [0, 1, 2, 3, 4, 5, 6] rfl (kX8_cheapest_b55 C  ih  h)
set_option maxHeartbeats 1000000 in
set_option maxRecDepth 20000 in
theorem kX8_cheapest_e {p : Program} {l : Launch} {e : Env} {s : State} {m : MethodId} {args : Array Value} {below : List Frame} {meth : Method} {c : Code} {Z : Sh} (C : Cx p s m args meth c cX8_cheapest 9 wsX8_cheapest RX8 (some .int) Z layM) {σ : Sg} {v1 : Int32} {v2 : Int32} {v3 : Int32} {u : Int32}  (h : fX8_cheapest σ v1 v2 v3 = some u) : G p l e rX8_cheapest s m args below meth c 9 Z layM (MQ below (QI Z layM σ u s.heap.size) args s 0 0 (pA Z layM s.heap.size)) σ 0 [(0, .ref (ad Z 0)), (1, .int v1), (2, .int v2), (3, .int v3)] [] := by
  unfold fX8_cheapest at h
  refine g_bipush (pc := 0) C (v := (-4 : Int32)) dX8_cheapest_0 (by decide) ?_
  refine g_istore (pc := 2) C (lv2 := [(4, .int (-4 : Int32)), (0, .ref (ad Z 0)), (1, .int v1), (2, .int v2), (3, .int v3)]) dX8_cheapest_2 (by decide) rfl ?_
  refine g_bipush (pc := 4) C (v := (-4 : Int32)) dX8_cheapest_4 (by decide) ?_
  refine g_istore (pc := 6) C (lv2 := [(5, .int (-4 : Int32)), (4, .int (-4 : Int32)), (0, .ref (ad Z 0)), (1, .int v1), (2, .int v2), (3, .int v3)]) dX8_cheapest_6 (by decide) rfl ?_
  refine g_iconst (pc := 8) C (v := (0 : Int32)) dX8_cheapest_8 (by decide) ?_
  refine g_istore (pc := 9) C (lv2 := [(6, .int (0 : Int32)), (5, .int (-4 : Int32)), (4, .int (-4 : Int32)), (0, .ref (ad Z 0)), (1, .int v1), (2, .int v2), (3, .int v3)]) dX8_cheapest_9 (by decide) rfl ?_
  exact g_sub [3, 4, 5, 6, 2, 1, 0] rfl (kX8_cheapest_l11 C   _ _ _ _ h)
theorem mX8_cheapest (l : Launch) (Z : Sh) {σ : Sg} {v1 : Int32} {v2 : Int32} {v3 : Int32} {u : Int32}  (h : fX8_cheapest σ v1 v2 v3 = some u) : MI l Z layM yX8_cheapest wsX8_cheapest rX8_cheapest [.ref (ad Z 0), .int v1, .int v2, .int v3] σ σ u :=
  MI.of (cc := cX8_cheapest) (maxL := 9) (ret := (some .int)) (by decide) rfl (Nat.le_of_ble_eq_true rfl) (fun p e s m below meth c C => kX8_cheapest_e C  h)

def rX8_cheap : Room := { frames := 4, cells := 0, slots := 0, locals := 95 }
def fX8_cheap (σ : Sg) (v1 : Int32) (v2 : Int32) : Option (Int32) := (fX8_isLord σ v1).bind fun t1 => if t1 = 0 then some (-1 : Int32) else (fX8_in v2.toInt64 (0 : Int64) (1 : Int64)).bind fun t2 => if t2 = 0 then some (-1 : Int32) else (fX8_boroughsOf σ ((1 : Int32) <<< (v1 &&& 31))).bind fun t3 => (fX8_all σ).bind fun t4 => (fX8_cheapest σ t3 (t4 &&& (t3 ^^^ (-1 : Int32))) v2).bind fun t5 => some t5
set_option maxHeartbeats 1000000 in
set_option maxRecDepth 20000 in
theorem kX8_cheap_e {p : Program} {l : Launch} {e : Env} {s : State} {m : MethodId} {args : Array Value} {below : List Frame} {meth : Method} {c : Code} {Z : Sh} (C : Cx p s m args meth c cX8_cheap 4 wsX8_cheap RX8 (some .int) Z layM) {σ : Sg} {v1 : Int32} {v2 : Int32} {u : Int32}  (h : fX8_cheap σ v1 v2 = some u) : G p l e rX8_cheap s m args below meth c 4 Z layM (MQ below (QI Z layM σ u s.heap.size) args s 0 0 (pA Z layM s.heap.size)) σ 0 [(0, .ref (ad Z 0)), (1, .int v1), (2, .int v2)] [] := by
  unfold fX8_cheap at h
  refine g_aload_n (pc := 0) C dX8_cheap_0 rfl 0 rfl ?_
  refine g_iload_n (pc := 1) C dX8_cheap_1 rfl 1 rfl ?_
  obtain ⟨t1, et1, h⟩ := bs h
  refine g_callVi (pc := 2) C (As := [.int v1]) (rest := []) (k := 0) (by rfl) (by rfl) (cwV 1 C.2.2.2.2.2.1 gX8_cheap_X8_isLord rfl rfl rfl (by decide +kernel) ⟨Nat.le_of_ble_eq_true rfl, Nat.le_of_ble_eq_true rfl⟩) (mX8_isLord l Z  et1) rfl rfl (Nat.le_of_ble_eq_true rfl) dX8_cheap_2 ?_
  refine g_if_eq (pc := 5) C (tgt := 18) dX8_cheap_5 (by decide) h (fun hc5 h => ?_) (fun hc5 h => ?_)
  · refine g_iconst (pc := 18) C (v := (-1 : Int32)) dX8_cheap_18 (by decide) ?_
    exact g_iret C dX8_cheap_19 rfl (Option.some.inj h)
  · refine g_iload_n (pc := 8) C dX8_cheap_8 rfl 2 rfl ?_
    refine g_i2l (pc := 9) C dX8_cheap_9 ?_
    refine g_lconst (pc := 10) C (v := (0 : Int64)) dX8_cheap_10 (by decide) ?_
    refine g_lconst (pc := 11) C (v := (1 : Int64)) dX8_cheap_11 (by decide) ?_
    obtain ⟨t2, et2, h⟩ := bs h
    refine g_callSi (pc := 12) C (As := [.long v2.toInt64, .long (0 : Int64), .long (1 : Int64)]) (rest := []) (va_cwS 3 C.2.2.2.2.2.1 gX8_cheap_X8_in rfl rfl rfl (by decide +kernel) ⟨Nat.le_of_ble_eq_true rfl, Nat.le_of_ble_eq_true rfl⟩) (mX8_in l Z  et2) rfl rfl (Nat.le_of_ble_eq_true rfl) dX8_cheap_12 ?_
    refine g_if_ne (pc := 15) C (tgt := 20) dX8_cheap_15 (by decide) h (fun hc15 h => ?_) (fun hc15 h => ?_)
    · refine g_aload_n (pc := 20) C dX8_cheap_20 rfl 0 rfl ?_
      refine g_iconst (pc := 21) C (v := (1 : Int32)) dX8_cheap_21 (by decide) ?_
      refine g_iload_n (pc := 22) C dX8_cheap_22 rfl 1 rfl ?_
      refine g_ishl (pc := 23) C dX8_cheap_23 ?_
      obtain ⟨t3, et3, h⟩ := bs h
      refine g_callVi (pc := 24) C (As := [.int ((1 : Int32) <<< (v1 &&& 31))]) (rest := []) (k := 0) (by rfl) (by rfl) (cwV 1 C.2.2.2.2.2.1 gX8_cheap_X8_boroughsOf rfl rfl rfl (by decide +kernel) ⟨Nat.le_of_ble_eq_true rfl, Nat.le_of_ble_eq_true rfl⟩) (mX8_boroughsOf l Z  et3) rfl rfl (Nat.le_of_ble_eq_true rfl) dX8_cheap_24 ?_
      refine g_istore_n (pc := 27) C (lv2 := [(3, .int t3), (0, .ref (ad Z 0)), (1, .int v1), (2, .int v2)]) dX8_cheap_27 rfl (by decide) rfl ?_
      refine g_aload_n (pc := 28) C dX8_cheap_28 rfl 1 rfl ?_
      refine g_iload_n (pc := 29) C dX8_cheap_29 rfl 0 rfl ?_
      refine g_aload_n (pc := 30) C dX8_cheap_30 rfl 1 rfl ?_
      obtain ⟨t4, et4, h⟩ := bs h
      refine g_callVi (pc := 31) C (As := []) (rest := [.int t3, .ref (ad Z 0)]) (k := 0) (by rfl) (by rfl) (cwV 0 C.2.2.2.2.2.1 gX8_cheap_X8_all rfl rfl rfl (by decide +kernel) ⟨Nat.le_of_ble_eq_true rfl, Nat.le_of_ble_eq_true rfl⟩) (mX8_all l Z  et4) rfl rfl (Nat.le_of_ble_eq_true rfl) dX8_cheap_31 ?_
      refine g_iload_n (pc := 34) C dX8_cheap_34 rfl 0 rfl ?_
      refine g_iconst (pc := 35) C (v := (-1 : Int32)) dX8_cheap_35 (by decide) ?_
      refine g_ixor (pc := 36) C dX8_cheap_36 ?_
      refine g_iand (pc := 37) C dX8_cheap_37 ?_
      refine g_iload_n (pc := 38) C dX8_cheap_38 rfl 3 rfl ?_
      obtain ⟨t5, et5, h⟩ := bs h
      refine g_callVi (pc := 39) C (As := [.int t3, .int (t4 &&& (t3 ^^^ (-1 : Int32))), .int v2]) (rest := []) (k := 0) (by rfl) (by rfl) (cwV 3 C.2.2.2.2.2.1 gX8_cheap_X8_cheapest rfl rfl rfl (by decide +kernel) ⟨Nat.le_of_ble_eq_true rfl, Nat.le_of_ble_eq_true rfl⟩) (mX8_cheapest l Z  et5) rfl rfl (Nat.le_of_ble_eq_true rfl) dX8_cheap_39 ?_
      exact g_iret C dX8_cheap_42 rfl (Option.some.inj h)
    · refine g_iconst (pc := 18) C (v := (-1 : Int32)) dX8_cheap_18 (by decide) ?_
      exact g_iret C dX8_cheap_19 rfl (Option.some.inj h)
theorem mX8_cheap (l : Launch) (Z : Sh) {σ : Sg} {v1 : Int32} {v2 : Int32} {u : Int32}  (h : fX8_cheap σ v1 v2 = some u) : MI l Z layM yX8_cheap wsX8_cheap rX8_cheap [.ref (ad Z 0), .int v1, .int v2] σ σ u :=
  MI.of (cc := cX8_cheap) (maxL := 4) (ret := (some .int)) (by decide) rfl (Nat.le_of_ble_eq_true rfl) (fun p e s m below meth c C => kX8_cheap_e C  h)

def rX8_able : Room := { frames := 3, cells := 0, slots := 0, locals := 66 }
theorem uX8_able_X8 : ∀ w ∈ wsX80, w ∈ wsX8_able := by decide +kernel
def fX8_able_l14 (σ : Sg) (v1 : Int32)  : Nat → Int32 → Int32 → Option (Int32)
  | 0, _, _ => none
  | n + 1, v2, v3 => if (σ 0 2) ≤ v3 then some v2 else (fX8_canBuy σ v1 v3).bind fun t1 => if t1 = 0 then fX8_able_l14 σ v1 n (v2 ||| (0 : Int32)) (v3 + 1) else fX8_able_l14 σ v1 n (v2 ||| ((1 : Int32) <<< (v3 &&& 31))) (v3 + 1)
def fX8_able (σ : Sg) (v1 : Int32) : Option (Int32) := (fX8_isLord σ v1).bind fun t1 => if t1 = 0 then some (-1 : Int32) else fX8_able_l14 σ v1 2000 (0 : Int32) (0 : Int32)
set_option maxHeartbeats 1000000 in
set_option maxRecDepth 20000 in
theorem kX8_able_l14 {p : Program} {l : Launch} {e : Env} {s : State} {m : MethodId} {args : Array Value} {below : List Frame} {meth : Method} {c : Code} {Z : Sh} (C : Cx p s m args meth c cX8_able 4 wsX8_able RX8 (some .int) Z layM) {σ : Sg} {v1 : Int32} {u : Int32}   : ∀ (n : Nat) (v2 : Int32) (v3 : Int32), fX8_able_l14 σ v1 n v2 v3 = some u → G p l e rX8_able s m args below meth c 4 Z layM (MQ below (QI Z layM σ u s.heap.size) args s 0 0 (pA Z layM s.heap.size)) σ 14 [(0, .ref (ad Z 0)), (1, .int v1), (2, .int v2), (3, .int v3)] [] := by
  intro n
  induction n with
  | zero => intro v2 v3 h; exact absurd h (by simp [fX8_able_l14])
  | succ n ih =>
    intro v2 v3 h
    rw [fX8_able_l14] at h
    refine g_iload_n (pc := 14) C dX8_able_14 rfl 3 rfl ?_
    refine g_aload_n (pc := 15) C dX8_able_15 rfl 0 rfl ?_
    refine g_geti (pc := 16) C (Cn := RX8) (T := TX8) (N := 32) (ci := 8) (k := 0) (j := 2) uX8_able_X8 (by rfl) rfl (by decide) (by decide +kernel) (q := 0) rfl dX8_able_16 ?_
    refine g_icmp_ge (pc := 19) C (tgt := 47) dX8_able_19 (by decide) h (fun hc19 h => ?_) (fun hc19 h => ?_)
    · refine g_iload_n (pc := 47) C dX8_able_47 rfl 2 rfl ?_
      exact g_iret C dX8_able_48 rfl (Option.some.inj h)
    · refine g_iload_n (pc := 22) C dX8_able_22 rfl 2 rfl ?_
      refine g_aload_n (pc := 23) C dX8_able_23 rfl 0 rfl ?_
      refine g_iload_n (pc := 24) C dX8_able_24 rfl 1 rfl ?_
      refine g_iload_n (pc := 25) C dX8_able_25 rfl 3 rfl ?_
      obtain ⟨t1, et1, h⟩ := bs h
      refine g_callVi (pc := 26) C (As := [.int v1, .int v3]) (rest := [.int v2]) (k := 0) (by rfl) (by rfl) (cwV 2 C.2.2.2.2.2.1 gX8_able_X8_canBuy rfl rfl rfl (by decide +kernel) ⟨Nat.le_of_ble_eq_true rfl, Nat.le_of_ble_eq_true rfl⟩) (mX8_canBuy l Z  et1) rfl rfl (Nat.le_of_ble_eq_true rfl) dX8_able_26 ?_
      refine g_if_eq (pc := 29) C (tgt := 38) dX8_able_29 (by decide) h (fun hc29 h => ?_) (fun hc29 h => ?_)
      · refine g_iconst (pc := 38) C (v := (0 : Int32)) dX8_able_38 (by decide) ?_
        refine g_ior (pc := 39) C dX8_able_39 ?_
        refine g_istore_n (pc := 40) C (lv2 := [(2, .int (v2 ||| (0 : Int32))), (0, .ref (ad Z 0)), (1, .int v1), (3, .int v3)]) dX8_able_40 rfl (by decide) rfl ?_
        refine g_iinc (pc := 41) C (j := 3) (v := (v3 + 1)) (lv2 := [(3, .int (v3 + 1)), (2, .int (v2 ||| (0 : Int32))), (0, .ref (ad Z 0)), (1, .int v1)]) dX8_able_41 rfl rfl (by decide) rfl ?_
        refine g_goto (pc := 44) C (tgt := 14) dX8_able_44 (by decide) ?_
        exact g_sub [2, 3, 1, 0] rfl (ih _ _ h)
      · refine g_iconst (pc := 32) C (v := (1 : Int32)) dX8_able_32 (by decide) ?_
        refine g_iload_n (pc := 33) C dX8_able_33 rfl 3 rfl ?_
        refine g_ishl (pc := 34) C dX8_able_34 ?_
        refine g_goto (pc := 35) C (tgt := 39) dX8_able_35 (by decide) ?_
        refine g_ior (pc := 39) C dX8_able_39 ?_
        refine g_istore_n (pc := 40) C (lv2 := [(2, .int (v2 ||| ((1 : Int32) <<< (v3 &&& 31)))), (0, .ref (ad Z 0)), (1, .int v1), (3, .int v3)]) dX8_able_40 rfl (by decide) rfl ?_
        refine g_iinc (pc := 41) C (j := 3) (v := (v3 + 1)) (lv2 := [(3, .int (v3 + 1)), (2, .int (v2 ||| ((1 : Int32) <<< (v3 &&& 31)))), (0, .ref (ad Z 0)), (1, .int v1)]) dX8_able_41 rfl rfl (by decide) rfl ?_
        refine g_goto (pc := 44) C (tgt := 14) dX8_able_44 (by decide) ?_
        exact g_sub [2, 3, 1, 0] rfl (ih _ _ h)
set_option maxHeartbeats 1000000 in
set_option maxRecDepth 20000 in
theorem kX8_able_e {p : Program} {l : Launch} {e : Env} {s : State} {m : MethodId} {args : Array Value} {below : List Frame} {meth : Method} {c : Code} {Z : Sh} (C : Cx p s m args meth c cX8_able 4 wsX8_able RX8 (some .int) Z layM) {σ : Sg} {v1 : Int32} {u : Int32}  (h : fX8_able σ v1 = some u) : G p l e rX8_able s m args below meth c 4 Z layM (MQ below (QI Z layM σ u s.heap.size) args s 0 0 (pA Z layM s.heap.size)) σ 0 [(0, .ref (ad Z 0)), (1, .int v1)] [] := by
  unfold fX8_able at h
  refine g_aload_n (pc := 0) C dX8_able_0 rfl 0 rfl ?_
  refine g_iload_n (pc := 1) C dX8_able_1 rfl 1 rfl ?_
  obtain ⟨t1, et1, h⟩ := bs h
  refine g_callVi (pc := 2) C (As := [.int v1]) (rest := []) (k := 0) (by rfl) (by rfl) (cwV 1 C.2.2.2.2.2.1 gX8_able_X8_isLord rfl rfl rfl (by decide +kernel) ⟨Nat.le_of_ble_eq_true rfl, Nat.le_of_ble_eq_true rfl⟩) (mX8_isLord l Z  et1) rfl rfl (Nat.le_of_ble_eq_true rfl) dX8_able_2 ?_
  refine g_if_ne (pc := 5) C (tgt := 10) dX8_able_5 (by decide) h (fun hc5 h => ?_) (fun hc5 h => ?_)
  · refine g_iconst (pc := 10) C (v := (0 : Int32)) dX8_able_10 (by decide) ?_
    refine g_istore_n (pc := 11) C (lv2 := [(2, .int (0 : Int32)), (0, .ref (ad Z 0)), (1, .int v1)]) dX8_able_11 rfl (by decide) rfl ?_
    refine g_iconst (pc := 12) C (v := (0 : Int32)) dX8_able_12 (by decide) ?_
    refine g_istore_n (pc := 13) C (lv2 := [(3, .int (0 : Int32)), (2, .int (0 : Int32)), (0, .ref (ad Z 0)), (1, .int v1)]) dX8_able_13 rfl (by decide) rfl ?_
    exact g_sub [2, 3, 1, 0] rfl (kX8_able_l14 C   _ _ _ h)
  · refine g_iconst (pc := 8) C (v := (-1 : Int32)) dX8_able_8 (by decide) ?_
    exact g_iret C dX8_able_9 rfl (Option.some.inj h)
theorem mX8_able (l : Launch) (Z : Sh) {σ : Sg} {v1 : Int32} {u : Int32}  (h : fX8_able σ v1 = some u) : MI l Z layM yX8_able wsX8_able rX8_able [.ref (ad Z 0), .int v1] σ σ u :=
  MI.of (cc := cX8_able) (maxL := 4) (ret := (some .int)) (by decide) rfl (Nat.le_of_ble_eq_true rfl) (fun p e s m below meth c C => kX8_able_e C  h)

def rX8_isMore : Room := { frames := 0, cells := 0, slots := 0, locals := 0 }
def fX8_isMore (v0 : Int64) (v2 : Int64) (v4 : Int64) (v6 : Int64) : Option (Int32) := if (lg_cmp (v0 * v6) (v4 * v2)) ≤ 0 then some (0 : Int32) else some (1 : Int32)
set_option maxHeartbeats 1000000 in
set_option maxRecDepth 20000 in
theorem kX8_isMore_e {p : Program} {l : Launch} {e : Env} {s : State} {m : MethodId} {args : Array Value} {below : List Frame} {meth : Method} {c : Code} {Z : Sh} (C : Cx p s m args meth c cX8_isMore 8 wsX8_isMore RX8 (some .boolean) Z layM) {σ : Sg} {v0 : Int64} {v2 : Int64} {v4 : Int64} {v6 : Int64} {u : Int32}  (h : fX8_isMore v0 v2 v4 v6 = some u) : G p l e rX8_isMore s m args below meth c 8 Z layM (MQ below (QI Z layM σ u s.heap.size) args s 0 0 (pA Z layM s.heap.size)) σ 0 [(0, .long v0), (2, .long v2), (4, .long v4), (6, .long v6)] [] := by
  unfold fX8_isMore at h
  refine g_lload_n (pc := 0) C dX8_isMore_0 rfl 0 rfl ?_
  refine g_lload (pc := 1) C dX8_isMore_1 3 rfl ?_
  refine g_lmul (pc := 3) C dX8_isMore_3 ?_
  refine g_lload (pc := 4) C dX8_isMore_4 2 rfl ?_
  refine g_lload_n (pc := 6) C dX8_isMore_6 rfl 1 rfl ?_
  refine g_lmul (pc := 7) C dX8_isMore_7 ?_
  refine g_lcmp (pc := 8) C dX8_isMore_8 ?_
  refine g_if_le (pc := 9) C (tgt := 16) dX8_isMore_9 (by decide) h (fun hc9 h => ?_) (fun hc9 h => ?_)
  · refine g_iconst (pc := 16) C (v := (0 : Int32)) dX8_isMore_16 (by decide) ?_
    exact g_zret C dX8_isMore_17 rfl (rz0.trans h)
  · refine g_iconst (pc := 12) C (v := (1 : Int32)) dX8_isMore_12 (by decide) ?_
    refine g_goto (pc := 13) C (tgt := 17) dX8_isMore_13 (by decide) ?_
    exact g_zret C dX8_isMore_17 rfl (rz1.trans h)
theorem mX8_isMore (l : Launch) (Z : Sh) {σ : Sg} {v0 : Int64} {v2 : Int64} {v4 : Int64} {v6 : Int64} {u : Int32}  (h : fX8_isMore v0 v2 v4 v6 = some u) : MI l Z layM yX8_isMore wsX8_isMore rX8_isMore [.long v0, .long v2, .long v4, .long v6] σ σ u :=
  MI.of (cc := cX8_isMore) (maxL := 8) (ret := (some .boolean)) (by decide) rfl (Nat.le_of_ble_eq_true rfl) (fun p e s m below meth c C => kX8_isMore_e C  h)

def rX8_climb : Room := { frames := 4, cells := 0, slots := 0, locals := 88 }
theorem uX8_climb_X8 : ∀ w ∈ wsX80, w ∈ wsX8_climb := by decide +kernel
def fX8_climb_l39 (v1 : Int32)  : Nat → Sg → Int64 → Int64 → Int32 → Int32 → Option (Sg × Int32)
  | 0, _, _, _, _, _ => none
  | n + 1, σ, v2, v4, v6, v7 => if (σ 0 2) ≤ v7 then some (σ, v6) else (fX8_canBuy σ v1 v7).bind fun t1 => if t1 = 0 then fX8_climb_l39 v1 n σ v2 v4 v6 (v7 + 1) else (rd (σ 1) 116 ((22 : Int32) + v7)).bind fun t2 => (wr σ 1 116 ((22 : Int32) + v7) (v1 + (1 : Int32))).bind fun σ3 => (fX8_laysPlayers σ3 (-4 : Int32)).bind fun u4 => (fX8_ordersBy u4.1 v1).bind fun t5 => (fX8_ordersOf (u4.1 0 22)).bind fun t6 => (wr u4.1 1 116 ((22 : Int32) + v7) t2).bind fun σ7 => (fX8_isMore t5 t6 v2 v4).bind fun t8 => if t8 = 0 then fX8_climb_l39 v1 n σ7 v2 v4 v6 (v7 + 1) else fX8_climb_l39 v1 n σ7 t5 t6 v7 (v7 + 1)
def fX8_climb (σ : Sg) (v1 : Int32) : Option (Sg × Int32) := (fX8_isLord σ v1).bind fun t1 => if t1 = 0 then some (σ, (-1 : Int32)) else (fX8_laysPlayers σ (-4 : Int32)).bind fun u2 => (fX8_ordersBy u2.1 v1).bind fun t3 => (fX8_ordersOf (u2.1 0 22)).bind fun t4 => fX8_climb_l39 v1 2000 u2.1 t3 t4 (-4 : Int32) (0 : Int32)
set_option maxHeartbeats 1000000 in
set_option maxRecDepth 20000 in
theorem kX8_climb_l39 {p : Program} {l : Launch} {e : Env} {s : State} {m : MethodId} {args : Array Value} {below : List Frame} {meth : Method} {c : Code} {Z : Sh} (C : Cx p s m args meth c cX8_climb 13 wsX8_climb RX8 (some .int) Z layM) {v1 : Int32} {u : Sg × Int32}   : ∀ (n : Nat) (σ : Sg) (v2 : Int64) (v4 : Int64) (v6 : Int32) (v7 : Int32), fX8_climb_l39 v1 n σ v2 v4 v6 v7 = some u → G p l e rX8_climb s m args below meth c 13 Z layM (MQ below (QI Z layM u.1 u.2 s.heap.size) args s 0 0 (pA Z layM s.heap.size)) σ 39 [(0, .ref (ad Z 0)), (1, .int v1), (2, .long v2), (4, .long v4), (6, .int v6), (7, .int v7)] [] := by
  intro n
  induction n with
  | zero => intro σ v2 v4 v6 v7 h; exact absurd h (by simp [fX8_climb_l39])
  | succ n ih =>
    intro σ v2 v4 v6 v7 h
    rw [fX8_climb_l39] at h
    refine g_iload (pc := 39) C dX8_climb_39 5 rfl ?_
    refine g_aload_n (pc := 41) C dX8_climb_41 rfl 0 rfl ?_
    refine g_geti (pc := 42) C (Cn := RX8) (T := TX8) (N := 32) (ci := 8) (k := 0) (j := 2) uX8_climb_X8 (by rfl) rfl (by decide) (by decide +kernel) (q := 0) rfl dX8_climb_42 ?_
    refine g_icmp_ge (pc := 45) C (tgt := 148) dX8_climb_45 (by decide) h (fun hc45 h => ?_) (fun hc45 h => ?_)
    · refine g_iload (pc := 148) C dX8_climb_148 4 rfl ?_
      exact g_iret C dX8_climb_150 (pfst h) (psnd h)
    · refine g_aload_n (pc := 48) C dX8_climb_48 rfl 0 rfl ?_
      refine g_iload_n (pc := 49) C dX8_climb_49 rfl 1 rfl ?_
      refine g_iload (pc := 50) C dX8_climb_50 5 rfl ?_
      obtain ⟨t1, et1, h⟩ := bs h
      refine g_callVi (pc := 52) C (As := [.int v1, .int v7]) (rest := []) (k := 0) (by rfl) (by rfl) (cwV 2 C.2.2.2.2.2.1 gX8_climb_X8_canBuy rfl rfl rfl (by decide +kernel) ⟨Nat.le_of_ble_eq_true rfl, Nat.le_of_ble_eq_true rfl⟩) (mX8_canBuy l Z  et1) rfl rfl (Nat.le_of_ble_eq_true rfl) dX8_climb_52 ?_
      refine g_if_eq (pc := 55) C (tgt := 142) dX8_climb_55 (by decide) h (fun hc55 h => ?_) (fun hc55 h => ?_)
      · refine g_iinc (pc := 142) C (j := 5) (v := (v7 + 1)) (lv2 := [(7, .int (v7 + 1)), (0, .ref (ad Z 0)), (1, .int v1), (2, .long v2), (4, .long v4), (6, .int v6)]) dX8_climb_142 rfl rfl (by decide) rfl ?_
        refine g_goto (pc := 145) C (tgt := 39) dX8_climb_145 (by decide) ?_
        exact g_sub [1, 2, 3, 4, 5, 0] rfl (ih _ _ _ _ _ h)
      · refine g_aload_n (pc := 58) C dX8_climb_58 rfl 0 rfl ?_
        refine g_getr (pc := 59) C (Cn := RX8) (T := TX8) (N := 32) (ci := 8) (k := 0) (j := 0) uX8_climb_X8 (by rfl) rfl (by decide) (by decide +kernel) (q := 1) rfl dX8_climb_59 ?_
        refine g_bipush (pc := 62) C (v := (22 : Int32)) dX8_climb_62 (by decide) ?_
        refine g_iload (pc := 64) C dX8_climb_64 5 rfl ?_
        refine g_iadd (pc := 66) C dX8_climb_66 ?_
        obtain ⟨t2, et2, h⟩ := bs h
        refine g_iald (pc := 67) C (k := 1) (n := 116) (by rfl) et2 dX8_climb_67 ?_
        refine g_istore (pc := 68) C (lv2 := [(8, .int t2), (0, .ref (ad Z 0)), (1, .int v1), (2, .long v2), (4, .long v4), (6, .int v6), (7, .int v7)]) dX8_climb_68 (by decide) rfl ?_
        refine g_aload_n (pc := 70) C dX8_climb_70 rfl 1 rfl ?_
        refine g_getr (pc := 71) C (Cn := RX8) (T := TX8) (N := 32) (ci := 8) (k := 0) (j := 0) uX8_climb_X8 (by rfl) rfl (by decide) (by decide +kernel) (q := 1) rfl dX8_climb_71 ?_
        refine g_bipush (pc := 74) C (v := (22 : Int32)) dX8_climb_74 (by decide) ?_
        refine g_iload (pc := 76) C dX8_climb_76 6 rfl ?_
        refine g_iadd (pc := 78) C dX8_climb_78 ?_
        refine g_iload_n (pc := 79) C dX8_climb_79 rfl 2 rfl ?_
        refine g_iconst (pc := 80) C (v := (1 : Int32)) dX8_climb_80 (by decide) ?_
        refine g_iadd (pc := 81) C dX8_climb_81 ?_
        obtain ⟨σ3, eσ3, h⟩ := bs h
        refine g_iast (pc := 82) C (k := 1) (n := 116) (by rfl) eσ3 dX8_climb_82 ?_
        refine g_aload_n (pc := 83) C dX8_climb_83 rfl 1 rfl ?_
        refine g_bipush (pc := 84) C (v := (-4 : Int32)) dX8_climb_84 (by decide) ?_
        obtain ⟨u4, eu4, h⟩ := bs h
        refine g_callVi (pc := 86) C (As := [.int (-4 : Int32)]) (rest := []) (k := 0) (by rfl) (by rfl) (cwV 1 C.2.2.2.2.2.1 gX8_climb_X8_laysPlayers rfl rfl rfl (by decide +kernel) ⟨Nat.le_of_ble_eq_true rfl, Nat.le_of_ble_eq_true rfl⟩) (mX8_laysPlayers l Z  eu4) rfl rfl (Nat.le_of_ble_eq_true rfl) dX8_climb_86 ?_
        refine g_pop (pc := 89) C rfl dX8_climb_89 ?_
        refine g_aload_n (pc := 90) C dX8_climb_90 rfl 1 rfl ?_
        refine g_iload_n (pc := 91) C dX8_climb_91 rfl 2 rfl ?_
        obtain ⟨t5, et5, h⟩ := bs h
        refine g_callVl (pc := 92) C (As := [.int v1]) (rest := []) (k := 0) (by rfl) (by rfl) (cwV 1 C.2.2.2.2.2.1 gX8_climb_X8_ordersBy rfl rfl rfl (by decide +kernel) ⟨Nat.le_of_ble_eq_true rfl, Nat.le_of_ble_eq_true rfl⟩) (mX8_ordersBy l Z  et5) rfl rfl (Nat.le_of_ble_eq_true rfl) dX8_climb_92 ?_
        refine g_lstore (pc := 95) C (lv2 := [(9, .long t5), (8, .int t2), (0, .ref (ad Z 0)), (1, .int v1), (2, .long v2), (4, .long v4), (6, .int v6), (7, .int v7)]) dX8_climb_95 (by decide) rfl ?_
        refine g_aload_n (pc := 97) C dX8_climb_97 rfl 2 rfl ?_
        refine g_geti (pc := 98) C (Cn := RX8) (T := TX8) (N := 32) (ci := 8) (k := 0) (j := 22) uX8_climb_X8 (by rfl) rfl (by decide) (by decide +kernel) (q := 0) rfl dX8_climb_98 ?_
        obtain ⟨t6, et6, h⟩ := bs h
        refine g_callSl (pc := 101) C (As := [.int (u4.1 0 22)]) (rest := []) (va_cwS 1 C.2.2.2.2.2.1 gX8_climb_X8_ordersOf rfl rfl rfl (by decide +kernel) ⟨Nat.le_of_ble_eq_true rfl, Nat.le_of_ble_eq_true rfl⟩) (mX8_ordersOf l Z  et6) rfl rfl (Nat.le_of_ble_eq_true rfl) dX8_climb_101 ?_
        refine g_lstore (pc := 104) C (lv2 := [(11, .long t6), (9, .long t5), (8, .int t2), (0, .ref (ad Z 0)), (1, .int v1), (2, .long v2), (4, .long v4), (6, .int v6), (7, .int v7)]) dX8_climb_104 (by decide) rfl ?_
        refine g_aload_n (pc := 106) C dX8_climb_106 rfl 3 rfl ?_
        refine g_getr (pc := 107) C (Cn := RX8) (T := TX8) (N := 32) (ci := 8) (k := 0) (j := 0) uX8_climb_X8 (by rfl) rfl (by decide) (by decide +kernel) (q := 1) rfl dX8_climb_107 ?_
        refine g_bipush (pc := 110) C (v := (22 : Int32)) dX8_climb_110 (by decide) ?_
        refine g_iload (pc := 112) C dX8_climb_112 8 rfl ?_
        refine g_iadd (pc := 114) C dX8_climb_114 ?_
        refine g_iload (pc := 115) C dX8_climb_115 2 rfl ?_
        obtain ⟨σ7, eσ7, h⟩ := bs h
        refine g_iast (pc := 117) C (k := 1) (n := 116) (by rfl) eσ7 dX8_climb_117 ?_
        refine g_lload (pc := 118) C dX8_climb_118 1 rfl ?_
        refine g_lload (pc := 120) C dX8_climb_120 0 rfl ?_
        refine g_lload_n (pc := 122) C dX8_climb_122 rfl 5 rfl ?_
        refine g_lload (pc := 123) C dX8_climb_123 6 rfl ?_
        obtain ⟨t8, et8, h⟩ := bs h
        refine g_callSi (pc := 125) C (As := [.long t5, .long t6, .long v2, .long v4]) (rest := []) (va_cwS 4 C.2.2.2.2.2.1 gX8_climb_X8_isMore rfl rfl rfl (by decide +kernel) ⟨Nat.le_of_ble_eq_true rfl, Nat.le_of_ble_eq_true rfl⟩) (mX8_isMore l Z  et8) rfl rfl (Nat.le_of_ble_eq_true rfl) dX8_climb_125 ?_
        refine g_if_eq (pc := 128) C (tgt := 142) dX8_climb_128 (by decide) h (fun hc128 h => ?_) (fun hc128 h => ?_)
        · refine g_iinc (pc := 142) C (j := 8) (v := (v7 + 1)) (lv2 := [(7, .int (v7 + 1)), (11, .long t6), (9, .long t5), (8, .int t2), (0, .ref (ad Z 0)), (1, .int v1), (2, .long v2), (4, .long v4), (6, .int v6)]) dX8_climb_142 rfl rfl (by decide) rfl ?_
          refine g_goto (pc := 145) C (tgt := 39) dX8_climb_145 (by decide) ?_
          exact g_sub [4, 5, 6, 7, 8, 0] rfl (ih _ _ _ _ _ h)
        · refine g_iload (pc := 131) C dX8_climb_131 8 rfl ?_
          refine g_istore (pc := 133) C (lv2 := [(6, .int v7), (11, .long t6), (9, .long t5), (8, .int t2), (0, .ref (ad Z 0)), (1, .int v1), (2, .long v2), (4, .long v4), (7, .int v7)]) dX8_climb_133 (by decide) rfl ?_
          refine g_lload (pc := 135) C dX8_climb_135 2 rfl ?_
          refine g_lstore_n (pc := 137) C (lv2 := [(2, .long t5), (6, .int v7), (11, .long t6), (9, .long t5), (8, .int t2), (0, .ref (ad Z 0)), (1, .int v1), (4, .long v4), (7, .int v7)]) dX8_climb_137 rfl (by decide) rfl ?_
          refine g_lload (pc := 138) C dX8_climb_138 2 rfl ?_
          refine g_lstore (pc := 140) C (lv2 := [(4, .long t6), (2, .long t5), (6, .int v7), (11, .long t6), (9, .long t5), (8, .int t2), (0, .ref (ad Z 0)), (1, .int v1), (7, .int v7)]) dX8_climb_140 (by decide) rfl ?_
          refine g_iinc (pc := 142) C (j := 8) (v := (v7 + 1)) (lv2 := [(7, .int (v7 + 1)), (4, .long t6), (2, .long t5), (6, .int v7), (11, .long t6), (9, .long t5), (8, .int t2), (0, .ref (ad Z 0)), (1, .int v1)]) dX8_climb_142 rfl rfl (by decide) rfl ?_
          refine g_goto (pc := 145) C (tgt := 39) dX8_climb_145 (by decide) ?_
          exact g_sub [7, 8, 2, 1, 3, 0] rfl (ih _ _ _ _ _ h)
set_option maxHeartbeats 1000000 in
set_option maxRecDepth 20000 in
theorem kX8_climb_e {p : Program} {l : Launch} {e : Env} {s : State} {m : MethodId} {args : Array Value} {below : List Frame} {meth : Method} {c : Code} {Z : Sh} (C : Cx p s m args meth c cX8_climb 13 wsX8_climb RX8 (some .int) Z layM) {σ : Sg} {v1 : Int32} {u : Sg × Int32}  (h : fX8_climb σ v1 = some u) : G p l e rX8_climb s m args below meth c 13 Z layM (MQ below (QI Z layM u.1 u.2 s.heap.size) args s 0 0 (pA Z layM s.heap.size)) σ 0 [(0, .ref (ad Z 0)), (1, .int v1)] [] := by
  unfold fX8_climb at h
  refine g_aload_n (pc := 0) C dX8_climb_0 rfl 0 rfl ?_
  refine g_iload_n (pc := 1) C dX8_climb_1 rfl 1 rfl ?_
  obtain ⟨t1, et1, h⟩ := bs h
  refine g_callVi (pc := 2) C (As := [.int v1]) (rest := []) (k := 0) (by rfl) (by rfl) (cwV 1 C.2.2.2.2.2.1 gX8_climb_X8_isLord rfl rfl rfl (by decide +kernel) ⟨Nat.le_of_ble_eq_true rfl, Nat.le_of_ble_eq_true rfl⟩) (mX8_isLord l Z  et1) rfl rfl (Nat.le_of_ble_eq_true rfl) dX8_climb_2 ?_
  refine g_if_ne (pc := 5) C (tgt := 10) dX8_climb_5 (by decide) h (fun hc5 h => ?_) (fun hc5 h => ?_)
  · refine g_aload_n (pc := 10) C dX8_climb_10 rfl 0 rfl ?_
    refine g_bipush (pc := 11) C (v := (-4 : Int32)) dX8_climb_11 (by decide) ?_
    obtain ⟨u2, eu2, h⟩ := bs h
    refine g_callVi (pc := 13) C (As := [.int (-4 : Int32)]) (rest := []) (k := 0) (by rfl) (by rfl) (cwV 1 C.2.2.2.2.2.1 gX8_climb_X8_laysPlayers rfl rfl rfl (by decide +kernel) ⟨Nat.le_of_ble_eq_true rfl, Nat.le_of_ble_eq_true rfl⟩) (mX8_laysPlayers l Z  eu2) rfl rfl (Nat.le_of_ble_eq_true rfl) dX8_climb_13 ?_
    refine g_pop (pc := 16) C rfl dX8_climb_16 ?_
    refine g_aload_n (pc := 17) C dX8_climb_17 rfl 0 rfl ?_
    refine g_iload_n (pc := 18) C dX8_climb_18 rfl 1 rfl ?_
    obtain ⟨t3, et3, h⟩ := bs h
    refine g_callVl (pc := 19) C (As := [.int v1]) (rest := []) (k := 0) (by rfl) (by rfl) (cwV 1 C.2.2.2.2.2.1 gX8_climb_X8_ordersBy rfl rfl rfl (by decide +kernel) ⟨Nat.le_of_ble_eq_true rfl, Nat.le_of_ble_eq_true rfl⟩) (mX8_ordersBy l Z  et3) rfl rfl (Nat.le_of_ble_eq_true rfl) dX8_climb_19 ?_
    refine g_lstore_n (pc := 22) C (lv2 := [(2, .long t3), (0, .ref (ad Z 0)), (1, .int v1)]) dX8_climb_22 rfl (by decide) rfl ?_
    refine g_aload_n (pc := 23) C dX8_climb_23 rfl 1 rfl ?_
    refine g_geti (pc := 24) C (Cn := RX8) (T := TX8) (N := 32) (ci := 8) (k := 0) (j := 22) uX8_climb_X8 (by rfl) rfl (by decide) (by decide +kernel) (q := 0) rfl dX8_climb_24 ?_
    obtain ⟨t4, et4, h⟩ := bs h
    refine g_callSl (pc := 27) C (As := [.int (u2.1 0 22)]) (rest := []) (va_cwS 1 C.2.2.2.2.2.1 gX8_climb_X8_ordersOf rfl rfl rfl (by decide +kernel) ⟨Nat.le_of_ble_eq_true rfl, Nat.le_of_ble_eq_true rfl⟩) (mX8_ordersOf l Z  et4) rfl rfl (Nat.le_of_ble_eq_true rfl) dX8_climb_27 ?_
    refine g_lstore (pc := 30) C (lv2 := [(4, .long t4), (2, .long t3), (0, .ref (ad Z 0)), (1, .int v1)]) dX8_climb_30 (by decide) rfl ?_
    refine g_bipush (pc := 32) C (v := (-4 : Int32)) dX8_climb_32 (by decide) ?_
    refine g_istore (pc := 34) C (lv2 := [(6, .int (-4 : Int32)), (4, .long t4), (2, .long t3), (0, .ref (ad Z 0)), (1, .int v1)]) dX8_climb_34 (by decide) rfl ?_
    refine g_iconst (pc := 36) C (v := (0 : Int32)) dX8_climb_36 (by decide) ?_
    refine g_istore (pc := 37) C (lv2 := [(7, .int (0 : Int32)), (6, .int (-4 : Int32)), (4, .long t4), (2, .long t3), (0, .ref (ad Z 0)), (1, .int v1)]) dX8_climb_37 (by decide) rfl ?_
    exact g_sub [4, 5, 3, 2, 1, 0] rfl (kX8_climb_l39 C   _ _ _ _ _ _ h)
  · refine g_iconst (pc := 8) C (v := (-1 : Int32)) dX8_climb_8 (by decide) ?_
    exact g_iret C dX8_climb_9 (pfst h) (psnd h)
theorem mX8_climb (l : Launch) (Z : Sh) {σ : Sg} {v1 : Int32} {u : Sg × Int32}  (h : fX8_climb σ v1 = some u) : MI l Z layM yX8_climb wsX8_climb rX8_climb [.ref (ad Z 0), .int v1] σ u.1 u.2 :=
  MI.of (cc := cX8_climb) (maxL := 13) (ret := (some .int)) (by decide) rfl (Nat.le_of_ble_eq_true rfl) (fun p e s m below meth c C => kX8_climb_e C  h)

def rX8_small : Room := { frames := 2, cells := 0, slots := 0, locals := 45 }
theorem uX8_small_X8 : ∀ w ∈ wsX80, w ∈ wsX8_small := by decide +kernel
def fX8_small (σ : Sg) (v1 : Int32) : Option (Sg × Int32) := (fX8_in v1.toInt64 (0 : Int64) (5 : Int64)).bind fun t1 => if t1 = 0 then some (σ, (-1 : Int32)) else (fX8_laysRow σ).bind fun σ2 => if (σ2 0 20) ≤ v1 then some (σ2, (-4 : Int32)) else (rd (σ2 6) 6 v1).bind fun t3 => some (σ2, t3)
set_option maxHeartbeats 1000000 in
set_option maxRecDepth 20000 in
theorem kX8_small_e {p : Program} {l : Launch} {e : Env} {s : State} {m : MethodId} {args : Array Value} {below : List Frame} {meth : Method} {c : Code} {Z : Sh} (C : Cx p s m args meth c cX8_small 2 wsX8_small RX8 (some .int) Z layM) {σ : Sg} {v1 : Int32} {u : Sg × Int32}  (h : fX8_small σ v1 = some u) : G p l e rX8_small s m args below meth c 2 Z layM (MQ below (QI Z layM u.1 u.2 s.heap.size) args s 0 0 (pA Z layM s.heap.size)) σ 0 [(0, .ref (ad Z 0)), (1, .int v1)] [] := by
  unfold fX8_small at h
  refine g_iload_n (pc := 0) C dX8_small_0 rfl 1 rfl ?_
  refine g_i2l (pc := 1) C dX8_small_1 ?_
  refine g_lconst (pc := 2) C (v := (0 : Int64)) dX8_small_2 (by decide) ?_
  refine g_ldc2 (pc := 3) C (v := (5 : Int64)) (by decide +kernel) dX8_small_3 ?_
  obtain ⟨t1, et1, h⟩ := bs h
  refine g_callSi (pc := 6) C (As := [.long v1.toInt64, .long (0 : Int64), .long (5 : Int64)]) (rest := []) (va_cwS 3 C.2.2.2.2.2.1 gX8_small_X8_in rfl rfl rfl (by decide +kernel) ⟨Nat.le_of_ble_eq_true rfl, Nat.le_of_ble_eq_true rfl⟩) (mX8_in l Z  et1) rfl rfl (Nat.le_of_ble_eq_true rfl) dX8_small_6 ?_
  refine g_if_ne (pc := 9) C (tgt := 14) dX8_small_9 (by decide) h (fun hc9 h => ?_) (fun hc9 h => ?_)
  · refine g_aload_n (pc := 14) C dX8_small_14 rfl 0 rfl ?_
    obtain ⟨σ2, eσ2, h⟩ := bs h
    refine g_callVv (pc := 15) C (As := []) (rest := []) (k := 0) (by rfl) (by rfl) (cwV 0 C.2.2.2.2.2.1 gX8_small_X8_laysRow rfl rfl rfl (by decide +kernel) ⟨Nat.le_of_ble_eq_true rfl, Nat.le_of_ble_eq_true rfl⟩) (mX8_laysRow l Z  eσ2) rfl rfl (Nat.le_of_ble_eq_true rfl) dX8_small_15 ?_
    refine g_iload_n (pc := 18) C dX8_small_18 rfl 1 rfl ?_
    refine g_aload_n (pc := 19) C dX8_small_19 rfl 0 rfl ?_
    refine g_geti (pc := 20) C (Cn := RX8) (T := TX8) (N := 32) (ci := 8) (k := 0) (j := 20) uX8_small_X8 (by rfl) rfl (by decide) (by decide +kernel) (q := 0) rfl dX8_small_20 ?_
    refine g_icmp_ge (pc := 23) C (tgt := 35) dX8_small_23 (by decide) h (fun hc23 h => ?_) (fun hc23 h => ?_)
    · refine g_bipush (pc := 35) C (v := (-4 : Int32)) dX8_small_35 (by decide) ?_
      exact g_iret C dX8_small_37 (pfst h) (psnd h)
    · refine g_aload_n (pc := 26) C dX8_small_26 rfl 0 rfl ?_
      refine g_getr (pc := 27) C (Cn := RX8) (T := TX8) (N := 32) (ci := 8) (k := 0) (j := 19) uX8_small_X8 (by rfl) rfl (by decide) (by decide +kernel) (q := 6) rfl dX8_small_27 ?_
      refine g_iload_n (pc := 30) C dX8_small_30 rfl 1 rfl ?_
      obtain ⟨t3, et3, h⟩ := bs h
      refine g_iald (pc := 31) C (k := 6) (n := 6) (by rfl) et3 dX8_small_31 ?_
      refine g_goto (pc := 32) C (tgt := 37) dX8_small_32 (by decide) ?_
      exact g_iret C dX8_small_37 (pfst h) (psnd h)
  · refine g_iconst (pc := 12) C (v := (-1 : Int32)) dX8_small_12 (by decide) ?_
    exact g_iret C dX8_small_13 (pfst h) (psnd h)
theorem mX8_small (l : Launch) (Z : Sh) {σ : Sg} {v1 : Int32} {u : Sg × Int32}  (h : fX8_small σ v1 = some u) : MI l Z layM yX8_small wsX8_small rX8_small [.ref (ad Z 0), .int v1] σ u.1 u.2 :=
  MI.of (cc := cX8_small) (maxL := 2) (ret := (some .int)) (by decide) rfl (Nat.le_of_ble_eq_true rfl) (fun p e s m below meth c C => kX8_small_e C  h)

def rX8_line : Room := { frames := 2, cells := 0, slots := 0, locals := 45 }
theorem uX8_line_X8 : ∀ w ∈ wsX80, w ∈ wsX8_line := by decide +kernel
def fX8_line (σ : Sg) (v1 : Int32) : Option (Sg × Int32) := (fX8_in v1.toInt64 (1 : Int64) (5 : Int64)).bind fun t1 => if t1 = 0 then some (σ, (-1 : Int32)) else (fX8_laysRow σ).bind fun σ2 => if v1 < (σ2 0 20) then (rd (σ2 6) 6 (v1 - (1 : Int32))).bind fun t3 => (fX8_votesOf σ2 t3).bind fun t4 => (rd (σ2 6) 6 v1).bind fun t5 => (fX8_votesOf σ2 t5).bind fun t6 => if t4 = t6 then some (σ2, (0 : Int32)) else some (σ2, (1 : Int32)) else some (σ2, (-4 : Int32))
set_option maxHeartbeats 1000000 in
set_option maxRecDepth 20000 in
theorem kX8_line_e {p : Program} {l : Launch} {e : Env} {s : State} {m : MethodId} {args : Array Value} {below : List Frame} {meth : Method} {c : Code} {Z : Sh} (C : Cx p s m args meth c cX8_line 2 wsX8_line RX8 (some .int) Z layM) {σ : Sg} {v1 : Int32} {u : Sg × Int32}  (h : fX8_line σ v1 = some u) : G p l e rX8_line s m args below meth c 2 Z layM (MQ below (QI Z layM u.1 u.2 s.heap.size) args s 0 0 (pA Z layM s.heap.size)) σ 0 [(0, .ref (ad Z 0)), (1, .int v1)] [] := by
  unfold fX8_line at h
  refine g_iload_n (pc := 0) C dX8_line_0 rfl 1 rfl ?_
  refine g_i2l (pc := 1) C dX8_line_1 ?_
  refine g_lconst (pc := 2) C (v := (1 : Int64)) dX8_line_2 (by decide) ?_
  refine g_ldc2 (pc := 3) C (v := (5 : Int64)) (by decide +kernel) dX8_line_3 ?_
  obtain ⟨t1, et1, h⟩ := bs h
  refine g_callSi (pc := 6) C (As := [.long v1.toInt64, .long (1 : Int64), .long (5 : Int64)]) (rest := []) (va_cwS 3 C.2.2.2.2.2.1 gX8_line_X8_in rfl rfl rfl (by decide +kernel) ⟨Nat.le_of_ble_eq_true rfl, Nat.le_of_ble_eq_true rfl⟩) (mX8_in l Z  et1) rfl rfl (Nat.le_of_ble_eq_true rfl) dX8_line_6 ?_
  refine g_if_ne (pc := 9) C (tgt := 14) dX8_line_9 (by decide) h (fun hc9 h => ?_) (fun hc9 h => ?_)
  · refine g_aload_n (pc := 14) C dX8_line_14 rfl 0 rfl ?_
    obtain ⟨σ2, eσ2, h⟩ := bs h
    refine g_callVv (pc := 15) C (As := []) (rest := []) (k := 0) (by rfl) (by rfl) (cwV 0 C.2.2.2.2.2.1 gX8_line_X8_laysRow rfl rfl rfl (by decide +kernel) ⟨Nat.le_of_ble_eq_true rfl, Nat.le_of_ble_eq_true rfl⟩) (mX8_laysRow l Z  eσ2) rfl rfl (Nat.le_of_ble_eq_true rfl) dX8_line_15 ?_
    refine g_iload_n (pc := 18) C dX8_line_18 rfl 1 rfl ?_
    refine g_aload_n (pc := 19) C dX8_line_19 rfl 0 rfl ?_
    refine g_geti (pc := 20) C (Cn := RX8) (T := TX8) (N := 32) (ci := 8) (k := 0) (j := 20) uX8_line_X8 (by rfl) rfl (by decide) (by decide +kernel) (q := 0) rfl dX8_line_20 ?_
    refine g_icmp_lt (pc := 23) C (tgt := 31) dX8_line_23 (by decide) h (fun hc23 h => ?_) (fun hc23 h => ?_)
    · refine g_aload_n (pc := 31) C dX8_line_31 rfl 0 rfl ?_
      refine g_aload_n (pc := 32) C dX8_line_32 rfl 0 rfl ?_
      refine g_getr (pc := 33) C (Cn := RX8) (T := TX8) (N := 32) (ci := 8) (k := 0) (j := 19) uX8_line_X8 (by rfl) rfl (by decide) (by decide +kernel) (q := 6) rfl dX8_line_33 ?_
      refine g_iload_n (pc := 36) C dX8_line_36 rfl 1 rfl ?_
      refine g_iconst (pc := 37) C (v := (1 : Int32)) dX8_line_37 (by decide) ?_
      refine g_isub (pc := 38) C dX8_line_38 ?_
      obtain ⟨t3, et3, h⟩ := bs h
      refine g_iald (pc := 39) C (k := 6) (n := 6) (by rfl) et3 dX8_line_39 ?_
      obtain ⟨t4, et4, h⟩ := bs h
      refine g_callVi (pc := 40) C (As := [.int t3]) (rest := []) (k := 0) (by rfl) (by rfl) (cwV 1 C.2.2.2.2.2.1 gX8_line_X8_votesOf rfl rfl rfl (by decide +kernel) ⟨Nat.le_of_ble_eq_true rfl, Nat.le_of_ble_eq_true rfl⟩) (mX8_votesOf l Z  et4) rfl rfl (Nat.le_of_ble_eq_true rfl) dX8_line_40 ?_
      refine g_aload_n (pc := 43) C dX8_line_43 rfl 0 rfl ?_
      refine g_aload_n (pc := 44) C dX8_line_44 rfl 0 rfl ?_
      refine g_getr (pc := 45) C (Cn := RX8) (T := TX8) (N := 32) (ci := 8) (k := 0) (j := 19) uX8_line_X8 (by rfl) rfl (by decide) (by decide +kernel) (q := 6) rfl dX8_line_45 ?_
      refine g_iload_n (pc := 48) C dX8_line_48 rfl 1 rfl ?_
      obtain ⟨t5, et5, h⟩ := bs h
      refine g_iald (pc := 49) C (k := 6) (n := 6) (by rfl) et5 dX8_line_49 ?_
      obtain ⟨t6, et6, h⟩ := bs h
      refine g_callVi (pc := 50) C (As := [.int t5]) (rest := [.int t4]) (k := 0) (by rfl) (by rfl) (cwV 1 C.2.2.2.2.2.1 gX8_line_X8_votesOf rfl rfl rfl (by decide +kernel) ⟨Nat.le_of_ble_eq_true rfl, Nat.le_of_ble_eq_true rfl⟩) (mX8_votesOf l Z  et6) rfl rfl (Nat.le_of_ble_eq_true rfl) dX8_line_50 ?_
      refine g_icmp_eq (pc := 53) C (tgt := 60) dX8_line_53 (by decide) h (fun hc53 h => ?_) (fun hc53 h => ?_)
      · refine g_iconst (pc := 60) C (v := (0 : Int32)) dX8_line_60 (by decide) ?_
        exact g_iret C dX8_line_61 (pfst h) (psnd h)
      · refine g_iconst (pc := 56) C (v := (1 : Int32)) dX8_line_56 (by decide) ?_
        refine g_goto (pc := 57) C (tgt := 61) dX8_line_57 (by decide) ?_
        exact g_iret C dX8_line_61 (pfst h) (psnd h)
    · refine g_bipush (pc := 26) C (v := (-4 : Int32)) dX8_line_26 (by decide) ?_
      refine g_goto (pc := 28) C (tgt := 61) dX8_line_28 (by decide) ?_
      exact g_iret C dX8_line_61 (pfst h) (psnd h)
  · refine g_iconst (pc := 12) C (v := (-1 : Int32)) dX8_line_12 (by decide) ?_
    exact g_iret C dX8_line_13 (pfst h) (psnd h)
theorem mX8_line (l : Launch) (Z : Sh) {σ : Sg} {v1 : Int32} {u : Sg × Int32}  (h : fX8_line σ v1 = some u) : MI l Z layM yX8_line wsX8_line rX8_line [.ref (ad Z 0), .int v1] σ u.1 u.2 :=
  MI.of (cc := cX8_line) (maxL := 2) (ret := (some .int)) (by decide) rfl (Nat.le_of_ble_eq_true rfl) (fun p e s m below meth c C => kX8_line_e C  h)
