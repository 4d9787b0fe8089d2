def rX8_in : Room := { frames := 0, cells := 0, slots := 0, locals := 0 }
def fX8_in (v0 : Int64) (v2 : Int64) (v4 : Int64) : Option (Int32) := if (lg_cmp v0 v2) < 0 then some (0 : Int32) else if 0 < (lg_cmp v0 v4) then some (0 : Int32) else some (1 : Int32)
set_option maxHeartbeats 1000000 in
set_option maxRecDepth 20000 in
theorem kX8_in_e {p : Program} {l : Launch} {e : Env} {s : State} {m : MethodId} {args : Array Value} {below : List Frame} {meth : Method} {c : Code} {Z : Sh} (C : Cx p s m args meth c cX8_in 6 wsX8_in RX8 (some .boolean) Z layM) {σ : Sg} {v0 : Int64} {v2 : Int64} {v4 : Int64} {u : Int32}  (h : fX8_in v0 v2 v4 = some u) : G p l e rX8_in s m args below meth c 6 Z layM (MQ below (QI Z layM σ u s.heap.size) args s 0 0 (pA Z layM s.heap.size)) σ 0 [(0, .long v0), (2, .long v2), (4, .long v4)] [] := by
  unfold fX8_in at h
  refine g_lload_n (pc := 0) C dX8_in_0 rfl 0 rfl ?_
  refine g_lload_n (pc := 1) C dX8_in_1 rfl 1 rfl ?_
  refine g_lcmp (pc := 2) C dX8_in_2 ?_
  refine g_if_lt (pc := 3) C (tgt := 17) dX8_in_3 (by decide) h (fun hc3 h => ?_) (fun hc3 h => ?_)
  · refine g_iconst (pc := 17) C (v := (0 : Int32)) dX8_in_17 (by decide) ?_
    exact g_zret C dX8_in_18 rfl (rz0.trans h)
  · refine g_lload_n (pc := 6) C dX8_in_6 rfl 0 rfl ?_
    refine g_lload (pc := 7) C dX8_in_7 2 rfl ?_
    refine g_lcmp (pc := 9) C dX8_in_9 ?_
    refine g_if_gt (pc := 10) C (tgt := 17) dX8_in_10 (by decide) h (fun hc10 h => ?_) (fun hc10 h => ?_)
    · refine g_iconst (pc := 17) C (v := (0 : Int32)) dX8_in_17 (by decide) ?_
      exact g_zret C dX8_in_18 rfl (rz0.trans h)
    · refine g_iconst (pc := 13) C (v := (1 : Int32)) dX8_in_13 (by decide) ?_
      refine g_goto (pc := 14) C (tgt := 18) dX8_in_14 (by decide) ?_
      exact g_zret C dX8_in_18 rfl (rz1.trans h)
theorem mX8_in (l : Launch) (Z : Sh) {σ : Sg} {v0 : Int64} {v2 : Int64} {v4 : Int64} {u : Int32}  (h : fX8_in v0 v2 v4 = some u) : MI l Z layM yX8_in wsX8_in rX8_in [.long v0, .long v2, .long v4] σ σ u :=
  MI.of (cc := cX8_in) (maxL := 6) (ret := (some .boolean)) (by decide) rfl (Nat.le_of_ble_eq_true rfl) (fun p e s m below meth c C => kX8_in_e C  h)

def rX8_feed : Room := { frames := 1, cells := 0, slots := 0, locals := 25 }
theorem uX8_feed_X8 : ∀ w ∈ wsX80, w ∈ wsX8_feed := by decide +kernel
def fX8_feed (σ : Sg) (v1 : Int32) : Option (Sg × Int32) := (fX8_in v1.toInt64 (0 : Int64) (127 : Int64)).bind fun t1 => if t1 = 0 then some (σ, (-1 : Int32)) else if (σ 0 9) = (160 : Int32) then some (σ, (-3 : Int32)) else (wr σ 3 160 (σ 0 9) v1).bind fun σ2 => (pf σ2 0 9 ((σ2 0 9) + (1 : Int32))).bind fun σ3 => some (σ3, (σ3 0 9))
set_option maxHeartbeats 1000000 in
set_option maxRecDepth 20000 in
theorem kX8_feed_e {p : Program} {l : Launch} {e : Env} {s : State} {m : MethodId} {args : Array Value} {below : List Frame} {meth : Method} {c : Code} {Z : Sh} (C : Cx p s m args meth c cX8_feed 2 wsX8_feed RX8 (some .int) Z layM) {σ : Sg} {v1 : Int32} {u : Sg × Int32}  (h : fX8_feed σ v1 = some u) : G p l e rX8_feed s m args below meth c 2 Z layM (MQ below (QI Z layM u.1 u.2 s.heap.size) args s 0 0 (pA Z layM s.heap.size)) σ 0 [(0, .ref (ad Z 0)), (1, .int v1)] [] := by
  unfold fX8_feed at h
  refine g_iload_n (pc := 0) C dX8_feed_0 rfl 1 rfl ?_
  refine g_i2l (pc := 1) C dX8_feed_1 ?_
  refine g_lconst (pc := 2) C (v := (0 : Int64)) dX8_feed_2 (by decide) ?_
  refine g_ldc2 (pc := 3) C (v := (127 : Int64)) (by decide +kernel) dX8_feed_3 ?_
  obtain ⟨t1, et1, h⟩ := bs h
  refine g_callSi (pc := 6) C (As := [.long v1.toInt64, .long (0 : Int64), .long (127 : Int64)]) (rest := []) (va_cwS 3 C.2.2.2.2.2.1 gX8_feed_X8_in rfl rfl rfl (by decide +kernel) ⟨Nat.le_of_ble_eq_true rfl, Nat.le_of_ble_eq_true rfl⟩) (mX8_in l Z  et1) rfl rfl (Nat.le_of_ble_eq_true rfl) dX8_feed_6 ?_
  refine g_if_ne (pc := 9) C (tgt := 14) dX8_feed_9 (by decide) h (fun hc9 h => ?_) (fun hc9 h => ?_)
  · refine g_aload_n (pc := 14) C dX8_feed_14 rfl 0 rfl ?_
    refine g_geti (pc := 15) C (Cn := RX8) (T := TX8) (N := 32) (ci := 8) (k := 0) (j := 9) uX8_feed_X8 (by rfl) rfl (by decide) (by decide +kernel) (q := 0) rfl dX8_feed_15 ?_
    refine g_sipush (pc := 18) C (v := (160 : Int32)) dX8_feed_18 (by decide) ?_
    refine g_icmp_ne (pc := 21) C (tgt := 27) dX8_feed_21 (by decide) h (fun hc21 h => ?_) (fun hc21 h => ?_)
    · refine g_aload_n (pc := 27) C dX8_feed_27 rfl 0 rfl ?_
      refine g_getr (pc := 28) C (Cn := RX8) (T := TX8) (N := 32) (ci := 8) (k := 0) (j := 8) uX8_feed_X8 (by rfl) rfl (by decide) (by decide +kernel) (q := 3) rfl dX8_feed_28 ?_
      refine g_aload_n (pc := 31) C dX8_feed_31 rfl 0 rfl ?_
      refine g_geti (pc := 32) C (Cn := RX8) (T := TX8) (N := 32) (ci := 8) (k := 0) (j := 9) uX8_feed_X8 (by rfl) rfl (by decide) (by decide +kernel) (q := 0) rfl dX8_feed_32 ?_
      refine g_iload_n (pc := 35) C dX8_feed_35 rfl 1 rfl ?_
      obtain ⟨σ2, eσ2, h⟩ := bs h
      refine g_iast (pc := 36) C (k := 3) (n := 160) (by rfl) eσ2 dX8_feed_36 ?_
      refine g_aload_n (pc := 37) C dX8_feed_37 rfl 0 rfl ?_
      refine g_dup (pc := 38) C rfl dX8_feed_38 ?_
      refine g_geti (pc := 39) C (Cn := RX8) (T := TX8) (N := 32) (ci := 8) (k := 0) (j := 9) uX8_feed_X8 (by rfl) rfl (by decide) (by decide +kernel) (q := 0) rfl dX8_feed_39 ?_
      refine g_iconst (pc := 42) C (v := (1 : Int32)) dX8_feed_42 (by decide) ?_
      refine g_iadd (pc := 43) C dX8_feed_43 ?_
      obtain ⟨σ3, eσ3, h⟩ := bs h
      refine g_puti (pc := 44) C (Cn := RX8) (T := TX8) (N := 32) (ci := 8) (k := 0) (j := 9) uX8_feed_X8 (by rfl) rfl (by decide) (by decide +kernel) tyX8 tyX8_ok nmX8 rfl (by decide +kernel) rfl eσ3 dX8_feed_44 ?_
      refine g_aload_n (pc := 47) C dX8_feed_47 rfl 0 rfl ?_
      refine g_geti (pc := 48) C (Cn := RX8) (T := TX8) (N := 32) (ci := 8) (k := 0) (j := 9) uX8_feed_X8 (by rfl) rfl (by decide) (by decide +kernel) (q := 0) rfl dX8_feed_48 ?_
      exact g_iret C dX8_feed_51 (pfst h) (psnd h)
    · refine g_bipush (pc := 24) C (v := (-3 : Int32)) dX8_feed_24 (by decide) ?_
      exact g_iret C dX8_feed_26 (pfst h) (psnd h)
  · refine g_iconst (pc := 12) C (v := (-1 : Int32)) dX8_feed_12 (by decide) ?_
    exact g_iret C dX8_feed_13 (pfst h) (psnd h)
theorem mX8_feed (l : Launch) (Z : Sh) {σ : Sg} {v1 : Int32} {u : Sg × Int32}  (h : fX8_feed σ v1 = some u) : MI l Z layM yX8_feed wsX8_feed rX8_feed [.ref (ad Z 0), .int v1] σ u.1 u.2 :=
  MI.of (cc := cX8_feed) (maxL := 2) (ret := (some .int)) (by decide) rfl (Nat.le_of_ble_eq_true rfl) (fun p e s m below meth c C => kX8_feed_e C  h)

def rX8_end : Room := { frames := 1, cells := 0, slots := 0, locals := 25 }
theorem uX8_end_X8 : ∀ w ∈ wsX80, w ∈ wsX8_end := by decide +kernel
def fX8_end (σ : Sg) (v1 : Int32) : Option (Sg × Int32) := (fX8_in v1.toInt64 (0 : Int64) ((σ 0 9).toInt64)).bind fun t1 => if t1 = 0 then some (σ, (-1 : Int32)) else (pf σ 0 9 v1).bind fun σ2 => some (σ2, (σ 0 9))
set_option maxHeartbeats 1000000 in
set_option maxRecDepth 20000 in
theorem kX8_end_e {p : Program} {l : Launch} {e : Env} {s : State} {m : MethodId} {args : Array Value} {below : List Frame} {meth : Method} {c : Code} {Z : Sh} (C : Cx p s m args meth c cX8_end 3 wsX8_end RX8 (some .int) Z layM) {σ : Sg} {v1 : Int32} {u : Sg × Int32}  (h : fX8_end σ v1 = some u) : G p l e rX8_end s m args below meth c 3 Z layM (MQ below (QI Z layM u.1 u.2 s.heap.size) args s 0 0 (pA Z layM s.heap.size)) σ 0 [(0, .ref (ad Z 0)), (1, .int v1)] [] := by
  unfold fX8_end at h
  refine g_iload_n (pc := 0) C dX8_end_0 rfl 1 rfl ?_
  refine g_i2l (pc := 1) C dX8_end_1 ?_
  refine g_lconst (pc := 2) C (v := (0 : Int64)) dX8_end_2 (by decide) ?_
  refine g_aload_n (pc := 3) C dX8_end_3 rfl 0 rfl ?_
  refine g_geti (pc := 4) C (Cn := RX8) (T := TX8) (N := 32) (ci := 8) (k := 0) (j := 9) uX8_end_X8 (by rfl) rfl (by decide) (by decide +kernel) (q := 0) rfl dX8_end_4 ?_
  refine g_i2l (pc := 7) C dX8_end_7 ?_
  obtain ⟨t1, et1, h⟩ := bs h
  refine g_callSi (pc := 8) C (As := [.long v1.toInt64, .long (0 : Int64), .long ((σ 0 9).toInt64)]) (rest := []) (va_cwS 3 C.2.2.2.2.2.1 gX8_end_X8_in rfl rfl rfl (by decide +kernel) ⟨Nat.le_of_ble_eq_true rfl, Nat.le_of_ble_eq_true rfl⟩) (mX8_in l Z  et1) rfl rfl (Nat.le_of_ble_eq_true rfl) dX8_end_8 ?_
  refine g_if_ne (pc := 11) C (tgt := 16) dX8_end_11 (by decide) h (fun hc11 h => ?_) (fun hc11 h => ?_)
  · refine g_aload_n (pc := 16) C dX8_end_16 rfl 0 rfl ?_
    refine g_geti (pc := 17) C (Cn := RX8) (T := TX8) (N := 32) (ci := 8) (k := 0) (j := 9) uX8_end_X8 (by rfl) rfl (by decide) (by decide +kernel) (q := 0) rfl dX8_end_17 ?_
    refine g_istore_n (pc := 20) C (lv2 := [(2, .int (σ 0 9)), (0, .ref (ad Z 0)), (1, .int v1)]) dX8_end_20 rfl (by decide) rfl ?_
    refine g_aload_n (pc := 21) C dX8_end_21 rfl 1 rfl ?_
    refine g_iload_n (pc := 22) C dX8_end_22 rfl 2 rfl ?_
    obtain ⟨σ2, eσ2, h⟩ := bs h
    refine g_puti (pc := 23) C (Cn := RX8) (T := TX8) (N := 32) (ci := 8) (k := 0) (j := 9) uX8_end_X8 (by rfl) rfl (by decide) (by decide +kernel) tyX8 tyX8_ok nmX8 rfl (by decide +kernel) rfl eσ2 dX8_end_23 ?_
    refine g_iload_n (pc := 26) C dX8_end_26 rfl 0 rfl ?_
    exact g_iret C dX8_end_27 (pfst h) (psnd h)
  · refine g_iconst (pc := 14) C (v := (-1 : Int32)) dX8_end_14 (by decide) ?_
    exact g_iret C dX8_end_15 (pfst h) (psnd h)
theorem mX8_end (l : Launch) (Z : Sh) {σ : Sg} {v1 : Int32} {u : Sg × Int32}  (h : fX8_end σ v1 = some u) : MI l Z layM yX8_end wsX8_end rX8_end [.ref (ad Z 0), .int v1] σ u.1 u.2 :=
  MI.of (cc := cX8_end) (maxL := 3) (ret := (some .int)) (by decide) rfl (Nat.le_of_ble_eq_true rfl) (fun p e s m below meth c C => kX8_end_e C  h)

def rX8_byteAt : Room := { frames := 0, cells := 0, slots := 0, locals := 0 }
theorem uX8_byteAt_X8 : ∀ w ∈ wsX80, w ∈ wsX8_byteAt := by decide +kernel
def fX8_byteAt (σ : Sg) (v1 : Int32) : Option (Int32) := if (σ 0 9) ≤ v1 then some (-4 : Int32) else (rd (σ 3) 160 v1).bind fun t1 => some t1
set_option maxHeartbeats 1000000 in
set_option maxRecDepth 20000 in
theorem kX8_byteAt_e {p : Program} {l : Launch} {e : Env} {s : State} {m : MethodId} {args : Array Value} {below : List Frame} {meth : Method} {c : Code} {Z : Sh} (C : Cx p s m args meth c cX8_byteAt 2 wsX8_byteAt RX8 (some .int) Z layM) {σ : Sg} {v1 : Int32} {u : Int32}  (h : fX8_byteAt σ v1 = some u) : G p l e rX8_byteAt s m args below meth c 2 Z layM (MQ below (QI Z layM σ u s.heap.size) args s 0 0 (pA Z layM s.heap.size)) σ 0 [(0, .ref (ad Z 0)), (1, .int v1)] [] := by
  unfold fX8_byteAt at h
  refine g_iload_n (pc := 0) C dX8_byteAt_0 rfl 1 rfl ?_
  refine g_aload_n (pc := 1) C dX8_byteAt_1 rfl 0 rfl ?_
  refine g_geti (pc := 2) C (Cn := RX8) (T := TX8) (N := 32) (ci := 8) (k := 0) (j := 9) uX8_byteAt_X8 (by rfl) rfl (by decide) (by decide +kernel) (q := 0) rfl dX8_byteAt_2 ?_
  refine g_icmp_ge (pc := 5) C (tgt := 17) dX8_byteAt_5 (by decide) h (fun hc5 h => ?_) (fun hc5 h => ?_)
  · refine g_bipush (pc := 17) C (v := (-4 : Int32)) dX8_byteAt_17 (by decide) ?_
    exact g_iret C dX8_byteAt_19 rfl (Option.some.inj h)
  · refine g_aload_n (pc := 8) C dX8_byteAt_8 rfl 0 rfl ?_
    refine g_getr (pc := 9) C (Cn := RX8) (T := TX8) (N := 32) (ci := 8) (k := 0) (j := 8) uX8_byteAt_X8 (by rfl) rfl (by decide) (by decide +kernel) (q := 3) rfl dX8_byteAt_9 ?_
    refine g_iload_n (pc := 12) C dX8_byteAt_12 rfl 1 rfl ?_
    obtain ⟨t1, et1, h⟩ := bs h
    refine g_iald (pc := 13) C (k := 3) (n := 160) (by rfl) et1 dX8_byteAt_13 ?_
    refine g_goto (pc := 14) C (tgt := 19) dX8_byteAt_14 (by decide) ?_
    exact g_iret C dX8_byteAt_19 rfl (Option.some.inj h)
theorem mX8_byteAt (l : Launch) (Z : Sh) {σ : Sg} {v1 : Int32} {u : Int32}  (h : fX8_byteAt σ v1 = some u) : MI l Z layM yX8_byteAt wsX8_byteAt rX8_byteAt [.ref (ad Z 0), .int v1] σ σ u :=
  MI.of (cc := cX8_byteAt) (maxL := 2) (ret := (some .int)) (by decide) rfl (Nat.le_of_ble_eq_true rfl) (fun p e s m below meth c C => kX8_byteAt_e C  h)

def rX8_fails : Room := { frames := 0, cells := 0, slots := 0, locals := 0 }
theorem uX8_fails_X8 : ∀ w ∈ wsX80, w ∈ wsX8_fails := by decide +kernel
def fX8_fails (σ : Sg) (v1 : Int32) : Option (Sg) := if (σ 0 11) = 0 then (pf σ 0 11 v1).bind fun σ1 => (pf σ1 0 12 (σ1 0 14)).bind fun σ2 => some σ2 else some σ
set_option maxHeartbeats 1000000 in
set_option maxRecDepth 20000 in
theorem kX8_fails_e {p : Program} {l : Launch} {e : Env} {s : State} {m : MethodId} {args : Array Value} {below : List Frame} {meth : Method} {c : Code} {Z : Sh} (C : Cx p s m args meth c cX8_fails 2 wsX8_fails RX8 none Z layM) {σ : Sg} {v1 : Int32} {u : Sg}  (h : fX8_fails σ v1 = some u) : G p l e rX8_fails s m args below meth c 2 Z layM (MQ below (QV Z layM u s.heap.size) args s 0 0 (pA Z layM s.heap.size)) σ 0 [(0, .ref (ad Z 0)), (1, .int v1)] [] := by
  unfold fX8_fails at h
  refine g_aload_n (pc := 0) C dX8_fails_0 rfl 0 rfl ?_
  refine g_geti (pc := 1) C (Cn := RX8) (T := TX8) (N := 32) (ci := 8) (k := 0) (j := 11) uX8_fails_X8 (by rfl) rfl (by decide) (by decide +kernel) (q := 0) rfl dX8_fails_1 ?_
  refine g_if_ne (pc := 4) C (tgt := 20) dX8_fails_4 (by decide) h (fun hc4 h => ?_) (fun hc4 h => ?_)
  · exact g_vret C dX8_fails_20 (Option.some.inj h)
  · refine g_aload_n (pc := 7) C dX8_fails_7 rfl 0 rfl ?_
    refine g_iload_n (pc := 8) C dX8_fails_8 rfl 1 rfl ?_
    obtain ⟨σ1, eσ1, h⟩ := bs h
    refine g_puti (pc := 9) C (Cn := RX8) (T := TX8) (N := 32) (ci := 8) (k := 0) (j := 11) uX8_fails_X8 (by rfl) rfl (by decide) (by decide +kernel) tyX8 tyX8_ok nmX8 rfl (by decide +kernel) rfl eσ1 dX8_fails_9 ?_
    refine g_aload_n (pc := 12) C dX8_fails_12 rfl 0 rfl ?_
    refine g_aload_n (pc := 13) C dX8_fails_13 rfl 0 rfl ?_
    refine g_geti (pc := 14) C (Cn := RX8) (T := TX8) (N := 32) (ci := 8) (k := 0) (j := 14) uX8_fails_X8 (by rfl) rfl (by decide) (by decide +kernel) (q := 0) rfl dX8_fails_14 ?_
    obtain ⟨σ2, eσ2, h⟩ := bs h
    refine g_puti (pc := 17) C (Cn := RX8) (T := TX8) (N := 32) (ci := 8) (k := 0) (j := 12) uX8_fails_X8 (by rfl) rfl (by decide) (by decide +kernel) tyX8 tyX8_ok nmX8 rfl (by decide +kernel) rfl eσ2 dX8_fails_17 ?_
    exact g_vret C dX8_fails_20 (Option.some.inj h)
theorem mX8_fails (l : Launch) (Z : Sh) {σ : Sg} {v1 : Int32} {u : Sg}  (h : fX8_fails σ v1 = some u) : MV l Z layM yX8_fails wsX8_fails rX8_fails [.ref (ad Z 0), .int v1] σ u :=
  MV.of (cc := cX8_fails) (maxL := 2) (ret := none) (by decide) rfl (Nat.le_of_ble_eq_true rfl) (fun p e s m below meth c C => kX8_fails_e C  h)

def rX8_nameHere : Room := { frames := 1, cells := 0, slots := 0, locals := 21 }
theorem uX8_nameHere_X8 : ∀ w ∈ wsX80, w ∈ wsX8_nameHere := by decide +kernel
def fX8_nameHere_b106 (σ : Sg)  (k2 : Int32 → Option (Int32)) (v1 : Int32) (v2 : Int32) : Option (Int32) := if v2 = 0 then k2 (v1 + 1) else some v1
def fX8_nameHere_l51 (σ : Sg)  (k2 : Int32 → Option (Int32)) : Nat → Int32 → Int32 → Int32 → Option (Int32)
  | 0, _, _, _ => none
  | n + 1, v1, v2, v3 => if v2 = 0 then fX8_nameHere_b106 σ k2 v1 v2 else if ((σ 0 13) - (σ 0 14)) ≤ v3 then fX8_nameHere_b106 σ k2 v1 v2 else (fX8_byteAt σ ((σ 0 14) + v3)).bind fun t1 => (rd (σ 4) 7 v1).bind fun t2 => (rd (σ 5) 28 (t2 + v3)).bind fun t3 => if t1 = t3 then fX8_nameHere_l51 σ k2 n v1 (1 : Int32) (v3 + 1) else fX8_nameHere_l51 σ k2 n v1 (0 : Int32) (v3 + 1)
def fX8_nameHere_l2 (σ : Sg)   : Nat → Int32 → Option (Int32)
  | 0, _ => none
  | n + 1, v1 => if (6 : Int32) ≤ v1 then some (-4 : Int32) else if (σ 0 15) = (1 : Int32) then (rd (σ 4) 7 (v1 + (1 : Int32))).bind fun t1 => (rd (σ 4) 7 v1).bind fun t2 => if ((σ 0 13) - (σ 0 14)) = (t1 - t2) then fX8_nameHere_l51 σ (fun v1 => fX8_nameHere_l2 σ n v1) 2000 v1 (1 : Int32) (0 : Int32) else fX8_nameHere_l51 σ (fun v1 => fX8_nameHere_l2 σ n v1) 2000 v1 (0 : Int32) (0 : Int32) else some (-4 : Int32)
def fX8_nameHere (σ : Sg)  : Option (Int32) := fX8_nameHere_l2 σ 2000 (0 : Int32)
set_option maxHeartbeats 1000000 in
set_option maxRecDepth 20000 in
theorem kX8_nameHere_b106 {p : Program} {l : Launch} {e : Env} {s : State} {m : MethodId} {args : Array Value} {below : List Frame} {meth : Method} {c : Code} {Z : Sh} (C : Cx p s m args meth c cX8_nameHere 4 wsX8_nameHere RX8 (some .int) Z layM) {σ : Sg}  {u : Int32}  {k2 : Int32 → Option (Int32)} (hk2 : ∀ (v1 : Int32), k2 v1 = some u → G p l e rX8_nameHere s m args below meth c 4 Z layM (MQ below (QI Z layM σ u s.heap.size) args s 0 0 (pA Z layM s.heap.size)) σ 2 [(0, .ref (ad Z 0)), (1, .int v1)] []) {v1 : Int32} {v2 : Int32} (h : fX8_nameHere_b106 σ k2 v1 v2 = some u) : G p l e rX8_nameHere s m args below meth c 4 Z layM (MQ below (QI Z layM σ u s.heap.size) args s 0 0 (pA Z layM s.heap.size)) σ 106 [(0, .ref (ad Z 0)), (1, .int v1), (2, .int v2)] [] := by
  unfold fX8_nameHere_b106 at h
  refine g_iload_n (pc := 106) C dX8_nameHere_106 rfl 2 rfl ?_
  refine g_if_eq (pc := 107) C (tgt := 112) dX8_nameHere_107 (by decide) h (fun hc107 h => ?_) (fun hc107 h => ?_)
  · refine g_iinc (pc := 112) C (j := 1) (v := (v1 + 1)) (lv2 := [(1, .int (v1 + 1)), (0, .ref (ad Z 0)), (2, .int v2)]) dX8_nameHere_112 rfl rfl (by decide) rfl ?_
    refine g_goto (pc := 115) C (tgt := 2) dX8_nameHere_115 (by decide) ?_
    exact g_sub [1, 0] rfl (hk2 _ h)
  · refine g_iload_n (pc := 110) C dX8_nameHere_110 rfl 1 rfl ?_
    exact g_iret C dX8_nameHere_111 rfl (Option.some.inj h)
set_option maxHeartbeats 1000000 in
set_option maxRecDepth 20000 in
theorem kX8_nameHere_l51 {p : Program} {l : Launch} {e : Env} {s : State} {m : MethodId} {args : Array Value} {below : List Frame} {meth : Method} {c : Code} {Z : Sh} (C : Cx p s m args meth c cX8_nameHere 4 wsX8_nameHere RX8 (some .int) Z layM) {σ : Sg}  {u : Int32}  {k2 : Int32 → Option (Int32)} (hk2 : ∀ (v1 : Int32), k2 v1 = some u → G p l e rX8_nameHere s m args below meth c 4 Z layM (MQ below (QI Z layM σ u s.heap.size) args s 0 0 (pA Z layM s.heap.size)) σ 2 [(0, .ref (ad Z 0)), (1, .int v1)] []) : ∀ (n : Nat) (v1 : Int32) (v2 : Int32) (v3 : Int32), fX8_nameHere_l51 σ k2 n v1 v2 v3 = some u → G p l e rX8_nameHere s m args below meth c 4 Z layM (MQ below (QI Z layM σ u s.heap.size) args s 0 0 (pA Z layM s.heap.size)) σ 51 [(0, .ref (ad Z 0)), (1, .int v1), (2, .int v2), (3, .int v3)] [] := by
  intro n
  induction n with
  | zero => intro v1 v2 v3 h; exact absurd h (by simp [fX8_nameHere_l51])
  | succ n ih =>
    intro v1 v2 v3 h
    rw [fX8_nameHere_l51] at h
    refine g_iload_n (pc := 51) C dX8_nameHere_51 rfl 2 rfl ?_
    refine g_if_eq (pc := 52) C (tgt := 106) dX8_nameHere_52 (by decide) h (fun hc52 h => ?_) (fun hc52 h => ?_)
    · exact g_sub [0, 1, 2] rfl (kX8_nameHere_b106 C  hk2  h)
    · refine g_iload_n (pc := 55) C dX8_nameHere_55 rfl 3 rfl ?_
      refine g_aload_n (pc := 56) C dX8_nameHere_56 rfl 0 rfl ?_
      refine g_geti (pc := 57) C (Cn := RX8) (T := TX8) (N := 32) (ci := 8) (k := 0) (j := 13) uX8_nameHere_X8 (by rfl) rfl (by decide) (by decide +kernel) (q := 0) rfl dX8_nameHere_57 ?_
      refine g_aload_n (pc := 60) C dX8_nameHere_60 rfl 0 rfl ?_
      refine g_geti (pc := 61) C (Cn := RX8) (T := TX8) (N := 32) (ci := 8) (k := 0) (j := 14) uX8_nameHere_X8 (by rfl) rfl (by decide) (by decide +kernel) (q := 0) rfl dX8_nameHere_61 ?_
      refine g_isub (pc := 64) C dX8_nameHere_64 ?_
      refine g_icmp_ge (pc := 65) C (tgt := 106) dX8_nameHere_65 (by decide) h (fun hc65 h => ?_) (fun hc65 h => ?_)
      · exact g_sub [0, 1, 2] rfl (kX8_nameHere_b106 C  hk2  h)
      · refine g_aload_n (pc := 68) C dX8_nameHere_68 rfl 0 rfl ?_
        refine g_aload_n (pc := 69) C dX8_nameHere_69 rfl 0 rfl ?_
        refine g_geti (pc := 70) C (Cn := RX8) (T := TX8) (N := 32) (ci := 8) (k := 0) (j := 14) uX8_nameHere_X8 (by rfl) rfl (by decide) (by decide +kernel) (q := 0) rfl dX8_nameHere_70 ?_
        refine g_iload_n (pc := 73) C dX8_nameHere_73 rfl 3 rfl ?_
        refine g_iadd (pc := 74) C dX8_nameHere_74 ?_
        obtain ⟨t1, et1, h⟩ := bs h
        refine g_callVi (pc := 75) C (As := [.int ((σ 0 14) + v3)]) (rest := []) (k := 0) (by rfl) (by rfl) (cwV 1 C.2.2.2.2.2.1 gX8_nameHere_X8_byteAt rfl rfl rfl (by decide +kernel) ⟨Nat.le_of_ble_eq_true rfl, Nat.le_of_ble_eq_true rfl⟩) (mX8_byteAt l Z  et1) rfl rfl (Nat.le_of_ble_eq_true rfl) dX8_nameHere_75 ?_
        refine g_aload_n (pc := 78) C dX8_nameHere_78 rfl 0 rfl ?_
        refine g_getr (pc := 79) C (Cn := RX8) (T := TX8) (N := 32) (ci := 8) (k := 0) (j := 18) uX8_nameHere_X8 (by rfl) rfl (by decide) (by decide +kernel) (q := 5) rfl dX8_nameHere_79 ?_
        refine g_aload_n (pc := 82) C dX8_nameHere_82 rfl 0 rfl ?_
        refine g_getr (pc := 83) C (Cn := RX8) (T := TX8) (N := 32) (ci := 8) (k := 0) (j := 17) uX8_nameHere_X8 (by rfl) rfl (by decide) (by decide +kernel) (q := 4) rfl dX8_nameHere_83 ?_
        refine g_iload_n (pc := 86) C dX8_nameHere_86 rfl 1 rfl ?_
        obtain ⟨t2, et2, h⟩ := bs h
        refine g_iald (pc := 87) C (k := 4) (n := 7) (by rfl) et2 dX8_nameHere_87 ?_
        refine g_iload_n (pc := 88) C dX8_nameHere_88 rfl 3 rfl ?_
        refine g_iadd (pc := 89) C dX8_nameHere_89 ?_
        obtain ⟨t3, et3, h⟩ := bs h
        refine g_iald (pc := 90) C (k := 5) (n := 28) (by rfl) et3 dX8_nameHere_90 ?_
        refine g_icmp_ne (pc := 91) C (tgt := 98) dX8_nameHere_91 (by decide) h (fun hc91 h => ?_) (fun hc91 h => ?_)
        · refine g_iconst (pc := 98) C (v := (0 : Int32)) dX8_nameHere_98 (by decide) ?_
          refine g_istore_n (pc := 99) C (lv2 := [(2, .int (0 : Int32)), (0, .ref (ad Z 0)), (1, .int v1), (3, .int v3)]) dX8_nameHere_99 rfl (by decide) rfl ?_
          refine g_iinc (pc := 100) C (j := 3) (v := (v3 + 1)) (lv2 := [(3, .int (v3 + 1)), (2, .int (0 : Int32)), (0, .ref (ad Z 0)), (1, .int v1)]) dX8_nameHere_100 rfl rfl (by decide) rfl ?_
          refine g_goto (pc := 103) C (tgt := 51) dX8_nameHere_103 (by decide) ?_
          exact g_sub [2, 3, 1, 0] rfl (ih _ _ _ h)
        · refine g_iconst (pc := 94) C (v := (1 : Int32)) dX8_nameHere_94 (by decide) ?_
          refine g_goto (pc := 95) C (tgt := 99) dX8_nameHere_95 (by decide) ?_
          refine g_istore_n (pc := 99) C (lv2 := [(2, .int (1 : Int32)), (0, .ref (ad Z 0)), (1, .int v1), (3, .int v3)]) dX8_nameHere_99 rfl (by decide) rfl ?_
          refine g_iinc (pc := 100) C (j := 3) (v := (v3 + 1)) (lv2 := [(3, .int (v3 + 1)), (2, .int (1 : Int32)), (0, .ref (ad Z 0)), (1, .int v1)]) dX8_nameHere_100 rfl rfl (by decide) rfl ?_
          refine g_goto (pc := 103) C (tgt := 51) dX8_nameHere_103 (by decide) ?_
          exact g_sub [2, 3, 1, 0] rfl (ih _ _ _ h)
set_option maxHeartbeats 1000000 in
set_option maxRecDepth 20000 in
theorem kX8_nameHere_l2 {p : Program} {l : Launch} {e : Env} {s : State} {m : MethodId} {args : Array Value} {below : List Frame} {meth : Method} {c : Code} {Z : Sh} (C : Cx p s m args meth c cX8_nameHere 4 wsX8_nameHere RX8 (some .int) Z layM) {σ : Sg}  {u : Int32}   : ∀ (n : Nat) (v1 : Int32), fX8_nameHere_l2 σ n v1 = some u → G p l e rX8_nameHere s m args below meth c 4 Z layM (MQ below (QI Z layM σ u s.heap.size) args s 0 0 (pA Z layM s.heap.size)) σ 2 [(0, .ref (ad Z 0)), (1, .int v1)] [] := by
  intro n
  induction n with
  | zero => intro v1 h; exact absurd h (by simp [fX8_nameHere_l2])
  | succ n ih =>
    intro v1 h
    rw [fX8_nameHere_l2] at h
    refine g_iload_n (pc := 2) C dX8_nameHere_2 rfl 1 rfl ?_
    refine g_bipush (pc := 3) C (v := (6 : Int32)) dX8_nameHere_3 (by decide) ?_
    refine g_icmp_ge (pc := 5) C (tgt := 118) dX8_nameHere_5 (by decide) h (fun hc5 h => ?_) (fun hc5 h => ?_)
    · refine g_bipush (pc := 118) C (v := (-4 : Int32)) dX8_nameHere_118 (by decide) ?_
      exact g_iret C dX8_nameHere_120 rfl (Option.some.inj h)
    · refine g_aload_n (pc := 8) C dX8_nameHere_8 rfl 0 rfl ?_
      refine g_geti (pc := 9) C (Cn := RX8) (T := TX8) (N := 32) (ci := 8) (k := 0) (j := 15) uX8_nameHere_X8 (by rfl) rfl (by decide) (by decide +kernel) (q := 0) rfl dX8_nameHere_9 ?_
      refine g_iconst (pc := 12) C (v := (1 : Int32)) dX8_nameHere_12 (by decide) ?_
      refine g_icmp_ne (pc := 13) C (tgt := 118) dX8_nameHere_13 (by decide) h (fun hc13 h => ?_) (fun hc13 h => ?_)
      · refine g_bipush (pc := 118) C (v := (-4 : Int32)) dX8_nameHere_118 (by decide) ?_
        exact g_iret C dX8_nameHere_120 rfl (Option.some.inj h)
      · refine g_aload_n (pc := 16) C dX8_nameHere_16 rfl 0 rfl ?_
        refine g_geti (pc := 17) C (Cn := RX8) (T := TX8) (N := 32) (ci := 8) (k := 0) (j := 13) uX8_nameHere_X8 (by rfl) rfl (by decide) (by decide +kernel) (q := 0) rfl dX8_nameHere_17 ?_
        refine g_aload_n (pc := 20) C dX8_nameHere_20 rfl 0 rfl ?_
        refine g_geti (pc := 21) C (Cn := RX8) (T := TX8) (N := 32) (ci := 8) (k := 0) (j := 14) uX8_nameHere_X8 (by rfl) rfl (by decide) (by decide +kernel) (q := 0) rfl dX8_nameHere_21 ?_
        refine g_isub (pc := 24) C dX8_nameHere_24 ?_
        refine g_aload_n (pc := 25) C dX8_nameHere_25 rfl 0 rfl ?_
        refine g_getr (pc := 26) C (Cn := RX8) (T := TX8) (N := 32) (ci := 8) (k := 0) (j := 17) uX8_nameHere_X8 (by rfl) rfl (by decide) (by decide +kernel) (q := 4) rfl dX8_nameHere_26 ?_
        refine g_iload_n (pc := 29) C dX8_nameHere_29 rfl 1 rfl ?_
        refine g_iconst (pc := 30) C (v := (1 : Int32)) dX8_nameHere_30 (by decide) ?_
        refine g_iadd (pc := 31) C dX8_nameHere_31 ?_
        obtain ⟨t1, et1, h⟩ := bs h
        refine g_iald (pc := 32) C (k := 4) (n := 7) (by rfl) et1 dX8_nameHere_32 ?_
        refine g_aload_n (pc := 33) C dX8_nameHere_33 rfl 0 rfl ?_
        refine g_getr (pc := 34) C (Cn := RX8) (T := TX8) (N := 32) (ci := 8) (k := 0) (j := 17) uX8_nameHere_X8 (by rfl) rfl (by decide) (by decide +kernel) (q := 4) rfl dX8_nameHere_34 ?_
        refine g_iload_n (pc := 37) C dX8_nameHere_37 rfl 1 rfl ?_
        obtain ⟨t2, et2, h⟩ := bs h
        refine g_iald (pc := 38) C (k := 4) (n := 7) (by rfl) et2 dX8_nameHere_38 ?_
        refine g_isub (pc := 39) C dX8_nameHere_39 ?_
        refine g_icmp_ne (pc := 40) C (tgt := 47) dX8_nameHere_40 (by decide) h (fun hc40 h => ?_) (fun hc40 h => ?_)
        · refine g_iconst (pc := 47) C (v := (0 : Int32)) dX8_nameHere_47 (by decide) ?_
          refine g_istore_n (pc := 48) C (lv2 := [(2, .int (0 : Int32)), (0, .ref (ad Z 0)), (1, .int v1)]) dX8_nameHere_48 rfl (by decide) rfl ?_
          refine g_iconst (pc := 49) C (v := (0 : Int32)) dX8_nameHere_49 (by decide) ?_
          refine g_istore_n (pc := 50) C (lv2 := [(3, .int (0 : Int32)), (2, .int (0 : Int32)), (0, .ref (ad Z 0)), (1, .int v1)]) dX8_nameHere_50 rfl (by decide) rfl ?_
          exact g_sub [2, 3, 1, 0] rfl (kX8_nameHere_l51 C  ih _ _ _ _ h)
        · refine g_iconst (pc := 43) C (v := (1 : Int32)) dX8_nameHere_43 (by decide) ?_
          refine g_goto (pc := 44) C (tgt := 48) dX8_nameHere_44 (by decide) ?_
          refine g_istore_n (pc := 48) C (lv2 := [(2, .int (1 : Int32)), (0, .ref (ad Z 0)), (1, .int v1)]) dX8_nameHere_48 rfl (by decide) rfl ?_
          refine g_iconst (pc := 49) C (v := (0 : Int32)) dX8_nameHere_49 (by decide) ?_
          refine g_istore_n (pc := 50) C (lv2 := [(3, .int (0 : Int32)), (2, .int (1 : Int32)), (0, .ref (ad Z 0)), (1, .int v1)]) dX8_nameHere_50 rfl (by decide) rfl ?_
          exact g_sub [2, 3, 1, 0] rfl (kX8_nameHere_l51 C  ih _ _ _ _ h)
set_option maxHeartbeats 1000000 in
set_option maxRecDepth 20000 in
theorem kX8_nameHere_e {p : Program} {l : Launch} {e : Env} {s : State} {m : MethodId} {args : Array Value} {below : List Frame} {meth : Method} {c : Code} {Z : Sh} (C : Cx p s m args meth c cX8_nameHere 4 wsX8_nameHere RX8 (some .int) Z layM) {σ : Sg}  {u : Int32}  (h : fX8_nameHere σ = some u) : G p l e rX8_nameHere s m args below meth c 4 Z layM (MQ below (QI Z layM σ u s.heap.size) args s 0 0 (pA Z layM s.heap.size)) σ 0 [(0, .ref (ad Z 0))] [] := by
  unfold fX8_nameHere at h
  refine g_iconst (pc := 0) C (v := (0 : Int32)) dX8_nameHere_0 (by decide) ?_
  refine g_istore_n (pc := 1) C (lv2 := [(1, .int (0 : Int32)), (0, .ref (ad Z 0))]) dX8_nameHere_1 rfl (by decide) rfl ?_
  exact g_sub [1, 0] rfl (kX8_nameHere_l2 C   _ _ h)
theorem mX8_nameHere (l : Launch) (Z : Sh) {σ : Sg}  {u : Int32}  (h : fX8_nameHere σ = some u) : MI l Z layM yX8_nameHere wsX8_nameHere rX8_nameHere [.ref (ad Z 0)] σ σ u :=
  MI.of (cc := cX8_nameHere) (maxL := 4) (ret := (some .int)) (by decide) rfl (Nat.le_of_ble_eq_true rfl) (fun p e s m below meth c C => kX8_nameHere_e C  h)

def rX8_step : Room := { frames := 1, cells := 0, slots := 0, locals := 25 }
theorem uX8_step_X8 : ∀ w ∈ wsX80, w ∈ wsX8_step := by decide +kernel
def fX8_step_l84   : Nat → Sg → Option (Sg)
  | 0, _ => none
  | n + 1, σ => (fX8_byteAt σ (σ 0 13)).bind fun t1 => (fX8_in t1.toInt64 (97 : Int64) (122 : Int64)).bind fun t2 => if t2 = 0 then (pf σ 0 15 (1 : Int32)).bind fun σ3 => some σ3 else (pf σ 0 13 ((σ 0 13) + (1 : Int32))).bind fun σ4 => fX8_step_l84 n σ4
def fX8_step_b201  (k140 : Sg → Option (Sg)) (σ : Sg) (s1 : Int32) : Option (Sg) := (pf σ 0 16 s1).bind fun σ1 => (pf σ1 0 13 ((σ1 0 13) + (1 : Int32))).bind fun σ2 => k140 σ2
def fX8_step_l140   : Nat → Sg → Option (Sg)
  | 0, _ => none
  | n + 1, σ => (fX8_byteAt σ (σ 0 13)).bind fun t1 => (fX8_in t1.toInt64 (48 : Int64) (57 : Int64)).bind fun t2 => if t2 = 0 then (pf σ 0 15 (2 : Int32)).bind fun σ3 => if ((σ3 0 13) - (σ3 0 14)) ≤ (2 : Int32) then some σ3 else (fX8_fails σ3 (1 : Int32)).bind fun σ4 => some σ4 else if (2 : Int32) ≤ ((σ 0 13) - (σ 0 14)) then fX8_step_b201 (fun σ => fX8_step_l140 n σ) σ (σ 0 16) else (fX8_byteAt σ (σ 0 13)).bind fun t5 => fX8_step_b201 (fun σ => fX8_step_l140 n σ) σ ((((10 : Int32) * (σ 0 16)) + t5) - (48 : Int32))
def fX8_step_l8   : Nat → Sg → Option (Sg)
  | 0, _ => none
  | n + 1, σ => (fX8_byteAt σ (σ 0 13)).bind fun t1 => if t1 = (32 : Int32) then (pf σ 0 13 ((σ 0 13) + (1 : Int32))).bind fun σ11 => fX8_step_l8 n σ11 else (pf σ 0 14 (σ 0 13)).bind fun σ2 => (fX8_byteAt σ2 (σ2 0 13)).bind fun t3 => (pf σ2 0 16 (0 : Int32)).bind fun σ4 => if t3 = (-4 : Int32) then (pf σ4 0 15 (0 : Int32)).bind fun σ10 => some σ10 else (fX8_in t3.toInt64 (97 : Int64) (122 : Int64)).bind fun t5 => if t5 = 0 then (fX8_in t3.toInt64 (48 : Int64) (57 : Int64)).bind fun t6 => if t6 = 0 then (pf σ4 0 15 (3 : Int32)).bind fun σ7 => (pf σ7 0 13 ((σ7 0 13) + (1 : Int32))).bind fun σ8 => if t3 = (59 : Int32) then some σ8 else (fX8_fails σ8 (1 : Int32)).bind fun σ9 => some σ9 else fX8_step_l140 2000 σ4 else fX8_step_l84 2000 σ4
def fX8_step (σ : Sg)  : Option (Sg) := if (σ 0 11) ≤ 0 then fX8_step_l8 2000 σ else some σ
set_option maxHeartbeats 1000000 in
set_option maxRecDepth 20000 in
theorem kX8_step_l84 {p : Program} {l : Launch} {e : Env} {s : State} {m : MethodId} {args : Array Value} {below : List Frame} {meth : Method} {c : Code} {Z : Sh} (C : Cx p s m args meth c cX8_step 2 wsX8_step RX8 none Z layM)  {u : Sg}   : ∀ (n : Nat) (σ : Sg), fX8_step_l84 n σ = some u → G p l e rX8_step s m args below meth c 2 Z layM (MQ below (QV Z layM u s.heap.size) args s 0 0 (pA Z layM s.heap.size)) σ 84 [(0, .ref (ad Z 0))] [] := by
  intro n
  induction n with
  | zero => intro σ h; exact absurd h (by simp [fX8_step_l84])
  | succ n ih =>
    intro σ h
    rw [fX8_step_l84] at h
    refine g_aload_n (pc := 84) C dX8_step_84 rfl 0 rfl ?_
    refine g_aload_n (pc := 85) C dX8_step_85 rfl 0 rfl ?_
    refine g_geti (pc := 86) C (Cn := RX8) (T := TX8) (N := 32) (ci := 8) (k := 0) (j := 13) uX8_step_X8 (by rfl) rfl (by decide) (by decide +kernel) (q := 0) rfl dX8_step_86 ?_
    obtain ⟨t1, et1, h⟩ := bs h
    refine g_callVi (pc := 89) C (As := [.int (σ 0 13)]) (rest := []) (k := 0) (by rfl) (by rfl) (cwV 1 C.2.2.2.2.2.1 gX8_step_X8_byteAt rfl rfl rfl (by decide +kernel) ⟨Nat.le_of_ble_eq_true rfl, Nat.le_of_ble_eq_true rfl⟩) (mX8_byteAt l Z  et1) rfl rfl (Nat.le_of_ble_eq_true rfl) dX8_step_89 ?_
    refine g_i2l (pc := 92) C dX8_step_92 ?_
    refine g_ldc2 (pc := 93) C (v := (97 : Int64)) (by decide +kernel) dX8_step_93 ?_
    refine g_ldc2 (pc := 96) C (v := (122 : Int64)) (by decide +kernel) dX8_step_96 ?_
    obtain ⟨t2, et2, h⟩ := bs h
    refine g_callSi (pc := 99) C (As := [.long t1.toInt64, .long (97 : Int64), .long (122 : Int64)]) (rest := []) (va_cwS 3 C.2.2.2.2.2.1 gX8_step_X8_in rfl rfl rfl (by decide +kernel) ⟨Nat.le_of_ble_eq_true rfl, Nat.le_of_ble_eq_true rfl⟩) (mX8_in l Z  et2) rfl rfl (Nat.le_of_ble_eq_true rfl) dX8_step_99 ?_
    refine g_if_eq (pc := 102) C (tgt := 118) dX8_step_102 (by decide) h (fun hc102 h => ?_) (fun hc102 h => ?_)
    · refine g_aload_n (pc := 118) C dX8_step_118 rfl 0 rfl ?_
      refine g_iconst (pc := 119) C (v := (1 : Int32)) dX8_step_119 (by decide) ?_
      obtain ⟨σ3, eσ3, h⟩ := bs h
      refine g_puti (pc := 120) C (Cn := RX8) (T := TX8) (N := 32) (ci := 8) (k := 0) (j := 15) uX8_step_X8 (by rfl) rfl (by decide) (by decide +kernel) tyX8 tyX8_ok nmX8 rfl (by decide +kernel) rfl eσ3 dX8_step_120 ?_
      refine g_goto (pc := 123) C (tgt := 269) dX8_step_123 (by decide) ?_
      exact g_vret C dX8_step_269 (Option.some.inj h)
    · refine g_aload_n (pc := 105) C dX8_step_105 rfl 0 rfl ?_
      refine g_dup (pc := 106) C rfl dX8_step_106 ?_
      refine g_geti (pc := 107) C (Cn := RX8) (T := TX8) (N := 32) (ci := 8) (k := 0) (j := 13) uX8_step_X8 (by rfl) rfl (by decide) (by decide +kernel) (q := 0) rfl dX8_step_107 ?_
      refine g_iconst (pc := 110) C (v := (1 : Int32)) dX8_step_110 (by decide) ?_
      refine g_iadd (pc := 111) C dX8_step_111 ?_
      obtain ⟨σ4, eσ4, h⟩ := bs h
      refine g_puti (pc := 112) C (Cn := RX8) (T := TX8) (N := 32) (ci := 8) (k := 0) (j := 13) uX8_step_X8 (by rfl) rfl (by decide) (by decide +kernel) tyX8 tyX8_ok nmX8 rfl (by decide +kernel) rfl eσ4 dX8_step_112 ?_
      refine g_goto (pc := 115) C (tgt := 84) dX8_step_115 (by decide) ?_
      exact g_sub [0] rfl (ih _ h)
set_option maxHeartbeats 1000000 in
set_option maxRecDepth 20000 in
theorem kX8_step_b201 {p : Program} {l : Launch} {e : Env} {s : State} {m : MethodId} {args : Array Value} {below : List Frame} {meth : Method} {c : Code} {Z : Sh} (C : Cx p s m args meth c cX8_step 2 wsX8_step RX8 none Z layM)  {u : Sg}  {k140 : Sg → Option (Sg)} (hk140 : ∀ (σ : Sg), k140 σ = some u → G p l e rX8_step s m args below meth c 2 Z layM (MQ below (QV Z layM u s.heap.size) args s 0 0 (pA Z layM s.heap.size)) σ 140 [(0, .ref (ad Z 0))] []) {σ : Sg} {s1 : Int32} (h : fX8_step_b201 k140 σ s1 = some u) : G p l e rX8_step s m args below meth c 2 Z layM (MQ below (QV Z layM u s.heap.size) args s 0 0 (pA Z layM s.heap.size)) σ 201 [(0, .ref (ad Z 0))] [.int s1, .ref (ad Z 0)] := by
  unfold fX8_step_b201 at h
  obtain ⟨σ1, eσ1, h⟩ := bs h
  refine g_puti (pc := 201) C (Cn := RX8) (T := TX8) (N := 32) (ci := 8) (k := 0) (j := 16) uX8_step_X8 (by rfl) rfl (by decide) (by decide +kernel) tyX8 tyX8_ok nmX8 rfl (by decide +kernel) rfl eσ1 dX8_step_201 ?_
  refine g_aload_n (pc := 204) C dX8_step_204 rfl 0 rfl ?_
  refine g_dup (pc := 205) C rfl dX8_step_205 ?_
  refine g_geti (pc := 206) C (Cn := RX8) (T := TX8) (N := 32) (ci := 8) (k := 0) (j := 13) uX8_step_X8 (by rfl) rfl (by decide) (by decide +kernel) (q := 0) rfl dX8_step_206 ?_
  refine g_iconst (pc := 209) C (v := (1 : Int32)) dX8_step_209 (by decide) ?_
  refine g_iadd (pc := 210) C dX8_step_210 ?_
  obtain ⟨σ2, eσ2, h⟩ := bs h
  refine g_puti (pc := 211) C (Cn := RX8) (T := TX8) (N := 32) (ci := 8) (k := 0) (j := 13) uX8_step_X8 (by rfl) rfl (by decide) (by decide +kernel) tyX8 tyX8_ok nmX8 rfl (by decide +kernel) rfl eσ2 dX8_step_211 ?_
  refine g_goto (pc := 214) C (tgt := 140) dX8_step_214 (by decide) ?_
  exact g_sub [0] rfl (hk140 _ h)
set_option maxHeartbeats 1000000 in
set_option maxRecDepth 20000 in
theorem kX8_step_l140 {p : Program} {l : Launch} {e : Env} {s : State} {m : MethodId} {args : Array Value} {below : List Frame} {meth : Method} {c : Code} {Z : Sh} (C : Cx p s m args meth c cX8_step 2 wsX8_step RX8 none Z layM)  {u : Sg}   : ∀ (n : Nat) (σ : Sg), fX8_step_l140 n σ = some u → G p l e rX8_step s m args below meth c 2 Z layM (MQ below (QV Z layM u s.heap.size) args s 0 0 (pA Z layM s.heap.size)) σ 140 [(0, .ref (ad Z 0))] [] := by
  intro n
  induction n with
  | zero => intro σ h; exact absurd h (by simp [fX8_step_l140])
  | succ n ih =>
    intro σ h
    rw [fX8_step_l140] at h
    refine g_aload_n (pc := 140) C dX8_step_140 rfl 0 rfl ?_
    refine g_aload_n (pc := 141) C dX8_step_141 rfl 0 rfl ?_
    refine g_geti (pc := 142) C (Cn := RX8) (T := TX8) (N := 32) (ci := 8) (k := 0) (j := 13) uX8_step_X8 (by rfl) rfl (by decide) (by decide +kernel) (q := 0) rfl dX8_step_142 ?_
    obtain ⟨t1, et1, h⟩ := bs h
    refine g_callVi (pc := 145) C (As := [.int (σ 0 13)]) (rest := []) (k := 0) (by rfl) (by rfl) (cwV 1 C.2.2.2.2.2.1 gX8_step_X8_byteAt rfl rfl rfl (by decide +kernel) ⟨Nat.le_of_ble_eq_true rfl, Nat.le_of_ble_eq_true rfl⟩) (mX8_byteAt l Z  et1) rfl rfl (Nat.le_of_ble_eq_true rfl) dX8_step_145 ?_
    refine g_i2l (pc := 148) C dX8_step_148 ?_
    refine g_ldc2 (pc := 149) C (v := (48 : Int64)) (by decide +kernel) dX8_step_149 ?_
    refine g_ldc2 (pc := 152) C (v := (57 : Int64)) (by decide +kernel) dX8_step_152 ?_
    obtain ⟨t2, et2, h⟩ := bs h
    refine g_callSi (pc := 155) C (As := [.long t1.toInt64, .long (48 : Int64), .long (57 : Int64)]) (rest := []) (va_cwS 3 C.2.2.2.2.2.1 gX8_step_X8_in rfl rfl rfl (by decide +kernel) ⟨Nat.le_of_ble_eq_true rfl, Nat.le_of_ble_eq_true rfl⟩) (mX8_in l Z  et2) rfl rfl (Nat.le_of_ble_eq_true rfl) dX8_step_155 ?_
    refine g_if_eq (pc := 158) C (tgt := 217) dX8_step_158 (by decide) h (fun hc158 h => ?_) (fun hc158 h => ?_)
    · refine g_aload_n (pc := 217) C dX8_step_217 rfl 0 rfl ?_
      refine g_iconst (pc := 218) C (v := (2 : Int32)) dX8_step_218 (by decide) ?_
      obtain ⟨σ3, eσ3, h⟩ := bs h
      refine g_puti (pc := 219) C (Cn := RX8) (T := TX8) (N := 32) (ci := 8) (k := 0) (j := 15) uX8_step_X8 (by rfl) rfl (by decide) (by decide +kernel) tyX8 tyX8_ok nmX8 rfl (by decide +kernel) rfl eσ3 dX8_step_219 ?_
      refine g_aload_n (pc := 222) C dX8_step_222 rfl 0 rfl ?_
      refine g_geti (pc := 223) C (Cn := RX8) (T := TX8) (N := 32) (ci := 8) (k := 0) (j := 13) uX8_step_X8 (by rfl) rfl (by decide) (by decide +kernel) (q := 0) rfl dX8_step_223 ?_
      refine g_aload_n (pc := 226) C dX8_step_226 rfl 0 rfl ?_
      refine g_geti (pc := 227) C (Cn := RX8) (T := TX8) (N := 32) (ci := 8) (k := 0) (j := 14) uX8_step_X8 (by rfl) rfl (by decide) (by decide +kernel) (q := 0) rfl dX8_step_227 ?_
      refine g_isub (pc := 230) C dX8_step_230 ?_
      refine g_iconst (pc := 231) C (v := (2 : Int32)) dX8_step_231 (by decide) ?_
      refine g_icmp_le (pc := 232) C (tgt := 269) dX8_step_232 (by decide) h (fun hc232 h => ?_) (fun hc232 h => ?_)
      · exact g_vret C dX8_step_269 (Option.some.inj h)
      · refine g_aload_n (pc := 235) C dX8_step_235 rfl 0 rfl ?_
        refine g_iconst (pc := 236) C (v := (1 : Int32)) dX8_step_236 (by decide) ?_
        obtain ⟨σ4, eσ4, h⟩ := bs h
        refine g_callVv (pc := 237) C (As := [.int (1 : Int32)]) (rest := []) (k := 0) (by rfl) (by rfl) (cwV 1 C.2.2.2.2.2.1 gX8_step_X8_fails rfl rfl rfl (by decide +kernel) ⟨Nat.le_of_ble_eq_true rfl, Nat.le_of_ble_eq_true rfl⟩) (mX8_fails l Z  eσ4) rfl rfl (Nat.le_of_ble_eq_true rfl) dX8_step_237 ?_
        refine g_goto (pc := 240) C (tgt := 269) dX8_step_240 (by decide) ?_
        exact g_vret C dX8_step_269 (Option.some.inj h)
    · refine g_aload_n (pc := 161) C dX8_step_161 rfl 0 rfl ?_
      refine g_aload_n (pc := 162) C dX8_step_162 rfl 0 rfl ?_
      refine g_geti (pc := 163) C (Cn := RX8) (T := TX8) (N := 32) (ci := 8) (k := 0) (j := 13) uX8_step_X8 (by rfl) rfl (by decide) (by decide +kernel) (q := 0) rfl dX8_step_163 ?_
      refine g_aload_n (pc := 166) C dX8_step_166 rfl 0 rfl ?_
      refine g_geti (pc := 167) C (Cn := RX8) (T := TX8) (N := 32) (ci := 8) (k := 0) (j := 14) uX8_step_X8 (by rfl) rfl (by decide) (by decide +kernel) (q := 0) rfl dX8_step_167 ?_
      refine g_isub (pc := 170) C dX8_step_170 ?_
      refine g_iconst (pc := 171) C (v := (2 : Int32)) dX8_step_171 (by decide) ?_
      refine g_icmp_ge (pc := 172) C (tgt := 197) dX8_step_172 (by decide) h (fun hc172 h => ?_) (fun hc172 h => ?_)
      · refine g_aload_n (pc := 197) C dX8_step_197 rfl 0 rfl ?_
        refine g_geti (pc := 198) C (Cn := RX8) (T := TX8) (N := 32) (ci := 8) (k := 0) (j := 16) uX8_step_X8 (by rfl) rfl (by decide) (by decide +kernel) (q := 0) rfl dX8_step_198 ?_
        exact g_sub [0] rfl (kX8_step_b201 C  ih  h)
      · refine g_bipush (pc := 175) C (v := (10 : Int32)) dX8_step_175 (by decide) ?_
        refine g_aload_n (pc := 177) C dX8_step_177 rfl 0 rfl ?_
        refine g_geti (pc := 178) C (Cn := RX8) (T := TX8) (N := 32) (ci := 8) (k := 0) (j := 16) uX8_step_X8 (by rfl) rfl (by decide) (by decide +kernel) (q := 0) rfl dX8_step_178 ?_
        refine g_imul (pc := 181) C dX8_step_181 ?_
        refine g_aload_n (pc := 182) C dX8_step_182 rfl 0 rfl ?_
        refine g_aload_n (pc := 183) C dX8_step_183 rfl 0 rfl ?_
        refine g_geti (pc := 184) C (Cn := RX8) (T := TX8) (N := 32) (ci := 8) (k := 0) (j := 13) uX8_step_X8 (by rfl) rfl (by decide) (by decide +kernel) (q := 0) rfl dX8_step_184 ?_
        obtain ⟨t5, et5, h⟩ := bs h
        refine g_callVi (pc := 187) C (As := [.int (σ 0 13)]) (rest := [.int ((10 : Int32) * (σ 0 16)), .ref (ad Z 0)]) (k := 0) (by rfl) (by rfl) (cwV 1 C.2.2.2.2.2.1 gX8_step_X8_byteAt rfl rfl rfl (by decide +kernel) ⟨Nat.le_of_ble_eq_true rfl, Nat.le_of_ble_eq_true rfl⟩) (mX8_byteAt l Z  et5) rfl rfl (Nat.le_of_ble_eq_true rfl) dX8_step_187 ?_
        refine g_iadd (pc := 190) C dX8_step_190 ?_
        refine g_bipush (pc := 191) C (v := (48 : Int32)) dX8_step_191 (by decide) ?_
        refine g_isub (pc := 193) C dX8_step_193 ?_
        refine g_goto (pc := 194) C (tgt := 201) dX8_step_194 (by decide) ?_
        exact g_sub [0] rfl (kX8_step_b201 C  ih  h)
set_option maxHeartbeats 1000000 in
set_option maxRecDepth 20000 in
theorem kX8_step_l8 {p : Program} {l : Launch} {e : Env} {s : State} {m : MethodId} {args : Array Value} {below : List Frame} {meth : Method} {c : Code} {Z : Sh} (C : Cx p s m args meth c cX8_step 2 wsX8_step RX8 none Z layM)  {u : Sg}   : ∀ (n : Nat) (σ : Sg), fX8_step_l8 n σ = some u → G p l e rX8_step s m args below meth c 2 Z layM (MQ below (QV Z layM u s.heap.size) args s 0 0 (pA Z layM s.heap.size)) σ 8 [(0, .ref (ad Z 0))] [] := by
  intro n
  induction n with
  | zero => intro σ h; exact absurd h (by simp [fX8_step_l8])
  | succ n ih =>
    intro σ h
    rw [fX8_step_l8] at h
    refine g_aload_n (pc := 8) C dX8_step_8 rfl 0 rfl ?_
    refine g_aload_n (pc := 9) C dX8_step_9 rfl 0 rfl ?_
    refine g_geti (pc := 10) C (Cn := RX8) (T := TX8) (N := 32) (ci := 8) (k := 0) (j := 13) uX8_step_X8 (by rfl) rfl (by decide) (by decide +kernel) (q := 0) rfl dX8_step_10 ?_
    obtain ⟨t1, et1, h⟩ := bs h
    refine g_callVi (pc := 13) C (As := [.int (σ 0 13)]) (rest := []) (k := 0) (by rfl) (by rfl) (cwV 1 C.2.2.2.2.2.1 gX8_step_X8_byteAt rfl rfl rfl (by decide +kernel) ⟨Nat.le_of_ble_eq_true rfl, Nat.le_of_ble_eq_true rfl⟩) (mX8_byteAt l Z  et1) rfl rfl (Nat.le_of_ble_eq_true rfl) dX8_step_13 ?_
    refine g_bipush (pc := 16) C (v := (32 : Int32)) dX8_step_16 (by decide) ?_
    refine g_icmp_ne (pc := 18) C (tgt := 34) dX8_step_18 (by decide) h (fun hc18 h => ?_) (fun hc18 h => ?_)
    · refine g_aload_n (pc := 34) C dX8_step_34 rfl 0 rfl ?_
      refine g_aload_n (pc := 35) C dX8_step_35 rfl 0 rfl ?_
      refine g_geti (pc := 36) C (Cn := RX8) (T := TX8) (N := 32) (ci := 8) (k := 0) (j := 13) uX8_step_X8 (by rfl) rfl (by decide) (by decide +kernel) (q := 0) rfl dX8_step_36 ?_
      obtain ⟨σ2, eσ2, h⟩ := bs h
      refine g_puti (pc := 39) C (Cn := RX8) (T := TX8) (N := 32) (ci := 8) (k := 0) (j := 14) uX8_step_X8 (by rfl) rfl (by decide) (by decide +kernel) tyX8 tyX8_ok nmX8 rfl (by decide +kernel) rfl eσ2 dX8_step_39 ?_
      refine g_aload_n (pc := 42) C dX8_step_42 rfl 0 rfl ?_
      refine g_aload_n (pc := 43) C dX8_step_43 rfl 0 rfl ?_
      refine g_geti (pc := 44) C (Cn := RX8) (T := TX8) (N := 32) (ci := 8) (k := 0) (j := 13) uX8_step_X8 (by rfl) rfl (by decide) (by decide +kernel) (q := 0) rfl dX8_step_44 ?_
      obtain ⟨t3, et3, h⟩ := bs h
      refine g_callVi (pc := 47) C (As := [.int (σ2 0 13)]) (rest := []) (k := 0) (by rfl) (by rfl) (cwV 1 C.2.2.2.2.2.1 gX8_step_X8_byteAt rfl rfl rfl (by decide +kernel) ⟨Nat.le_of_ble_eq_true rfl, Nat.le_of_ble_eq_true rfl⟩) (mX8_byteAt l Z  et3) rfl rfl (Nat.le_of_ble_eq_true rfl) dX8_step_47 ?_
      refine g_istore_n (pc := 50) C (lv2 := [(1, .int t3), (0, .ref (ad Z 0))]) dX8_step_50 rfl (by decide) rfl ?_
      refine g_aload_n (pc := 51) C dX8_step_51 rfl 1 rfl ?_
      refine g_iconst (pc := 52) C (v := (0 : Int32)) dX8_step_52 (by decide) ?_
      obtain ⟨σ4, eσ4, h⟩ := bs h
      refine g_puti (pc := 53) C (Cn := RX8) (T := TX8) (N := 32) (ci := 8) (k := 0) (j := 16) uX8_step_X8 (by rfl) rfl (by decide) (by decide +kernel) tyX8 tyX8_ok nmX8 rfl (by decide +kernel) rfl eσ4 dX8_step_53 ?_
      refine g_iload_n (pc := 56) C dX8_step_56 rfl 0 rfl ?_
      refine g_bipush (pc := 57) C (v := (-4 : Int32)) dX8_step_57 (by decide) ?_
      refine g_icmp_ne (pc := 59) C (tgt := 70) dX8_step_59 (by decide) h (fun hc59 h => ?_) (fun hc59 h => ?_)
      · refine g_iload_n (pc := 70) C dX8_step_70 rfl 0 rfl ?_
        refine g_i2l (pc := 71) C dX8_step_71 ?_
        refine g_ldc2 (pc := 72) C (v := (97 : Int64)) (by decide +kernel) dX8_step_72 ?_
        refine g_ldc2 (pc := 75) C (v := (122 : Int64)) (by decide +kernel) dX8_step_75 ?_
        obtain ⟨t5, et5, h⟩ := bs h
        refine g_callSi (pc := 78) C (As := [.long t3.toInt64, .long (97 : Int64), .long (122 : Int64)]) (rest := []) (va_cwS 3 C.2.2.2.2.2.1 gX8_step_X8_in rfl rfl rfl (by decide +kernel) ⟨Nat.le_of_ble_eq_true rfl, Nat.le_of_ble_eq_true rfl⟩) (mX8_in l Z  et5) rfl rfl (Nat.le_of_ble_eq_true rfl) dX8_step_78 ?_
        refine g_if_eq (pc := 81) C (tgt := 126) dX8_step_81 (by decide) h (fun hc81 h => ?_) (fun hc81 h => ?_)
        · refine g_iload_n (pc := 126) C dX8_step_126 rfl 0 rfl ?_
          refine g_i2l (pc := 127) C dX8_step_127 ?_
          refine g_ldc2 (pc := 128) C (v := (48 : Int64)) (by decide +kernel) dX8_step_128 ?_
          refine g_ldc2 (pc := 131) C (v := (57 : Int64)) (by decide +kernel) dX8_step_131 ?_
          obtain ⟨t6, et6, h⟩ := bs h
          refine g_callSi (pc := 134) C (As := [.long t3.toInt64, .long (48 : Int64), .long (57 : Int64)]) (rest := []) (va_cwS 3 C.2.2.2.2.2.1 gX8_step_X8_in rfl rfl rfl (by decide +kernel) ⟨Nat.le_of_ble_eq_true rfl, Nat.le_of_ble_eq_true rfl⟩) (mX8_in l Z  et6) rfl rfl (Nat.le_of_ble_eq_true rfl) dX8_step_134 ?_
          refine g_if_eq (pc := 137) C (tgt := 243) dX8_step_137 (by decide) h (fun hc137 h => ?_) (fun hc137 h => ?_)
          · refine g_aload_n (pc := 243) C dX8_step_243 rfl 1 rfl ?_
            refine g_iconst (pc := 244) C (v := (3 : Int32)) dX8_step_244 (by decide) ?_
            obtain ⟨σ7, eσ7, h⟩ := bs h
            refine g_puti (pc := 245) C (Cn := RX8) (T := TX8) (N := 32) (ci := 8) (k := 0) (j := 15) uX8_step_X8 (by rfl) rfl (by decide) (by decide +kernel) tyX8 tyX8_ok nmX8 rfl (by decide +kernel) rfl eσ7 dX8_step_245 ?_
            refine g_aload_n (pc := 248) C dX8_step_248 rfl 1 rfl ?_
            refine g_dup (pc := 249) C rfl dX8_step_249 ?_
            refine g_geti (pc := 250) C (Cn := RX8) (T := TX8) (N := 32) (ci := 8) (k := 0) (j := 13) uX8_step_X8 (by rfl) rfl (by decide) (by decide +kernel) (q := 0) rfl dX8_step_250 ?_
            refine g_iconst (pc := 253) C (v := (1 : Int32)) dX8_step_253 (by decide) ?_
            refine g_iadd (pc := 254) C dX8_step_254 ?_
            obtain ⟨σ8, eσ8, h⟩ := bs h
            refine g_puti (pc := 255) C (Cn := RX8) (T := TX8) (N := 32) (ci := 8) (k := 0) (j := 13) uX8_step_X8 (by rfl) rfl (by decide) (by decide +kernel) tyX8 tyX8_ok nmX8 rfl (by decide +kernel) rfl eσ8 dX8_step_255 ?_
            refine g_iload_n (pc := 258) C dX8_step_258 rfl 0 rfl ?_
            refine g_bipush (pc := 259) C (v := (59 : Int32)) dX8_step_259 (by decide) ?_
            refine g_icmp_eq (pc := 261) C (tgt := 269) dX8_step_261 (by decide) h (fun hc261 h => ?_) (fun hc261 h => ?_)
            · exact g_vret C dX8_step_269 (Option.some.inj h)
            · refine g_aload_n (pc := 264) C dX8_step_264 rfl 1 rfl ?_
              refine g_iconst (pc := 265) C (v := (1 : Int32)) dX8_step_265 (by decide) ?_
              obtain ⟨σ9, eσ9, h⟩ := bs h
              refine g_callVv (pc := 266) C (As := [.int (1 : Int32)]) (rest := []) (k := 0) (by rfl) (by rfl) (cwV 1 C.2.2.2.2.2.1 gX8_step_X8_fails rfl rfl rfl (by decide +kernel) ⟨Nat.le_of_ble_eq_true rfl, Nat.le_of_ble_eq_true rfl⟩) (mX8_fails l Z  eσ9) rfl rfl (Nat.le_of_ble_eq_true rfl) dX8_step_266 ?_
              exact g_vret C dX8_step_269 (Option.some.inj h)
          · exact g_sub [1] rfl (kX8_step_l140 C   _ _ h)
        · exact g_sub [1] rfl (kX8_step_l84 C   _ _ h)
      · refine g_aload_n (pc := 62) C dX8_step_62 rfl 1 rfl ?_
        refine g_iconst (pc := 63) C (v := (0 : Int32)) dX8_step_63 (by decide) ?_
        obtain ⟨σ10, eσ10, h⟩ := bs h
        refine g_puti (pc := 64) C (Cn := RX8) (T := TX8) (N := 32) (ci := 8) (k := 0) (j := 15) uX8_step_X8 (by rfl) rfl (by decide) (by decide +kernel) tyX8 tyX8_ok nmX8 rfl (by decide +kernel) rfl eσ10 dX8_step_64 ?_
        refine g_goto (pc := 67) C (tgt := 269) dX8_step_67 (by decide) ?_
        exact g_vret C dX8_step_269 (Option.some.inj h)
    · refine g_aload_n (pc := 21) C dX8_step_21 rfl 0 rfl ?_
      refine g_dup (pc := 22) C rfl dX8_step_22 ?_
      refine g_geti (pc := 23) C (Cn := RX8) (T := TX8) (N := 32) (ci := 8) (k := 0) (j := 13) uX8_step_X8 (by rfl) rfl (by decide) (by decide +kernel) (q := 0) rfl dX8_step_23 ?_
      refine g_iconst (pc := 26) C (v := (1 : Int32)) dX8_step_26 (by decide) ?_
      refine g_iadd (pc := 27) C dX8_step_27 ?_
      obtain ⟨σ11, eσ11, h⟩ := bs h
      refine g_puti (pc := 28) C (Cn := RX8) (T := TX8) (N := 32) (ci := 8) (k := 0) (j := 13) uX8_step_X8 (by rfl) rfl (by decide) (by decide +kernel) tyX8 tyX8_ok nmX8 rfl (by decide +kernel) rfl eσ11 dX8_step_28 ?_
      refine g_goto (pc := 31) C (tgt := 8) dX8_step_31 (by decide) ?_
      exact g_sub [0] rfl (ih _ h)
set_option maxHeartbeats 1000000 in
set_option maxRecDepth 20000 in
theorem kX8_step_e {p : Program} {l : Launch} {e : Env} {s : State} {m : MethodId} {args : Array Value} {below : List Frame} {meth : Method} {c : Code} {Z : Sh} (C : Cx p s m args meth c cX8_step 2 wsX8_step RX8 none Z layM) {σ : Sg}  {u : Sg}  (h : fX8_step σ = some u) : G p l e rX8_step s m args below meth c 2 Z layM (MQ below (QV Z layM u s.heap.size) args s 0 0 (pA Z layM s.heap.size)) σ 0 [(0, .ref (ad Z 0))] [] := by
  unfold fX8_step at h
  refine g_aload_n (pc := 0) C dX8_step_0 rfl 0 rfl ?_
  refine g_geti (pc := 1) C (Cn := RX8) (T := TX8) (N := 32) (ci := 8) (k := 0) (j := 11) uX8_step_X8 (by rfl) rfl (by decide) (by decide +kernel) (q := 0) rfl dX8_step_1 ?_
  refine g_if_le (pc := 4) C (tgt := 8) dX8_step_4 (by decide) h (fun hc4 h => ?_) (fun hc4 h => ?_)
  · exact g_sub [0] rfl (kX8_step_l8 C   _ _ h)
  · exact g_vret C dX8_step_7 (Option.some.inj h)
theorem mX8_step (l : Launch) (Z : Sh) {σ : Sg}  {u : Sg}  (h : fX8_step σ = some u) : MV l Z layM yX8_step wsX8_step rX8_step [.ref (ad Z 0)] σ u :=
  MV.of (cc := cX8_step) (maxL := 2) (ret := none) (by decide) rfl (Nat.le_of_ble_eq_true rfl) (fun p e s m below meth c C => kX8_step_e C  h)

def rX8_number : Room := { frames := 2, cells := 0, slots := 0, locals := 46 }
theorem uX8_number_X8 : ∀ w ∈ wsX80, w ∈ wsX8_number := by decide +kernel
def fX8_number_b62 (v1 : Int32) (v2 : Int32)  (σ : Sg) (s0 : Int32) : Option (Sg × Int32) := (fX8_step σ).bind fun σ1 => some (σ1, s0)
def fX8_number_b47 (v1 : Int32) (v2 : Int32)  (σ : Sg) : Option (Sg × Int32) := if (σ 0 11) = 0 then fX8_number_b62 v1 v2 σ (σ 0 16) else fX8_number_b62 v1 v2 σ v1
def fX8_number_b20 (v1 : Int32) (v2 : Int32)  (σ : Sg) : Option (Sg × Int32) := if (σ 0 11) = 0 then (fX8_in ((σ 0 16).toInt64) v1.toInt64 v2.toInt64).bind fun t1 => if t1 = 0 then (fX8_fails σ (3 : Int32)).bind fun σ2 => fX8_number_b47 v1 v2 σ2 else fX8_number_b47 v1 v2 σ else fX8_number_b47 v1 v2 σ
def fX8_number (σ : Sg) (v1 : Int32) (v2 : Int32) : Option (Sg × Int32) := if (σ 0 11) = 0 then if (σ 0 15) = (2 : Int32) then fX8_number_b20 v1 v2 σ else (fX8_fails σ (2 : Int32)).bind fun σ1 => fX8_number_b20 v1 v2 σ1 else fX8_number_b20 v1 v2 σ
set_option maxHeartbeats 1000000 in
set_option maxRecDepth 20000 in
theorem kX8_number_b62 {p : Program} {l : Launch} {e : Env} {s : State} {m : MethodId} {args : Array Value} {below : List Frame} {meth : Method} {c : Code} {Z : Sh} (C : Cx p s m args meth c cX8_number 4 wsX8_number RX8 (some .int) Z layM) {v1 : Int32} {v2 : Int32} {u : Sg × Int32}   {σ : Sg} {s0 : Int32} (h : fX8_number_b62 v1 v2 σ s0 = some u) : G p l e rX8_number s m args below meth c 4 Z layM (MQ below (QI Z layM u.1 u.2 s.heap.size) args s 0 0 (pA Z layM s.heap.size)) σ 62 [(0, .ref (ad Z 0))] [.int s0] := by
  unfold fX8_number_b62 at h
  refine g_istore_n (pc := 62) C (lv2 := [(3, .int s0), (0, .ref (ad Z 0))]) dX8_number_62 rfl (by decide) rfl ?_
  refine g_aload_n (pc := 63) C dX8_number_63 rfl 1 rfl ?_
  obtain ⟨σ1, eσ1, h⟩ := bs h
  refine g_callVv (pc := 64) C (As := []) (rest := []) (k := 0) (by rfl) (by rfl) (cwV 0 C.2.2.2.2.2.1 gX8_number_X8_step rfl rfl rfl (by decide +kernel) ⟨Nat.le_of_ble_eq_true rfl, Nat.le_of_ble_eq_true rfl⟩) (mX8_step l Z  eσ1) rfl rfl (Nat.le_of_ble_eq_true rfl) dX8_number_64 ?_
  refine g_iload_n (pc := 67) C dX8_number_67 rfl 0 rfl ?_
  exact g_iret C dX8_number_68 (pfst h) (psnd h)
set_option maxHeartbeats 1000000 in
set_option maxRecDepth 20000 in
theorem kX8_number_b47 {p : Program} {l : Launch} {e : Env} {s : State} {m : MethodId} {args : Array Value} {below : List Frame} {meth : Method} {c : Code} {Z : Sh} (C : Cx p s m args meth c cX8_number 4 wsX8_number RX8 (some .int) Z layM) {v1 : Int32} {v2 : Int32} {u : Sg × Int32}   {σ : Sg} (h : fX8_number_b47 v1 v2 σ = some u) : G p l e rX8_number s m args below meth c 4 Z layM (MQ below (QI Z layM u.1 u.2 s.heap.size) args s 0 0 (pA Z layM s.heap.size)) σ 47 [(0, .ref (ad Z 0)), (1, .int v1)] [] := by
  unfold fX8_number_b47 at h
  refine g_aload_n (pc := 47) C dX8_number_47 rfl 0 rfl ?_
  refine g_geti (pc := 48) C (Cn := RX8) (T := TX8) (N := 32) (ci := 8) (k := 0) (j := 11) uX8_number_X8 (by rfl) rfl (by decide) (by decide +kernel) (q := 0) rfl dX8_number_48 ?_
  refine g_if_ne (pc := 51) C (tgt := 61) dX8_number_51 (by decide) h (fun hc51 h => ?_) (fun hc51 h => ?_)
  · refine g_iload_n (pc := 61) C dX8_number_61 rfl 1 rfl ?_
    exact g_sub [0] rfl (kX8_number_b62 C    h)
  · refine g_aload_n (pc := 54) C dX8_number_54 rfl 0 rfl ?_
    refine g_geti (pc := 55) C (Cn := RX8) (T := TX8) (N := 32) (ci := 8) (k := 0) (j := 16) uX8_number_X8 (by rfl) rfl (by decide) (by decide +kernel) (q := 0) rfl dX8_number_55 ?_
    refine g_goto (pc := 58) C (tgt := 62) dX8_number_58 (by decide) ?_
    exact g_sub [0] rfl (kX8_number_b62 C    h)
set_option maxHeartbeats 1000000 in
set_option maxRecDepth 20000 in
theorem kX8_number_b20 {p : Program} {l : Launch} {e : Env} {s : State} {m : MethodId} {args : Array Value} {below : List Frame} {meth : Method} {c : Code} {Z : Sh} (C : Cx p s m args meth c cX8_number 4 wsX8_number RX8 (some .int) Z layM) {v1 : Int32} {v2 : Int32} {u : Sg × Int32}   {σ : Sg} (h : fX8_number_b20 v1 v2 σ = some u) : G p l e rX8_number s m args below meth c 4 Z layM (MQ below (QI Z layM u.1 u.2 s.heap.size) args s 0 0 (pA Z layM s.heap.size)) σ 20 [(0, .ref (ad Z 0)), (1, .int v1), (2, .int v2)] [] := by
  unfold fX8_number_b20 at h
  refine g_aload_n (pc := 20) C dX8_number_20 rfl 0 rfl ?_
  refine g_geti (pc := 21) C (Cn := RX8) (T := TX8) (N := 32) (ci := 8) (k := 0) (j := 11) uX8_number_X8 (by rfl) rfl (by decide) (by decide +kernel) (q := 0) rfl dX8_number_21 ?_
  refine g_if_ne (pc := 24) C (tgt := 47) dX8_number_24 (by decide) h (fun hc24 h => ?_) (fun hc24 h => ?_)
  · exact g_sub [0, 1] rfl (kX8_number_b47 C    h)
  · refine g_aload_n (pc := 27) C dX8_number_27 rfl 0 rfl ?_
    refine g_geti (pc := 28) C (Cn := RX8) (T := TX8) (N := 32) (ci := 8) (k := 0) (j := 16) uX8_number_X8 (by rfl) rfl (by decide) (by decide +kernel) (q := 0) rfl dX8_number_28 ?_
    refine g_i2l (pc := 31) C dX8_number_31 ?_
    refine g_iload_n (pc := 32) C dX8_number_32 rfl 1 rfl ?_
    refine g_i2l (pc := 33) C dX8_number_33 ?_
    refine g_iload_n (pc := 34) C dX8_number_34 rfl 2 rfl ?_
    refine g_i2l (pc := 35) C dX8_number_35 ?_
    obtain ⟨t1, et1, h⟩ := bs h
    refine g_callSi (pc := 36) C (As := [.long ((σ 0 16).toInt64), .long v1.toInt64, .long v2.toInt64]) (rest := []) (va_cwS 3 C.2.2.2.2.2.1 gX8_number_X8_in rfl rfl rfl (by decide +kernel) ⟨Nat.le_of_ble_eq_true rfl, Nat.le_of_ble_eq_true rfl⟩) (mX8_in l Z  et1) rfl rfl (Nat.le_of_ble_eq_true rfl) dX8_number_36 ?_
    refine g_if_ne (pc := 39) C (tgt := 47) dX8_number_39 (by decide) h (fun hc39 h => ?_) (fun hc39 h => ?_)
    · exact g_sub [0, 1] rfl (kX8_number_b47 C    h)
    · refine g_aload_n (pc := 42) C dX8_number_42 rfl 0 rfl ?_
      refine g_iconst (pc := 43) C (v := (3 : Int32)) dX8_number_43 (by decide) ?_
      obtain ⟨σ2, eσ2, h⟩ := bs h
      refine g_callVv (pc := 44) C (As := [.int (3 : Int32)]) (rest := []) (k := 0) (by rfl) (by rfl) (cwV 1 C.2.2.2.2.2.1 gX8_number_X8_fails rfl rfl rfl (by decide +kernel) ⟨Nat.le_of_ble_eq_true rfl, Nat.le_of_ble_eq_true rfl⟩) (mX8_fails l Z  eσ2) rfl rfl (Nat.le_of_ble_eq_true rfl) dX8_number_44 ?_
      exact g_sub [0, 1] rfl (kX8_number_b47 C    h)
set_option maxHeartbeats 1000000 in
set_option maxRecDepth 20000 in
theorem kX8_number_e {p : Program} {l : Launch} {e : Env} {s : State} {m : MethodId} {args : Array Value} {below : List Frame} {meth : Method} {c : Code} {Z : Sh} (C : Cx p s m args meth c cX8_number 4 wsX8_number RX8 (some .int) Z layM) {σ : Sg} {v1 : Int32} {v2 : Int32} {u : Sg × Int32}  (h : fX8_number σ v1 v2 = some u) : G p l e rX8_number s m args below meth c 4 Z layM (MQ below (QI Z layM u.1 u.2 s.heap.size) args s 0 0 (pA Z layM s.heap.size)) σ 0 [(0, .ref (ad Z 0)), (1, .int v1), (2, .int v2)] [] := by
  unfold fX8_number at h
  refine g_aload_n (pc := 0) C dX8_number_0 rfl 0 rfl ?_
  refine g_geti (pc := 1) C (Cn := RX8) (T := TX8) (N := 32) (ci := 8) (k := 0) (j := 11) uX8_number_X8 (by rfl) rfl (by decide) (by decide +kernel) (q := 0) rfl dX8_number_1 ?_
  refine g_if_ne (pc := 4) C (tgt := 20) dX8_number_4 (by decide) h (fun hc4 h => ?_) (fun hc4 h => ?_)
  · exact g_sub [0, 1, 2] rfl (kX8_number_b20 C    h)
  · refine g_aload_n (pc := 7) C dX8_number_7 rfl 0 rfl ?_
    refine g_geti (pc := 8) C (Cn := RX8) (T := TX8) (N := 32) (ci := 8) (k := 0) (j := 15) uX8_number_X8 (by rfl) rfl (by decide) (by decide +kernel) (q := 0) rfl dX8_number_8 ?_
    refine g_iconst (pc := 11) C (v := (2 : Int32)) dX8_number_11 (by decide) ?_
    refine g_icmp_eq (pc := 12) C (tgt := 20) dX8_number_12 (by decide) h (fun hc12 h => ?_) (fun hc12 h => ?_)
    · exact g_sub [0, 1, 2] rfl (kX8_number_b20 C    h)
    · refine g_aload_n (pc := 15) C dX8_number_15 rfl 0 rfl ?_
      refine g_iconst (pc := 16) C (v := (2 : Int32)) dX8_number_16 (by decide) ?_
      obtain ⟨σ1, eσ1, h⟩ := bs h
      refine g_callVv (pc := 17) C (As := [.int (2 : Int32)]) (rest := []) (k := 0) (by rfl) (by rfl) (cwV 1 C.2.2.2.2.2.1 gX8_number_X8_fails rfl rfl rfl (by decide +kernel) ⟨Nat.le_of_ble_eq_true rfl, Nat.le_of_ble_eq_true rfl⟩) (mX8_fails l Z  eσ1) rfl rfl (Nat.le_of_ble_eq_true rfl) dX8_number_17 ?_
      exact g_sub [0, 1, 2] rfl (kX8_number_b20 C    h)
theorem mX8_number (l : Launch) (Z : Sh) {σ : Sg} {v1 : Int32} {v2 : Int32} {u : Sg × Int32}  (h : fX8_number σ v1 v2 = some u) : MI l Z layM yX8_number wsX8_number rX8_number [.ref (ad Z 0), .int v1, .int v2] σ u.1 u.2 :=
  MI.of (cc := cX8_number) (maxL := 4) (ret := (some .int)) (by decide) rfl (Nat.le_of_ble_eq_true rfl) (fun p e s m below meth c C => kX8_number_e C  h)

def rX8_readBorough : Room := { frames := 3, cells := 0, slots := 0, locals := 69 }
theorem uX8_readBorough_X8 : ∀ w ∈ wsX80, w ∈ wsX8_readBorough := by decide +kernel
def fX8_readBorough_b106 (v1 : Int32)  (σ : Sg) : Option (Sg) := (pf σ 0 5 ((σ 0 5) + (1 : Int32))).bind fun σ1 => some σ1
def fX8_readBorough_b88 (v1 : Int32)  (σ : Sg) (v2 : Int32) (s1 : Int32) : Option (Sg) := (pf σ 0 7 s1).bind fun σ1 => (wr σ1 2 29 ((22 : Int32) + (σ1 0 5)) (v2 + (1 : Int32))).bind fun σ2 => fX8_readBorough_b106 v1 σ2
def fX8_readBorough (σ : Sg) (v1 : Int32) : Option (Sg) := (wr σ 2 29 ((4 : Int32) + (σ 0 5)) v1).bind fun σ1 => (fX8_number σ1 (1 : Int32) (9 : Int32)).bind fun u2 => (wr u2.1 2 29 ((10 : Int32) + (σ1 0 5)) u2.2).bind fun σ3 => (fX8_number σ3 (0 : Int32) (3 : Int32)).bind fun u4 => (wr u4.1 2 29 ((16 : Int32) + (σ3 0 5)) u4.2).bind fun σ5 => if (σ5 0 11) = 0 then if (σ5 0 15) = (2 : Int32) then (fX8_number σ5 (0 : Int32) (3 : Int32)).bind fun u6 => if u6.2 ≤ (u6.1 0 7) then fX8_readBorough_b88 v1 u6.1 u6.2 (u6.1 0 7) else fX8_readBorough_b88 v1 u6.1 u6.2 u6.2 else fX8_readBorough_b106 v1 σ5 else fX8_readBorough_b106 v1 σ5
set_option maxHeartbeats 1000000 in
set_option maxRecDepth 20000 in
theorem kX8_readBorough_b106 {p : Program} {l : Launch} {e : Env} {s : State} {m : MethodId} {args : Array Value} {below : List Frame} {meth : Method} {c : Code} {Z : Sh} (C : Cx p s m args meth c cX8_readBorough 3 wsX8_readBorough RX8 none Z layM) {v1 : Int32} {u : Sg}   {σ : Sg} (h : fX8_readBorough_b106 v1 σ = some u) : G p l e rX8_readBorough s m args below meth c 3 Z layM (MQ below (QV Z layM u s.heap.size) args s 0 0 (pA Z layM s.heap.size)) σ 106 [(0, .ref (ad Z 0))] [] := by
  unfold fX8_readBorough_b106 at h
  refine g_aload_n (pc := 106) C dX8_readBorough_106 rfl 0 rfl ?_
  refine g_dup (pc := 107) C rfl dX8_readBorough_107 ?_
  refine g_geti (pc := 108) C (Cn := RX8) (T := TX8) (N := 32) (ci := 8) (k := 0) (j := 5) uX8_readBorough_X8 (by rfl) rfl (by decide) (by decide +kernel) (q := 0) rfl dX8_readBorough_108 ?_
  refine g_iconst (pc := 111) C (v := (1 : Int32)) dX8_readBorough_111 (by decide) ?_
  refine g_iadd (pc := 112) C dX8_readBorough_112 ?_
  obtain ⟨σ1, eσ1, h⟩ := bs h
  refine g_puti (pc := 113) C (Cn := RX8) (T := TX8) (N := 32) (ci := 8) (k := 0) (j := 5) uX8_readBorough_X8 (by rfl) rfl (by decide) (by decide +kernel) tyX8 tyX8_ok nmX8 rfl (by decide +kernel) rfl eσ1 dX8_readBorough_113 ?_
  exact g_vret C dX8_readBorough_116 (Option.some.inj h)
set_option maxHeartbeats 1000000 in
set_option maxRecDepth 20000 in
theorem kX8_readBorough_b88 {p : Program} {l : Launch} {e : Env} {s : State} {m : MethodId} {args : Array Value} {below : List Frame} {meth : Method} {c : Code} {Z : Sh} (C : Cx p s m args meth c cX8_readBorough 3 wsX8_readBorough RX8 none Z layM) {v1 : Int32} {u : Sg}   {σ : Sg} {v2 : Int32} {s1 : Int32} (h : fX8_readBorough_b88 v1 σ v2 s1 = some u) : G p l e rX8_readBorough s m args below meth c 3 Z layM (MQ below (QV Z layM u s.heap.size) args s 0 0 (pA Z layM s.heap.size)) σ 88 [(0, .ref (ad Z 0)), (2, .int v2)] [.int s1, .ref (ad Z 0)] := by
  unfold fX8_readBorough_b88 at h
  obtain ⟨σ1, eσ1, h⟩ := bs h
  refine g_puti (pc := 88) C (Cn := RX8) (T := TX8) (N := 32) (ci := 8) (k := 0) (j := 7) uX8_readBorough_X8 (by rfl) rfl (by decide) (by decide +kernel) tyX8 tyX8_ok nmX8 rfl (by decide +kernel) rfl eσ1 dX8_readBorough_88 ?_
  refine g_aload_n (pc := 91) C dX8_readBorough_91 rfl 0 rfl ?_
  refine g_getr (pc := 92) C (Cn := RX8) (T := TX8) (N := 32) (ci := 8) (k := 0) (j := 3) uX8_readBorough_X8 (by rfl) rfl (by decide) (by decide +kernel) (q := 2) rfl dX8_readBorough_92 ?_
  refine g_bipush (pc := 95) C (v := (22 : Int32)) dX8_readBorough_95 (by decide) ?_
  refine g_aload_n (pc := 97) C dX8_readBorough_97 rfl 0 rfl ?_
  refine g_geti (pc := 98) C (Cn := RX8) (T := TX8) (N := 32) (ci := 8) (k := 0) (j := 5) uX8_readBorough_X8 (by rfl) rfl (by decide) (by decide +kernel) (q := 0) rfl dX8_readBorough_98 ?_
  refine g_iadd (pc := 101) C dX8_readBorough_101 ?_
  refine g_iload_n (pc := 102) C dX8_readBorough_102 rfl 1 rfl ?_
  refine g_iconst (pc := 103) C (v := (1 : Int32)) dX8_readBorough_103 (by decide) ?_
  refine g_iadd (pc := 104) C dX8_readBorough_104 ?_
  obtain ⟨σ2, eσ2, h⟩ := bs h
  refine g_iast (pc := 105) C (k := 2) (n := 29) (by rfl) eσ2 dX8_readBorough_105 ?_
  exact g_sub [0] rfl (kX8_readBorough_b106 C    h)
set_option maxHeartbeats 1000000 in
set_option maxRecDepth 20000 in
theorem kX8_readBorough_e {p : Program} {l : Launch} {e : Env} {s : State} {m : MethodId} {args : Array Value} {below : List Frame} {meth : Method} {c : Code} {Z : Sh} (C : Cx p s m args meth c cX8_readBorough 3 wsX8_readBorough RX8 none Z layM) {σ : Sg} {v1 : Int32} {u : Sg}  (h : fX8_readBorough σ v1 = some u) : G p l e rX8_readBorough s m args below meth c 3 Z layM (MQ below (QV Z layM u s.heap.size) args s 0 0 (pA Z layM s.heap.size)) σ 0 [(0, .ref (ad Z 0)), (1, .int v1)] [] := by
  unfold fX8_readBorough at h
  refine g_aload_n (pc := 0) C dX8_readBorough_0 rfl 0 rfl ?_
  refine g_getr (pc := 1) C (Cn := RX8) (T := TX8) (N := 32) (ci := 8) (k := 0) (j := 3) uX8_readBorough_X8 (by rfl) rfl (by decide) (by decide +kernel) (q := 2) rfl dX8_readBorough_1 ?_
  refine g_iconst (pc := 4) C (v := (4 : Int32)) dX8_readBorough_4 (by decide) ?_
  refine g_aload_n (pc := 5) C dX8_readBorough_5 rfl 0 rfl ?_
  refine g_geti (pc := 6) C (Cn := RX8) (T := TX8) (N := 32) (ci := 8) (k := 0) (j := 5) uX8_readBorough_X8 (by rfl) rfl (by decide) (by decide +kernel) (q := 0) rfl dX8_readBorough_6 ?_
  refine g_iadd (pc := 9) C dX8_readBorough_9 ?_
  refine g_iload_n (pc := 10) C dX8_readBorough_10 rfl 1 rfl ?_
  obtain ⟨σ1, eσ1, h⟩ := bs h
  refine g_iast (pc := 11) C (k := 2) (n := 29) (by rfl) eσ1 dX8_readBorough_11 ?_
  refine g_aload_n (pc := 12) C dX8_readBorough_12 rfl 0 rfl ?_
  refine g_getr (pc := 13) C (Cn := RX8) (T := TX8) (N := 32) (ci := 8) (k := 0) (j := 3) uX8_readBorough_X8 (by rfl) rfl (by decide) (by decide +kernel) (q := 2) rfl dX8_readBorough_13 ?_
  refine g_bipush (pc := 16) C (v := (10 : Int32)) dX8_readBorough_16 (by decide) ?_
  refine g_aload_n (pc := 18) C dX8_readBorough_18 rfl 0 rfl ?_
  refine g_geti (pc := 19) C (Cn := RX8) (T := TX8) (N := 32) (ci := 8) (k := 0) (j := 5) uX8_readBorough_X8 (by rfl) rfl (by decide) (by decide +kernel) (q := 0) rfl dX8_readBorough_19 ?_
  refine g_iadd (pc := 22) C dX8_readBorough_22 ?_
  refine g_aload_n (pc := 23) C dX8_readBorough_23 rfl 0 rfl ?_
  refine g_iconst (pc := 24) C (v := (1 : Int32)) dX8_readBorough_24 (by decide) ?_
  refine g_bipush (pc := 25) C (v := (9 : Int32)) dX8_readBorough_25 (by decide) ?_
  obtain ⟨u2, eu2, h⟩ := bs h
  refine g_callVi (pc := 27) C (As := [.int (1 : Int32), .int (9 : Int32)]) (rest := [.int ((10 : Int32) + (σ1 0 5)), .ref (ad Z 2)]) (k := 0) (by rfl) (by rfl) (cwV 2 C.2.2.2.2.2.1 gX8_readBorough_X8_number rfl rfl rfl (by decide +kernel) ⟨Nat.le_of_ble_eq_true rfl, Nat.le_of_ble_eq_true rfl⟩) (mX8_number l Z  eu2) rfl rfl (Nat.le_of_ble_eq_true rfl) dX8_readBorough_27 ?_
  obtain ⟨σ3, eσ3, h⟩ := bs h
  refine g_iast (pc := 30) C (k := 2) (n := 29) (by rfl) eσ3 dX8_readBorough_30 ?_
  refine g_aload_n (pc := 31) C dX8_readBorough_31 rfl 0 rfl ?_
  refine g_getr (pc := 32) C (Cn := RX8) (T := TX8) (N := 32) (ci := 8) (k := 0) (j := 3) uX8_readBorough_X8 (by rfl) rfl (by decide) (by decide +kernel) (q := 2) rfl dX8_readBorough_32 ?_
  refine g_bipush (pc := 35) C (v := (16 : Int32)) dX8_readBorough_35 (by decide) ?_
  refine g_aload_n (pc := 37) C dX8_readBorough_37 rfl 0 rfl ?_
  refine g_geti (pc := 38) C (Cn := RX8) (T := TX8) (N := 32) (ci := 8) (k := 0) (j := 5) uX8_readBorough_X8 (by rfl) rfl (by decide) (by decide +kernel) (q := 0) rfl dX8_readBorough_38 ?_
  refine g_iadd (pc := 41) C dX8_readBorough_41 ?_
  refine g_aload_n (pc := 42) C dX8_readBorough_42 rfl 0 rfl ?_
  refine g_iconst (pc := 43) C (v := (0 : Int32)) dX8_readBorough_43 (by decide) ?_
  refine g_iconst (pc := 44) C (v := (3 : Int32)) dX8_readBorough_44 (by decide) ?_
  obtain ⟨u4, eu4, h⟩ := bs h
  refine g_callVi (pc := 45) C (As := [.int (0 : Int32), .int (3 : Int32)]) (rest := [.int ((16 : Int32) + (σ3 0 5)), .ref (ad Z 2)]) (k := 0) (by rfl) (by rfl) (cwV 2 C.2.2.2.2.2.1 gX8_readBorough_X8_number rfl rfl rfl (by decide +kernel) ⟨Nat.le_of_ble_eq_true rfl, Nat.le_of_ble_eq_true rfl⟩) (mX8_number l Z  eu4) rfl rfl (Nat.le_of_ble_eq_true rfl) dX8_readBorough_45 ?_
  obtain ⟨σ5, eσ5, h⟩ := bs h
  refine g_iast (pc := 48) C (k := 2) (n := 29) (by rfl) eσ5 dX8_readBorough_48 ?_
  refine g_aload_n (pc := 49) C dX8_readBorough_49 rfl 0 rfl ?_
  refine g_geti (pc := 50) C (Cn := RX8) (T := TX8) (N := 32) (ci := 8) (k := 0) (j := 11) uX8_readBorough_X8 (by rfl) rfl (by decide) (by decide +kernel) (q := 0) rfl dX8_readBorough_50 ?_
  refine g_if_ne (pc := 53) C (tgt := 106) dX8_readBorough_53 (by decide) h (fun hc53 h => ?_) (fun hc53 h => ?_)
  · exact g_sub [0] rfl (kX8_readBorough_b106 C    h)
  · refine g_aload_n (pc := 56) C dX8_readBorough_56 rfl 0 rfl ?_
    refine g_geti (pc := 57) C (Cn := RX8) (T := TX8) (N := 32) (ci := 8) (k := 0) (j := 15) uX8_readBorough_X8 (by rfl) rfl (by decide) (by decide +kernel) (q := 0) rfl dX8_readBorough_57 ?_
    refine g_iconst (pc := 60) C (v := (2 : Int32)) dX8_readBorough_60 (by decide) ?_
    refine g_icmp_ne (pc := 61) C (tgt := 106) dX8_readBorough_61 (by decide) h (fun hc61 h => ?_) (fun hc61 h => ?_)
    · exact g_sub [0] rfl (kX8_readBorough_b106 C    h)
    · refine g_aload_n (pc := 64) C dX8_readBorough_64 rfl 0 rfl ?_
      refine g_iconst (pc := 65) C (v := (0 : Int32)) dX8_readBorough_65 (by decide) ?_
      refine g_iconst (pc := 66) C (v := (3 : Int32)) dX8_readBorough_66 (by decide) ?_
      obtain ⟨u6, eu6, h⟩ := bs h
      refine g_callVi (pc := 67) C (As := [.int (0 : Int32), .int (3 : Int32)]) (rest := []) (k := 0) (by rfl) (by rfl) (cwV 2 C.2.2.2.2.2.1 gX8_readBorough_X8_number rfl rfl rfl (by decide +kernel) ⟨Nat.le_of_ble_eq_true rfl, Nat.le_of_ble_eq_true rfl⟩) (mX8_number l Z  eu6) rfl rfl (Nat.le_of_ble_eq_true rfl) dX8_readBorough_67 ?_
      refine g_istore_n (pc := 70) C (lv2 := [(2, .int u6.2), (0, .ref (ad Z 0)), (1, .int v1)]) dX8_readBorough_70 rfl (by decide) rfl ?_
      refine g_aload_n (pc := 71) C dX8_readBorough_71 rfl 1 rfl ?_
      refine g_iload_n (pc := 72) C dX8_readBorough_72 rfl 0 rfl ?_
      refine g_aload_n (pc := 73) C dX8_readBorough_73 rfl 1 rfl ?_
      refine g_geti (pc := 74) C (Cn := RX8) (T := TX8) (N := 32) (ci := 8) (k := 0) (j := 7) uX8_readBorough_X8 (by rfl) rfl (by decide) (by decide +kernel) (q := 0) rfl dX8_readBorough_74 ?_
      refine g_icmp_le (pc := 77) C (tgt := 84) dX8_readBorough_77 (by decide) h (fun hc77 h => ?_) (fun hc77 h => ?_)
      · refine g_aload_n (pc := 84) C dX8_readBorough_84 rfl 1 rfl ?_
        refine g_geti (pc := 85) C (Cn := RX8) (T := TX8) (N := 32) (ci := 8) (k := 0) (j := 7) uX8_readBorough_X8 (by rfl) rfl (by decide) (by decide +kernel) (q := 0) rfl dX8_readBorough_85 ?_
        exact g_sub [1, 0] rfl (kX8_readBorough_b88 C    h)
      · refine g_iload_n (pc := 80) C dX8_readBorough_80 rfl 0 rfl ?_
        refine g_goto (pc := 81) C (tgt := 88) dX8_readBorough_81 (by decide) ?_
        exact g_sub [1, 0] rfl (kX8_readBorough_b88 C    h)
theorem mX8_readBorough (l : Launch) (Z : Sh) {σ : Sg} {v1 : Int32} {u : Sg}  (h : fX8_readBorough σ v1 = some u) : MV l Z layM yX8_readBorough wsX8_readBorough rX8_readBorough [.ref (ad Z 0), .int v1] σ u :=
  MV.of (cc := cX8_readBorough) (maxL := 3) (ret := none) (by decide) rfl (Nat.le_of_ble_eq_true rfl) (fun p e s m below meth c C => kX8_readBorough_e C  h)
