def rX8_bribe : Room := { frames := 4, cells := 0, slots := 0, locals := 95 }
theorem uX8_bribe_X8 : ∀ w ∈ wsX80, w ∈ wsX8_bribe := by decide +kernel
def fX8_bribe (σ : Sg) (v1 : Int32) (v2 : Int32) : Option (Sg × Int32) := (fX8_in v1.toInt64 (0 : Int64) (6 : Int64)).bind fun t1 => if t1 = 0 then some (σ, (-1 : Int32)) else (fX8_in v2.toInt64 (0 : Int64) (1 : Int64)).bind fun t2 => if t2 = 0 then some (σ, (-1 : Int32)) else (fX8_laysRow σ).bind fun σ3 => if v1 ≤ (σ3 0 20) then (fX8_firstOf σ3 v1).bind fun t4 => (fX8_all σ3).bind fun t5 => (fX8_cheapest σ3 (t5 &&& (t4 ^^^ (-1 : Int32))) t4 v2).bind fun t6 => some (σ3, t6) else some (σ3, (-4 : Int32))
set_option maxHeartbeats 1000000 in
set_option maxRecDepth 20000 in
theorem kX8_bribe_e {p : Program} {l : Launch} {e : Env} {s : State} {m : MethodId} {args : Array Value} {below : List Frame} {meth : Method} {c : Code} {Z : Sh} (C : Cx p s m args meth c cX8_bribe 4 wsX8_bribe RX8 (some .int) Z layM) {σ : Sg} {v1 : Int32} {v2 : Int32} {u : Sg × Int32}  (h : fX8_bribe σ v1 v2 = some u) : G p l e rX8_bribe s m args below meth c 4 Z layM (MQ below (QI Z layM u.1 u.2 s.heap.size) args s 0 0 (pA Z layM s.heap.size)) σ 0 [(0, .ref (ad Z 0)), (1, .int v1), (2, .int v2)] [] := by
  unfold fX8_bribe at h
  refine g_iload_n (pc := 0) C dX8_bribe_0 rfl 1 rfl ?_
  refine g_i2l (pc := 1) C dX8_bribe_1 ?_
  refine g_lconst (pc := 2) C (v := (0 : Int64)) dX8_bribe_2 (by decide) ?_
  refine g_ldc2 (pc := 3) C (v := (6 : Int64)) (by decide +kernel) dX8_bribe_3 ?_
  obtain ⟨t1, et1, h⟩ := bs h
  refine g_callSi (pc := 6) C (As := [.long v1.toInt64, .long (0 : Int64), .long (6 : Int64)]) (rest := []) (va_cwS 3 C.2.2.2.2.2.1 gX8_bribe_X8_in rfl rfl rfl (by decide +kernel) ⟨Nat.le_of_ble_eq_true rfl, Nat.le_of_ble_eq_true rfl⟩) (mX8_in l Z  et1) rfl rfl (Nat.le_of_ble_eq_true rfl) dX8_bribe_6 ?_
  refine g_if_eq (pc := 9) C (tgt := 22) dX8_bribe_9 (by decide) h (fun hc9 h => ?_) (fun hc9 h => ?_)
  · refine g_iconst (pc := 22) C (v := (-1 : Int32)) dX8_bribe_22 (by decide) ?_
    exact g_iret C dX8_bribe_23 (pfst h) (psnd h)
  · refine g_iload_n (pc := 12) C dX8_bribe_12 rfl 2 rfl ?_
    refine g_i2l (pc := 13) C dX8_bribe_13 ?_
    refine g_lconst (pc := 14) C (v := (0 : Int64)) dX8_bribe_14 (by decide) ?_
    refine g_lconst (pc := 15) C (v := (1 : Int64)) dX8_bribe_15 (by decide) ?_
    obtain ⟨t2, et2, h⟩ := bs h
    refine g_callSi (pc := 16) C (As := [.long v2.toInt64, .long (0 : Int64), .long (1 : Int64)]) (rest := []) (va_cwS 3 C.2.2.2.2.2.1 gX8_bribe_X8_in rfl rfl rfl (by decide +kernel) ⟨Nat.le_of_ble_eq_true rfl, Nat.le_of_ble_eq_true rfl⟩) (mX8_in l Z  et2) rfl rfl (Nat.le_of_ble_eq_true rfl) dX8_bribe_16 ?_
    refine g_if_ne (pc := 19) C (tgt := 24) dX8_bribe_19 (by decide) h (fun hc19 h => ?_) (fun hc19 h => ?_)
    · refine g_aload_n (pc := 24) C dX8_bribe_24 rfl 0 rfl ?_
      obtain ⟨σ3, eσ3, h⟩ := bs h
      refine g_callVv (pc := 25) C (As := []) (rest := []) (k := 0) (by rfl) (by rfl) (cwV 0 C.2.2.2.2.2.1 gX8_bribe_X8_laysRow rfl rfl rfl (by decide +kernel) ⟨Nat.le_of_ble_eq_true rfl, Nat.le_of_ble_eq_true rfl⟩) (mX8_laysRow l Z  eσ3) rfl rfl (Nat.le_of_ble_eq_true rfl) dX8_bribe_25 ?_
      refine g_iload_n (pc := 28) C dX8_bribe_28 rfl 1 rfl ?_
      refine g_aload_n (pc := 29) C dX8_bribe_29 rfl 0 rfl ?_
      refine g_geti (pc := 30) C (Cn := RX8) (T := TX8) (N := 32) (ci := 8) (k := 0) (j := 20) uX8_bribe_X8 (by rfl) rfl (by decide) (by decide +kernel) (q := 0) rfl dX8_bribe_30 ?_
      refine g_icmp_le (pc := 33) C (tgt := 39) dX8_bribe_33 (by decide) h (fun hc33 h => ?_) (fun hc33 h => ?_)
      · refine g_aload_n (pc := 39) C dX8_bribe_39 rfl 0 rfl ?_
        refine g_iload_n (pc := 40) C dX8_bribe_40 rfl 1 rfl ?_
        obtain ⟨t4, et4, h⟩ := bs h
        refine g_callVi (pc := 41) C (As := [.int v1]) (rest := []) (k := 0) (by rfl) (by rfl) (cwV 1 C.2.2.2.2.2.1 gX8_bribe_X8_firstOf rfl rfl rfl (by decide +kernel) ⟨Nat.le_of_ble_eq_true rfl, Nat.le_of_ble_eq_true rfl⟩) (mX8_firstOf l Z  et4) rfl rfl (Nat.le_of_ble_eq_true rfl) dX8_bribe_41 ?_
        refine g_istore_n (pc := 44) C (lv2 := [(3, .int t4), (0, .ref (ad Z 0)), (1, .int v1), (2, .int v2)]) dX8_bribe_44 rfl (by decide) rfl ?_
        refine g_aload_n (pc := 45) C dX8_bribe_45 rfl 1 rfl ?_
        refine g_aload_n (pc := 46) C dX8_bribe_46 rfl 1 rfl ?_
        obtain ⟨t5, et5, h⟩ := bs h
        refine g_callVi (pc := 47) C (As := []) (rest := [.ref (ad Z 0)]) (k := 0) (by rfl) (by rfl) (cwV 0 C.2.2.2.2.2.1 gX8_bribe_X8_all rfl rfl rfl (by decide +kernel) ⟨Nat.le_of_ble_eq_true rfl, Nat.le_of_ble_eq_true rfl⟩) (mX8_all l Z  et5) rfl rfl (Nat.le_of_ble_eq_true rfl) dX8_bribe_47 ?_
        refine g_iload_n (pc := 50) C dX8_bribe_50 rfl 0 rfl ?_
        refine g_iconst (pc := 51) C (v := (-1 : Int32)) dX8_bribe_51 (by decide) ?_
        refine g_ixor (pc := 52) C dX8_bribe_52 ?_
        refine g_iand (pc := 53) C dX8_bribe_53 ?_
        refine g_iload_n (pc := 54) C dX8_bribe_54 rfl 0 rfl ?_
        refine g_iload_n (pc := 55) C dX8_bribe_55 rfl 3 rfl ?_
        obtain ⟨t6, et6, h⟩ := bs h
        refine g_callVi (pc := 56) C (As := [.int (t5 &&& (t4 ^^^ (-1 : Int32))), .int t4, .int v2]) (rest := []) (k := 0) (by rfl) (by rfl) (cwV 3 C.2.2.2.2.2.1 gX8_bribe_X8_cheapest rfl rfl rfl (by decide +kernel) ⟨Nat.le_of_ble_eq_true rfl, Nat.le_of_ble_eq_true rfl⟩) (mX8_cheapest l Z  et6) rfl rfl (Nat.le_of_ble_eq_true rfl) dX8_bribe_56 ?_
        exact g_iret C dX8_bribe_59 (pfst h) (psnd h)
      · refine g_bipush (pc := 36) C (v := (-4 : Int32)) dX8_bribe_36 (by decide) ?_
        exact g_iret C dX8_bribe_38 (pfst h) (psnd h)
    · refine g_iconst (pc := 22) C (v := (-1 : Int32)) dX8_bribe_22 (by decide) ?_
      exact g_iret C dX8_bribe_23 (pfst h) (psnd h)
theorem mX8_bribe (l : Launch) (Z : Sh) {σ : Sg} {v1 : Int32} {v2 : Int32} {u : Sg × Int32}  (h : fX8_bribe σ v1 v2 = some u) : MI l Z layM yX8_bribe wsX8_bribe rX8_bribe [.ref (ad Z 0), .int v1, .int v2] σ u.1 u.2 :=
  MI.of (cc := cX8_bribe) (maxL := 4) (ret := (some .int)) (by decide) rfl (Nat.le_of_ble_eq_true rfl) (fun p e s m below meth c C => kX8_bribe_e C  h)

def rX8_byAway : Room := { frames := 2, cells := 0, slots := 0, locals := 44 }
theorem uX8_byAway_X8 : ∀ w ∈ wsX80, w ∈ wsX8_byAway := by decide +kernel
def fX8_byAway_b149 (σ : Sg) (v1 : Int32) (v2 : Int32) (v3 : Int32) (v4 : Int32) (k42 : Int32 → Int64 → Int64 → Int32 → Option (Int64)) (v5 : Int32) (v8 : Int64) (v10 : Int32) (s0 : Int64) (s1 : Int64) (s2 : Int32) : Option (Int64) := k42 v5 (s0 + (s1 * s2.toInt64)) v8 (v10 + 1)
def fX8_byAway_l57 (σ : Sg) (v1 : Int32) (v2 : Int32) (v3 : Int32) (v4 : Int32) (k42 : Int32 → Int64 → Int64 → Int32 → Option (Int64)) : Nat → Int32 → Int64 → Int64 → Int32 → Int64 → Int32 → Option (Int64)
  | 0, _, _, _, _, _, _ => none
  | n + 1, v5, v6, v8, v10, v11, v13 => if (σ 0 2) ≤ v13 then (fX8_seatsOf σ (v5 &&& (v10 ^^^ (-1 : Int32)))).bind fun t1 => if v3 = 0 then (fX8_all σ).bind fun t2 => (fX8_seatsOf σ (t2 &&& (v10 ^^^ (-1 : Int32)))).bind fun t3 => if ((2 : Int32) * t1) ≤ t3 then fX8_byAway_b149 σ v1 v2 v3 v4 k42 v5 v8 v10 v6 v11 (0 : Int32) else fX8_byAway_b149 σ v1 v2 v3 v4 k42 v5 v8 v10 v6 v11 (1 : Int32) else fX8_byAway_b149 σ v1 v2 v3 v4 k42 v5 v8 v10 v6 v11 t1 else if ((v10 >>> (v13 &&& 31)) &&& (1 : Int32)) = (1 : Int32) then fX8_byAway_l57 σ v1 v2 v3 v4 k42 n v5 v6 v8 v10 (v11 * v1.toInt64) (v13 + 1) else fX8_byAway_l57 σ v1 v2 v3 v4 k42 n v5 v6 v8 v10 (v11 * (((10 : Int32) - v1).toInt64)) (v13 + 1)
def fX8_byAway_l42 (σ : Sg) (v1 : Int32) (v2 : Int32) (v3 : Int32) (v4 : Int32)  : Nat → Int32 → Int64 → Int64 → Int32 → Option (Int64)
  | 0, _, _, _, _ => none
  | n + 1, v5, v6, v8, v10 => (fX8_all σ).bind fun t1 => if t1 < v10 then (fX8_lowest v6 v8 v4).bind fun t2 => some t2 else fX8_byAway_l57 σ v1 v2 v3 v4 (fun v5 v6 v8 v10 => fX8_byAway_l42 σ v1 v2 v3 v4 n v5 v6 v8 v10) 2000 v5 v6 v8 v10 (1 : Int64) (0 : Int32)
def fX8_byAway_l16 (σ : Sg) (v1 : Int32) (v2 : Int32) (v3 : Int32) (v4 : Int32)  : Nat → Int32 → Int64 → Int64 → Int32 → Option (Int64)
  | 0, _, _, _, _ => none
  | n + 1, v5, v6, v8, v10 => if (σ 0 2) ≤ v10 then fX8_byAway_l42 σ v1 v2 v3 v4 2000 v5 v6 v8 (0 : Int32) else fX8_byAway_l16 σ v1 v2 v3 v4 n v5 v6 (v8 * (10 : Int64)) (v10 + 1)
def fX8_byAway (σ : Sg) (v1 : Int32) (v2 : Int32) (v3 : Int32) (v4 : Int32) : Option (Int64) := (fX8_boroughsOf σ v2).bind fun t1 => fX8_byAway_l16 σ v1 v2 v3 v4 2000 t1 (0 : Int64) (1 : Int64) (0 : Int32)
set_option maxHeartbeats 1000000 in
set_option maxRecDepth 20000 in
theorem kX8_byAway_b149 {p : Program} {l : Launch} {e : Env} {s : State} {m : MethodId} {args : Array Value} {below : List Frame} {meth : Method} {c : Code} {Z : Sh} (C : Cx p s m args meth c cX8_byAway 14 wsX8_byAway RX8 (some .long) Z layM) {σ : Sg} {v1 : Int32} {v2 : Int32} {v3 : Int32} {v4 : Int32} {u : Int64}  {k42 : Int32 → Int64 → Int64 → Int32 → Option (Int64)} (hk42 : ∀ (v5 : Int32) (v6 : Int64) (v8 : Int64) (v10 : Int32), k42 v5 v6 v8 v10 = some u → G p l e rX8_byAway s m args below meth c 14 Z layM (MQ below (QL Z layM σ u s.heap.size) args s 0 0 (pA Z layM s.heap.size)) σ 42 [(0, .ref (ad Z 0)), (1, .int v1), (3, .int v3), (4, .int v4), (5, .int v5), (6, .long v6), (8, .long v8), (10, .int v10)] []) {v5 : Int32} {v8 : Int64} {v10 : Int32} {s0 : Int64} {s1 : Int64} {s2 : Int32} (h : fX8_byAway_b149 σ v1 v2 v3 v4 k42 v5 v8 v10 s0 s1 s2 = some u) : G p l e rX8_byAway s m args below meth c 14 Z layM (MQ below (QL Z layM σ u s.heap.size) args s 0 0 (pA Z layM s.heap.size)) σ 149 [(0, .ref (ad Z 0)), (1, .int v1), (3, .int v3), (4, .int v4), (5, .int v5), (8, .long v8), (10, .int v10)] [.int s2, .long s1, .long s0] := by
  unfold fX8_byAway_b149 at h
  refine g_i2l (pc := 149) C dX8_byAway_149 ?_
  refine g_lmul (pc := 150) C dX8_byAway_150 ?_
  refine g_ladd (pc := 151) C dX8_byAway_151 ?_
  refine g_lstore (pc := 152) C (lv2 := [(6, .long (s0 + (s1 * s2.toInt64))), (0, .ref (ad Z 0)), (1, .int v1), (3, .int v3), (4, .int v4), (5, .int v5), (8, .long v8), (10, .int v10)]) dX8_byAway_152 (by decide) rfl ?_
  refine g_iinc (pc := 154) C (j := 7) (v := (v10 + 1)) (lv2 := [(10, .int (v10 + 1)), (6, .long (s0 + (s1 * s2.toInt64))), (0, .ref (ad Z 0)), (1, .int v1), (3, .int v3), (4, .int v4), (5, .int v5), (8, .long v8)]) dX8_byAway_154 rfl rfl (by decide) rfl ?_
  refine g_goto (pc := 157) C (tgt := 42) dX8_byAway_157 (by decide) ?_
  exact g_sub [2, 3, 4, 5, 6, 1, 7, 0] rfl (hk42 _ _ _ _ h)
set_option maxHeartbeats 1000000 in
set_option maxRecDepth 20000 in
theorem kX8_byAway_l57 {p : Program} {l : Launch} {e : Env} {s : State} {m : MethodId} {args : Array Value} {below : List Frame} {meth : Method} {c : Code} {Z : Sh} (C : Cx p s m args meth c cX8_byAway 14 wsX8_byAway RX8 (some .long) Z layM) {σ : Sg} {v1 : Int32} {v2 : Int32} {v3 : Int32} {v4 : Int32} {u : Int64}  {k42 : Int32 → Int64 → Int64 → Int32 → Option (Int64)} (hk42 : ∀ (v5 : Int32) (v6 : Int64) (v8 : Int64) (v10 : Int32), k42 v5 v6 v8 v10 = some u → G p l e rX8_byAway s m args below meth c 14 Z layM (MQ below (QL Z layM σ u s.heap.size) args s 0 0 (pA Z layM s.heap.size)) σ 42 [(0, .ref (ad Z 0)), (1, .int v1), (3, .int v3), (4, .int v4), (5, .int v5), (6, .long v6), (8, .long v8), (10, .int v10)] []) : ∀ (n : Nat) (v5 : Int32) (v6 : Int64) (v8 : Int64) (v10 : Int32) (v11 : Int64) (v13 : Int32), fX8_byAway_l57 σ v1 v2 v3 v4 k42 n v5 v6 v8 v10 v11 v13 = some u → G p l e rX8_byAway s m args below meth c 14 Z layM (MQ below (QL Z layM σ u s.heap.size) args s 0 0 (pA Z layM s.heap.size)) σ 57 [(0, .ref (ad Z 0)), (1, .int v1), (3, .int v3), (4, .int v4), (5, .int v5), (6, .long v6), (8, .long v8), (10, .int v10), (11, .long v11), (13, .int v13)] [] := by
  intro n
  induction n with
  | zero => intro v5 v6 v8 v10 v11 v13 h; exact absurd h (by simp [fX8_byAway_l57])
  | succ n ih =>
    intro v5 v6 v8 v10 v11 v13 h
    rw [fX8_byAway_l57] at h
    refine g_iload (pc := 57) C dX8_byAway_57 9 rfl ?_
    refine g_aload_n (pc := 59) C dX8_byAway_59 rfl 0 rfl ?_
    refine g_geti (pc := 60) C (Cn := RX8) (T := TX8) (N := 32) (ci := 8) (k := 0) (j := 2) uX8_byAway_X8 (by rfl) rfl (by decide) (by decide +kernel) (q := 0) rfl dX8_byAway_60 ?_
    refine g_icmp_ge (pc := 63) C (tgt := 98) dX8_byAway_63 (by decide) h (fun hc63 h => ?_) (fun hc63 h => ?_)
    · refine g_aload_n (pc := 98) C dX8_byAway_98 rfl 0 rfl ?_
      refine g_iload (pc := 99) C dX8_byAway_99 4 rfl ?_
      refine g_iload (pc := 101) C dX8_byAway_101 7 rfl ?_
      refine g_iconst (pc := 103) C (v := (-1 : Int32)) dX8_byAway_103 (by decide) ?_
      refine g_ixor (pc := 104) C dX8_byAway_104 ?_
      refine g_iand (pc := 105) C dX8_byAway_105 ?_
      obtain ⟨t1, et1, h⟩ := bs h
      refine g_callVi (pc := 106) C (As := [.int (v5 &&& (v10 ^^^ (-1 : Int32)))]) (rest := []) (k := 0) (by rfl) (by rfl) (cwV 1 C.2.2.2.2.2.1 gX8_byAway_X8_seatsOf rfl rfl rfl (by decide +kernel) ⟨Nat.le_of_ble_eq_true rfl, Nat.le_of_ble_eq_true rfl⟩) (mX8_seatsOf l Z  et1) rfl rfl (Nat.le_of_ble_eq_true rfl) dX8_byAway_106 ?_
      refine g_istore (pc := 109) C (lv2 := [(13, .int t1), (0, .ref (ad Z 0)), (1, .int v1), (3, .int v3), (4, .int v4), (5, .int v5), (6, .long v6), (8, .long v8), (10, .int v10), (11, .long v11)]) dX8_byAway_109 (by decide) rfl ?_
      refine g_lload (pc := 111) C dX8_byAway_111 6 rfl ?_
      refine g_lload (pc := 113) C dX8_byAway_113 9 rfl ?_
      refine g_iload_n (pc := 115) C dX8_byAway_115 rfl 3 rfl ?_
      refine g_if_eq (pc := 116) C (tgt := 124) dX8_byAway_116 (by decide) h (fun hc116 h => ?_) (fun hc116 h => ?_)
      · refine g_iconst (pc := 124) C (v := (2 : Int32)) dX8_byAway_124 (by decide) ?_
        refine g_iload (pc := 125) C dX8_byAway_125 0 rfl ?_
        refine g_imul (pc := 127) C dX8_byAway_127 ?_
        refine g_aload_n (pc := 128) C dX8_byAway_128 rfl 1 rfl ?_
        refine g_aload_n (pc := 129) C dX8_byAway_129 rfl 1 rfl ?_
        obtain ⟨t2, et2, h⟩ := bs h
        refine g_callVi (pc := 130) C (As := []) (rest := [.ref (ad Z 0), .int ((2 : Int32) * t1), .long v11, .long v6]) (k := 0) (by rfl) (by rfl) (cwV 0 C.2.2.2.2.2.1 gX8_byAway_X8_all rfl rfl rfl (by decide +kernel) ⟨Nat.le_of_ble_eq_true rfl, Nat.le_of_ble_eq_true rfl⟩) (mX8_all l Z  et2) rfl rfl (Nat.le_of_ble_eq_true rfl) dX8_byAway_130 ?_
        refine g_iload (pc := 133) C dX8_byAway_133 8 rfl ?_
        refine g_iconst (pc := 135) C (v := (-1 : Int32)) dX8_byAway_135 (by decide) ?_
        refine g_ixor (pc := 136) C dX8_byAway_136 ?_
        refine g_iand (pc := 137) C dX8_byAway_137 ?_
        obtain ⟨t3, et3, h⟩ := bs h
        refine g_callVi (pc := 138) C (As := [.int (t2 &&& (v10 ^^^ (-1 : Int32)))]) (rest := [.int ((2 : Int32) * t1), .long v11, .long v6]) (k := 0) (by rfl) (by rfl) (cwV 1 C.2.2.2.2.2.1 gX8_byAway_X8_seatsOf rfl rfl rfl (by decide +kernel) ⟨Nat.le_of_ble_eq_true rfl, Nat.le_of_ble_eq_true rfl⟩) (mX8_seatsOf l Z  et3) rfl rfl (Nat.le_of_ble_eq_true rfl) dX8_byAway_138 ?_
        refine g_icmp_le (pc := 141) C (tgt := 148) dX8_byAway_141 (by decide) h (fun hc141 h => ?_) (fun hc141 h => ?_)
        · refine g_iconst (pc := 148) C (v := (0 : Int32)) dX8_byAway_148 (by decide) ?_
          exact g_sub [1, 2, 3, 4, 5, 7, 8] rfl (kX8_byAway_b149 C  hk42  h)
        · refine g_iconst (pc := 144) C (v := (1 : Int32)) dX8_byAway_144 (by decide) ?_
          refine g_goto (pc := 145) C (tgt := 149) dX8_byAway_145 (by decide) ?_
          exact g_sub [1, 2, 3, 4, 5, 7, 8] rfl (kX8_byAway_b149 C  hk42  h)
      · refine g_iload (pc := 119) C dX8_byAway_119 0 rfl ?_
        refine g_goto (pc := 121) C (tgt := 149) dX8_byAway_121 (by decide) ?_
        exact g_sub [1, 2, 3, 4, 5, 7, 8] rfl (kX8_byAway_b149 C  hk42  h)
    · refine g_lload (pc := 66) C dX8_byAway_66 8 rfl ?_
      refine g_iload (pc := 68) C dX8_byAway_68 7 rfl ?_
      refine g_iload (pc := 70) C dX8_byAway_70 9 rfl ?_
      refine g_ishr (pc := 72) C dX8_byAway_72 ?_
      refine g_iconst (pc := 73) C (v := (1 : Int32)) dX8_byAway_73 (by decide) ?_
      refine g_iand (pc := 74) C dX8_byAway_74 ?_
      refine g_iconst (pc := 75) C (v := (1 : Int32)) dX8_byAway_75 (by decide) ?_
      refine g_icmp_ne (pc := 76) C (tgt := 84) dX8_byAway_76 (by decide) h (fun hc76 h => ?_) (fun hc76 h => ?_)
      · refine g_bipush (pc := 84) C (v := (10 : Int32)) dX8_byAway_84 (by decide) ?_
        refine g_iload_n (pc := 86) C dX8_byAway_86 rfl 1 rfl ?_
        refine g_isub (pc := 87) C dX8_byAway_87 ?_
        refine g_i2l (pc := 88) C dX8_byAway_88 ?_
        refine g_lmul (pc := 89) C dX8_byAway_89 ?_
        refine g_lstore (pc := 90) C (lv2 := [(11, .long (v11 * (((10 : Int32) - v1).toInt64))), (0, .ref (ad Z 0)), (1, .int v1), (3, .int v3), (4, .int v4), (5, .int v5), (6, .long v6), (8, .long v8), (10, .int v10), (13, .int v13)]) dX8_byAway_90 (by decide) rfl ?_
        refine g_iinc (pc := 92) C (j := 9) (v := (v13 + 1)) (lv2 := [(13, .int (v13 + 1)), (11, .long (v11 * (((10 : Int32) - v1).toInt64))), (0, .ref (ad Z 0)), (1, .int v1), (3, .int v3), (4, .int v4), (5, .int v5), (6, .long v6), (8, .long v8), (10, .int v10)]) dX8_byAway_92 rfl rfl (by decide) rfl ?_
        refine g_goto (pc := 95) C (tgt := 57) dX8_byAway_95 (by decide) ?_
        exact g_sub [2, 3, 4, 5, 6, 7, 8, 9, 1, 0] rfl (ih _ _ _ _ _ _ h)
      · refine g_iload_n (pc := 79) C dX8_byAway_79 rfl 1 rfl ?_
        refine g_i2l (pc := 80) C dX8_byAway_80 ?_
        refine g_goto (pc := 81) C (tgt := 89) dX8_byAway_81 (by decide) ?_
        refine g_lmul (pc := 89) C dX8_byAway_89 ?_
        refine g_lstore (pc := 90) C (lv2 := [(11, .long (v11 * v1.toInt64)), (0, .ref (ad Z 0)), (1, .int v1), (3, .int v3), (4, .int v4), (5, .int v5), (6, .long v6), (8, .long v8), (10, .int v10), (13, .int v13)]) dX8_byAway_90 (by decide) rfl ?_
        refine g_iinc (pc := 92) C (j := 9) (v := (v13 + 1)) (lv2 := [(13, .int (v13 + 1)), (11, .long (v11 * v1.toInt64)), (0, .ref (ad Z 0)), (1, .int v1), (3, .int v3), (4, .int v4), (5, .int v5), (6, .long v6), (8, .long v8), (10, .int v10)]) dX8_byAway_92 rfl rfl (by decide) rfl ?_
        refine g_goto (pc := 95) C (tgt := 57) dX8_byAway_95 (by decide) ?_
        exact g_sub [2, 3, 4, 5, 6, 7, 8, 9, 1, 0] rfl (ih _ _ _ _ _ _ h)
set_option maxHeartbeats 1000000 in
set_option maxRecDepth 20000 in
theorem kX8_byAway_l42 {p : Program} {l : Launch} {e : Env} {s : State} {m : MethodId} {args : Array Value} {below : List Frame} {meth : Method} {c : Code} {Z : Sh} (C : Cx p s m args meth c cX8_byAway 14 wsX8_byAway RX8 (some .long) Z layM) {σ : Sg} {v1 : Int32} {v2 : Int32} {v3 : Int32} {v4 : Int32} {u : Int64}   : ∀ (n : Nat) (v5 : Int32) (v6 : Int64) (v8 : Int64) (v10 : Int32), fX8_byAway_l42 σ v1 v2 v3 v4 n v5 v6 v8 v10 = some u → G p l e rX8_byAway s m args below meth c 14 Z layM (MQ below (QL Z layM σ u s.heap.size) args s 0 0 (pA Z layM s.heap.size)) σ 42 [(0, .ref (ad Z 0)), (1, .int v1), (3, .int v3), (4, .int v4), (5, .int v5), (6, .long v6), (8, .long v8), (10, .int v10)] [] := by
  intro n
  induction n with
  | zero => intro v5 v6 v8 v10 h; exact absurd h (by simp [fX8_byAway_l42])
  | succ n ih =>
    intro v5 v6 v8 v10 h
    rw [fX8_byAway_l42] at h
    refine g_iload (pc := 42) C dX8_byAway_42 7 rfl ?_
    refine g_aload_n (pc := 44) C dX8_byAway_44 rfl 0 rfl ?_
    obtain ⟨t1, et1, h⟩ := bs h
    refine g_callVi (pc := 45) C (As := []) (rest := [.int v10]) (k := 0) (by rfl) (by rfl) (cwV 0 C.2.2.2.2.2.1 gX8_byAway_X8_all rfl rfl rfl (by decide +kernel) ⟨Nat.le_of_ble_eq_true rfl, Nat.le_of_ble_eq_true rfl⟩) (mX8_all l Z  et1) rfl rfl (Nat.le_of_ble_eq_true rfl) dX8_byAway_45 ?_
    refine g_icmp_gt (pc := 48) C (tgt := 160) dX8_byAway_48 (by decide) h (fun hc48 h => ?_) (fun hc48 h => ?_)
    · refine g_lload (pc := 160) C dX8_byAway_160 5 rfl ?_
      refine g_lload (pc := 162) C dX8_byAway_162 6 rfl ?_
      refine g_iload (pc := 164) C dX8_byAway_164 3 rfl ?_
      obtain ⟨t2, et2, h⟩ := bs h
      refine g_callSl (pc := 166) C (As := [.long v6, .long v8, .int v4]) (rest := []) (va_cwS 3 C.2.2.2.2.2.1 gX8_byAway_X8_lowest rfl rfl rfl (by decide +kernel) ⟨Nat.le_of_ble_eq_true rfl, Nat.le_of_ble_eq_true rfl⟩) (mX8_lowest l Z  et2) rfl rfl (Nat.le_of_ble_eq_true rfl) dX8_byAway_166 ?_
      exact g_lret C dX8_byAway_169 rfl (Option.some.inj h)
    · refine g_lconst (pc := 51) C (v := (1 : Int64)) dX8_byAway_51 (by decide) ?_
      refine g_lstore (pc := 52) C (lv2 := [(11, .long (1 : Int64)), (0, .ref (ad Z 0)), (1, .int v1), (3, .int v3), (4, .int v4), (5, .int v5), (6, .long v6), (8, .long v8), (10, .int v10)]) dX8_byAway_52 (by decide) rfl ?_
      refine g_iconst (pc := 54) C (v := (0 : Int32)) dX8_byAway_54 (by decide) ?_
      refine g_istore (pc := 55) C (lv2 := [(13, .int (0 : Int32)), (11, .long (1 : Int64)), (0, .ref (ad Z 0)), (1, .int v1), (3, .int v3), (4, .int v4), (5, .int v5), (6, .long v6), (8, .long v8), (10, .int v10)]) dX8_byAway_55 (by decide) rfl ?_
      exact g_sub [2, 3, 4, 5, 6, 7, 8, 9, 1, 0] rfl (kX8_byAway_l57 C  ih _ _ _ _ _ _ _ h)
set_option maxHeartbeats 1000000 in
set_option maxRecDepth 20000 in
theorem kX8_byAway_l16 {p : Program} {l : Launch} {e : Env} {s : State} {m : MethodId} {args : Array Value} {below : List Frame} {meth : Method} {c : Code} {Z : Sh} (C : Cx p s m args meth c cX8_byAway 14 wsX8_byAway RX8 (some .long) Z layM) {σ : Sg} {v1 : Int32} {v2 : Int32} {v3 : Int32} {v4 : Int32} {u : Int64}   : ∀ (n : Nat) (v5 : Int32) (v6 : Int64) (v8 : Int64) (v10 : Int32), fX8_byAway_l16 σ v1 v2 v3 v4 n v5 v6 v8 v10 = some u → G p l e rX8_byAway s m args below meth c 14 Z layM (MQ below (QL Z layM σ u s.heap.size) args s 0 0 (pA Z layM s.heap.size)) σ 16 [(0, .ref (ad Z 0)), (1, .int v1), (3, .int v3), (4, .int v4), (5, .int v5), (6, .long v6), (8, .long v8), (10, .int v10)] [] := by
  intro n
  induction n with
  | zero => intro v5 v6 v8 v10 h; exact absurd h (by simp [fX8_byAway_l16])
  | succ n ih =>
    intro v5 v6 v8 v10 h
    rw [fX8_byAway_l16] at h
    refine g_iload (pc := 16) C dX8_byAway_16 7 rfl ?_
    refine g_aload_n (pc := 18) C dX8_byAway_18 rfl 0 rfl ?_
    refine g_geti (pc := 19) C (Cn := RX8) (T := TX8) (N := 32) (ci := 8) (k := 0) (j := 2) uX8_byAway_X8 (by rfl) rfl (by decide) (by decide +kernel) (q := 0) rfl dX8_byAway_19 ?_
    refine g_icmp_ge (pc := 22) C (tgt := 39) dX8_byAway_22 (by decide) h (fun hc22 h => ?_) (fun hc22 h => ?_)
    · refine g_iconst (pc := 39) C (v := (0 : Int32)) dX8_byAway_39 (by decide) ?_
      refine g_istore (pc := 40) C (lv2 := [(10, .int (0 : Int32)), (0, .ref (ad Z 0)), (1, .int v1), (3, .int v3), (4, .int v4), (5, .int v5), (6, .long v6), (8, .long v8)]) dX8_byAway_40 (by decide) rfl ?_
      exact g_sub [1, 2, 3, 4, 5, 6, 7, 0] rfl (kX8_byAway_l42 C   _ _ _ _ _ h)
    · refine g_lload (pc := 25) C dX8_byAway_25 6 rfl ?_
      refine g_ldc2 (pc := 27) C (v := (10 : Int64)) (by decide +kernel) dX8_byAway_27 ?_
      refine g_lmul (pc := 30) C dX8_byAway_30 ?_
      refine g_lstore (pc := 31) C (lv2 := [(8, .long (v8 * (10 : Int64))), (0, .ref (ad Z 0)), (1, .int v1), (3, .int v3), (4, .int v4), (5, .int v5), (6, .long v6), (10, .int v10)]) dX8_byAway_31 (by decide) rfl ?_
      refine g_iinc (pc := 33) C (j := 7) (v := (v10 + 1)) (lv2 := [(10, .int (v10 + 1)), (8, .long (v8 * (10 : Int64))), (0, .ref (ad Z 0)), (1, .int v1), (3, .int v3), (4, .int v4), (5, .int v5), (6, .long v6)]) dX8_byAway_33 rfl rfl (by decide) rfl ?_
      refine g_goto (pc := 36) C (tgt := 16) dX8_byAway_36 (by decide) ?_
      exact g_sub [2, 3, 4, 5, 6, 7, 1, 0] rfl (ih _ _ _ _ h)
set_option maxHeartbeats 1000000 in
set_option maxRecDepth 20000 in
theorem kX8_byAway_e {p : Program} {l : Launch} {e : Env} {s : State} {m : MethodId} {args : Array Value} {below : List Frame} {meth : Method} {c : Code} {Z : Sh} (C : Cx p s m args meth c cX8_byAway 14 wsX8_byAway RX8 (some .long) Z layM) {σ : Sg} {v1 : Int32} {v2 : Int32} {v3 : Int32} {v4 : Int32} {u : Int64}  (h : fX8_byAway σ v1 v2 v3 v4 = some u) : G p l e rX8_byAway s m args below meth c 14 Z layM (MQ below (QL Z layM σ u s.heap.size) args s 0 0 (pA Z layM s.heap.size)) σ 0 [(0, .ref (ad Z 0)), (1, .int v1), (2, .int v2), (3, .int v3), (4, .int v4)] [] := by
  unfold fX8_byAway at h
  refine g_aload_n (pc := 0) C dX8_byAway_0 rfl 0 rfl ?_
  refine g_iload_n (pc := 1) C dX8_byAway_1 rfl 2 rfl ?_
  obtain ⟨t1, et1, h⟩ := bs h
  refine g_callVi (pc := 2) C (As := [.int v2]) (rest := []) (k := 0) (by rfl) (by rfl) (cwV 1 C.2.2.2.2.2.1 gX8_byAway_X8_boroughsOf rfl rfl rfl (by decide +kernel) ⟨Nat.le_of_ble_eq_true rfl, Nat.le_of_ble_eq_true rfl⟩) (mX8_boroughsOf l Z  et1) rfl rfl (Nat.le_of_ble_eq_true rfl) dX8_byAway_2 ?_
  refine g_istore (pc := 5) C (lv2 := [(5, .int t1), (0, .ref (ad Z 0)), (1, .int v1), (2, .int v2), (3, .int v3), (4, .int v4)]) dX8_byAway_5 (by decide) rfl ?_
  refine g_lconst (pc := 7) C (v := (0 : Int64)) dX8_byAway_7 (by decide) ?_
  refine g_lstore (pc := 8) C (lv2 := [(6, .long (0 : Int64)), (5, .int t1), (0, .ref (ad Z 0)), (1, .int v1), (2, .int v2), (3, .int v3), (4, .int v4)]) dX8_byAway_8 (by decide) rfl ?_
  refine g_lconst (pc := 10) C (v := (1 : Int64)) dX8_byAway_10 (by decide) ?_
  refine g_lstore (pc := 11) C (lv2 := [(8, .long (1 : Int64)), (6, .long (0 : Int64)), (5, .int t1), (0, .ref (ad Z 0)), (1, .int v1), (2, .int v2), (3, .int v3), (4, .int v4)]) dX8_byAway_11 (by decide) rfl ?_
  refine g_iconst (pc := 13) C (v := (0 : Int32)) dX8_byAway_13 (by decide) ?_
  refine g_istore (pc := 14) C (lv2 := [(10, .int (0 : Int32)), (8, .long (1 : Int64)), (6, .long (0 : Int64)), (5, .int t1), (0, .ref (ad Z 0)), (1, .int v1), (2, .int v2), (3, .int v3), (4, .int v4)]) dX8_byAway_14 (by decide) rfl ?_
  exact g_sub [4, 5, 7, 8, 3, 2, 1, 0] rfl (kX8_byAway_l16 C   _ _ _ _ _ h)
theorem mX8_byAway (l : Launch) (Z : Sh) {σ : Sg} {v1 : Int32} {v2 : Int32} {v3 : Int32} {v4 : Int32} {u : Int64}  (h : fX8_byAway σ v1 v2 v3 v4 = some u) : ML l Z layM yX8_byAway wsX8_byAway rX8_byAway [.ref (ad Z 0), .int v1, .int v2, .int v3, .int v4] σ σ u :=
  ML.of (cc := cX8_byAway) (maxL := 14) (ret := (some .long)) (by decide) rfl (Nat.le_of_ble_eq_true rfl) (fun p e s m below meth c C => kX8_byAway_e C  h)

def rX8_luck : Room := { frames := 3, cells := 0, slots := 0, locals := 77 }
def fX8_luck (σ : Sg) (v1 : Int32) (v2 : Int32) (v3 : Int32) : Option (Int64) := (fX8_in v1.toInt64 (0 : Int64) (10 : Int64)).bind fun t1 => if t1 = 0 then some (-1 : Int64) else (fX8_isLords σ v2).bind fun t2 => if t2 = 0 then some (-1 : Int64) else (fX8_in v3.toInt64 (0 : Int64) (1 : Int64)).bind fun t3 => if t3 = 0 then some (-1 : Int64) else (fX8_byAway σ v1 v2 (0 : Int32) v3).bind fun t4 => some t4
set_option maxHeartbeats 1000000 in
set_option maxRecDepth 20000 in
theorem kX8_luck_e {p : Program} {l : Launch} {e : Env} {s : State} {m : MethodId} {args : Array Value} {below : List Frame} {meth : Method} {c : Code} {Z : Sh} (C : Cx p s m args meth c cX8_luck 4 wsX8_luck RX8 (some .long) Z layM) {σ : Sg} {v1 : Int32} {v2 : Int32} {v3 : Int32} {u : Int64}  (h : fX8_luck σ v1 v2 v3 = some u) : G p l e rX8_luck s m args below meth c 4 Z layM (MQ below (QL Z layM σ u s.heap.size) args s 0 0 (pA Z layM s.heap.size)) σ 0 [(0, .ref (ad Z 0)), (1, .int v1), (2, .int v2), (3, .int v3)] [] := by
  unfold fX8_luck at h
  refine g_iload_n (pc := 0) C dX8_luck_0 rfl 1 rfl ?_
  refine g_i2l (pc := 1) C dX8_luck_1 ?_
  refine g_lconst (pc := 2) C (v := (0 : Int64)) dX8_luck_2 (by decide) ?_
  refine g_ldc2 (pc := 3) C (v := (10 : Int64)) (by decide +kernel) dX8_luck_3 ?_
  obtain ⟨t1, et1, h⟩ := bs h
  refine g_callSi (pc := 6) C (As := [.long v1.toInt64, .long (0 : Int64), .long (10 : Int64)]) (rest := []) (va_cwS 3 C.2.2.2.2.2.1 gX8_luck_X8_in rfl rfl rfl (by decide +kernel) ⟨Nat.le_of_ble_eq_true rfl, Nat.le_of_ble_eq_true rfl⟩) (mX8_in l Z  et1) rfl rfl (Nat.le_of_ble_eq_true rfl) dX8_luck_6 ?_
  refine g_if_eq (pc := 9) C (tgt := 41) dX8_luck_9 (by decide) h (fun hc9 h => ?_) (fun hc9 h => ?_)
  · refine g_ldc2 (pc := 41) C (v := (-1 : Int64)) (by decide +kernel) dX8_luck_41 ?_
    exact g_lret C dX8_luck_44 rfl (Option.some.inj h)
  · refine g_aload_n (pc := 12) C dX8_luck_12 rfl 0 rfl ?_
    refine g_iload_n (pc := 13) C dX8_luck_13 rfl 2 rfl ?_
    obtain ⟨t2, et2, h⟩ := bs h
    refine g_callVi (pc := 14) C (As := [.int v2]) (rest := []) (k := 0) (by rfl) (by rfl) (cwV 1 C.2.2.2.2.2.1 gX8_luck_X8_isLords rfl rfl rfl (by decide +kernel) ⟨Nat.le_of_ble_eq_true rfl, Nat.le_of_ble_eq_true rfl⟩) (mX8_isLords l Z  et2) rfl rfl (Nat.le_of_ble_eq_true rfl) dX8_luck_14 ?_
    refine g_if_eq (pc := 17) C (tgt := 41) dX8_luck_17 (by decide) h (fun hc17 h => ?_) (fun hc17 h => ?_)
    · refine g_ldc2 (pc := 41) C (v := (-1 : Int64)) (by decide +kernel) dX8_luck_41 ?_
      exact g_lret C dX8_luck_44 rfl (Option.some.inj h)
    · refine g_iload_n (pc := 20) C dX8_luck_20 rfl 3 rfl ?_
      refine g_i2l (pc := 21) C dX8_luck_21 ?_
      refine g_lconst (pc := 22) C (v := (0 : Int64)) dX8_luck_22 (by decide) ?_
      refine g_lconst (pc := 23) C (v := (1 : Int64)) dX8_luck_23 (by decide) ?_
      obtain ⟨t3, et3, h⟩ := bs h
      refine g_callSi (pc := 24) C (As := [.long v3.toInt64, .long (0 : Int64), .long (1 : Int64)]) (rest := []) (va_cwS 3 C.2.2.2.2.2.1 gX8_luck_X8_in rfl rfl rfl (by decide +kernel) ⟨Nat.le_of_ble_eq_true rfl, Nat.le_of_ble_eq_true rfl⟩) (mX8_in l Z  et3) rfl rfl (Nat.le_of_ble_eq_true rfl) dX8_luck_24 ?_
      refine g_if_eq (pc := 27) C (tgt := 41) dX8_luck_27 (by decide) h (fun hc27 h => ?_) (fun hc27 h => ?_)
      · refine g_ldc2 (pc := 41) C (v := (-1 : Int64)) (by decide +kernel) dX8_luck_41 ?_
        exact g_lret C dX8_luck_44 rfl (Option.some.inj h)
      · refine g_aload_n (pc := 30) C dX8_luck_30 rfl 0 rfl ?_
        refine g_iload_n (pc := 31) C dX8_luck_31 rfl 1 rfl ?_
        refine g_iload_n (pc := 32) C dX8_luck_32 rfl 2 rfl ?_
        refine g_iconst (pc := 33) C (v := (0 : Int32)) dX8_luck_33 (by decide) ?_
        refine g_iload_n (pc := 34) C dX8_luck_34 rfl 3 rfl ?_
        obtain ⟨t4, et4, h⟩ := bs h
        refine g_callVl (pc := 35) C (As := [.int v1, .int v2, .int (0 : Int32), .int v3]) (rest := []) (k := 0) (by rfl) (by rfl) (cwV 4 C.2.2.2.2.2.1 gX8_luck_X8_byAway rfl rfl rfl (by decide +kernel) ⟨Nat.le_of_ble_eq_true rfl, Nat.le_of_ble_eq_true rfl⟩) (mX8_byAway l Z  et4) rfl rfl (Nat.le_of_ble_eq_true rfl) dX8_luck_35 ?_
        refine g_goto (pc := 38) C (tgt := 44) dX8_luck_38 (by decide) ?_
        exact g_lret C dX8_luck_44 rfl (Option.some.inj h)
theorem mX8_luck (l : Launch) (Z : Sh) {σ : Sg} {v1 : Int32} {v2 : Int32} {v3 : Int32} {u : Int64}  (h : fX8_luck σ v1 v2 v3 = some u) : ML l Z layM yX8_luck wsX8_luck rX8_luck [.ref (ad Z 0), .int v1, .int v2, .int v3] σ σ u :=
  ML.of (cc := cX8_luck) (maxL := 4) (ret := (some .long)) (by decide) rfl (Nat.le_of_ble_eq_true rfl) (fun p e s m below meth c C => kX8_luck_e C  h)

def rX8_mean : Room := { frames := 3, cells := 0, slots := 0, locals := 77 }
def fX8_mean (σ : Sg) (v1 : Int32) (v2 : Int32) (v3 : Int32) : Option (Int64) := (fX8_in v1.toInt64 (0 : Int64) (10 : Int64)).bind fun t1 => if t1 = 0 then some (-1 : Int64) else (fX8_isLords σ v2).bind fun t2 => if t2 = 0 then some (-1 : Int64) else (fX8_in v3.toInt64 (0 : Int64) (1 : Int64)).bind fun t3 => if t3 = 0 then some (-1 : Int64) else (fX8_byAway σ v1 v2 (1 : Int32) v3).bind fun t4 => some t4
set_option maxHeartbeats 1000000 in
set_option maxRecDepth 20000 in
theorem kX8_mean_e {p : Program} {l : Launch} {e : Env} {s : State} {m : MethodId} {args : Array Value} {below : List Frame} {meth : Method} {c : Code} {Z : Sh} (C : Cx p s m args meth c cX8_mean 4 wsX8_mean RX8 (some .long) Z layM) {σ : Sg} {v1 : Int32} {v2 : Int32} {v3 : Int32} {u : Int64}  (h : fX8_mean σ v1 v2 v3 = some u) : G p l e rX8_mean s m args below meth c 4 Z layM (MQ below (QL Z layM σ u s.heap.size) args s 0 0 (pA Z layM s.heap.size)) σ 0 [(0, .ref (ad Z 0)), (1, .int v1), (2, .int v2), (3, .int v3)] [] := by
  unfold fX8_mean at h
  refine g_iload_n (pc := 0) C dX8_mean_0 rfl 1 rfl ?_
  refine g_i2l (pc := 1) C dX8_mean_1 ?_
  refine g_lconst (pc := 2) C (v := (0 : Int64)) dX8_mean_2 (by decide) ?_
  refine g_ldc2 (pc := 3) C (v := (10 : Int64)) (by decide +kernel) dX8_mean_3 ?_
  obtain ⟨t1, et1, h⟩ := bs h
  refine g_callSi (pc := 6) C (As := [.long v1.toInt64, .long (0 : Int64), .long (10 : Int64)]) (rest := []) (va_cwS 3 C.2.2.2.2.2.1 gX8_mean_X8_in rfl rfl rfl (by decide +kernel) ⟨Nat.le_of_ble_eq_true rfl, Nat.le_of_ble_eq_true rfl⟩) (mX8_in l Z  et1) rfl rfl (Nat.le_of_ble_eq_true rfl) dX8_mean_6 ?_
  refine g_if_eq (pc := 9) C (tgt := 41) dX8_mean_9 (by decide) h (fun hc9 h => ?_) (fun hc9 h => ?_)
  · refine g_ldc2 (pc := 41) C (v := (-1 : Int64)) (by decide +kernel) dX8_mean_41 ?_
    exact g_lret C dX8_mean_44 rfl (Option.some.inj h)
  · refine g_aload_n (pc := 12) C dX8_mean_12 rfl 0 rfl ?_
    refine g_iload_n (pc := 13) C dX8_mean_13 rfl 2 rfl ?_
    obtain ⟨t2, et2, h⟩ := bs h
    refine g_callVi (pc := 14) C (As := [.int v2]) (rest := []) (k := 0) (by rfl) (by rfl) (cwV 1 C.2.2.2.2.2.1 gX8_mean_X8_isLords rfl rfl rfl (by decide +kernel) ⟨Nat.le_of_ble_eq_true rfl, Nat.le_of_ble_eq_true rfl⟩) (mX8_isLords l Z  et2) rfl rfl (Nat.le_of_ble_eq_true rfl) dX8_mean_14 ?_
    refine g_if_eq (pc := 17) C (tgt := 41) dX8_mean_17 (by decide) h (fun hc17 h => ?_) (fun hc17 h => ?_)
    · refine g_ldc2 (pc := 41) C (v := (-1 : Int64)) (by decide +kernel) dX8_mean_41 ?_
      exact g_lret C dX8_mean_44 rfl (Option.some.inj h)
    · refine g_iload_n (pc := 20) C dX8_mean_20 rfl 3 rfl ?_
      refine g_i2l (pc := 21) C dX8_mean_21 ?_
      refine g_lconst (pc := 22) C (v := (0 : Int64)) dX8_mean_22 (by decide) ?_
      refine g_lconst (pc := 23) C (v := (1 : Int64)) dX8_mean_23 (by decide) ?_
      obtain ⟨t3, et3, h⟩ := bs h
      refine g_callSi (pc := 24) C (As := [.long v3.toInt64, .long (0 : Int64), .long (1 : Int64)]) (rest := []) (va_cwS 3 C.2.2.2.2.2.1 gX8_mean_X8_in rfl rfl rfl (by decide +kernel) ⟨Nat.le_of_ble_eq_true rfl, Nat.le_of_ble_eq_true rfl⟩) (mX8_in l Z  et3) rfl rfl (Nat.le_of_ble_eq_true rfl) dX8_mean_24 ?_
      refine g_if_eq (pc := 27) C (tgt := 41) dX8_mean_27 (by decide) h (fun hc27 h => ?_) (fun hc27 h => ?_)
      · refine g_ldc2 (pc := 41) C (v := (-1 : Int64)) (by decide +kernel) dX8_mean_41 ?_
        exact g_lret C dX8_mean_44 rfl (Option.some.inj h)
      · refine g_aload_n (pc := 30) C dX8_mean_30 rfl 0 rfl ?_
        refine g_iload_n (pc := 31) C dX8_mean_31 rfl 1 rfl ?_
        refine g_iload_n (pc := 32) C dX8_mean_32 rfl 2 rfl ?_
        refine g_iconst (pc := 33) C (v := (1 : Int32)) dX8_mean_33 (by decide) ?_
        refine g_iload_n (pc := 34) C dX8_mean_34 rfl 3 rfl ?_
        obtain ⟨t4, et4, h⟩ := bs h
        refine g_callVl (pc := 35) C (As := [.int v1, .int v2, .int (1 : Int32), .int v3]) (rest := []) (k := 0) (by rfl) (by rfl) (cwV 4 C.2.2.2.2.2.1 gX8_mean_X8_byAway rfl rfl rfl (by decide +kernel) ⟨Nat.le_of_ble_eq_true rfl, Nat.le_of_ble_eq_true rfl⟩) (mX8_byAway l Z  et4) rfl rfl (Nat.le_of_ble_eq_true rfl) dX8_mean_35 ?_
        refine g_goto (pc := 38) C (tgt := 44) dX8_mean_38 (by decide) ?_
        exact g_lret C dX8_mean_44 rfl (Option.some.inj h)
theorem mX8_mean (l : Launch) (Z : Sh) {σ : Sg} {v1 : Int32} {v2 : Int32} {v3 : Int32} {u : Int64}  (h : fX8_mean σ v1 v2 v3 = some u) : ML l Z layM yX8_mean wsX8_mean rX8_mean [.ref (ad Z 0), .int v1, .int v2, .int v3] σ σ u :=
  ML.of (cc := cX8_mean) (maxL := 4) (ret := (some .long)) (by decide) rfl (Nat.le_of_ble_eq_true rfl) (fun p e s m below meth c C => kX8_mean_e C  h)

def rX8_see : Room := { frames := 2, cells := 0, slots := 0, locals := 46 }
theorem uX8_see_X8 : ∀ w ∈ wsX80, w ∈ wsX8_see := by decide +kernel
def fX8_see_b55 (v1 : Int32) (v2 : Int32)  (σ : Sg) (s1 : Int32) (s2 : Int32) : Option (Sg × Int32) := (wr σ 8 12 s1 s2).bind fun σ1 => (pf σ1 0 24 ((σ1 0 24) + (1 : Int32))).bind fun σ2 => some (σ2, (σ2 0 24))
def fX8_see (σ : Sg) (v1 : Int32) (v2 : Int32) : Option (Sg × Int32) := (fX8_isLords σ v1).bind fun t1 => if t1 = 0 then some (σ, (-1 : Int32)) else if (σ 0 24) = (6 : Int32) then some (σ, (-3 : Int32)) else (wr σ 8 12 ((2 : Int32) * (σ 0 24)) v1).bind fun σ2 => if v2 = 0 then fX8_see_b55 v1 v2 σ2 (((2 : Int32) * (σ2 0 24)) + (1 : Int32)) (0 : Int32) else fX8_see_b55 v1 v2 σ2 (((2 : Int32) * (σ2 0 24)) + (1 : Int32)) (1 : Int32)
set_option maxHeartbeats 1000000 in
set_option maxRecDepth 20000 in
theorem kX8_see_b55 {p : Program} {l : Launch} {e : Env} {s : State} {m : MethodId} {args : Array Value} {below : List Frame} {meth : Method} {c : Code} {Z : Sh} (C : Cx p s m args meth c cX8_see 3 wsX8_see RX8 (some .int) Z layM) {v1 : Int32} {v2 : Int32} {u : Sg × Int32}   {σ : Sg} {s1 : Int32} {s2 : Int32} (h : fX8_see_b55 v1 v2 σ s1 s2 = some u) : G p l e rX8_see s m args below meth c 3 Z layM (MQ below (QI Z layM u.1 u.2 s.heap.size) args s 0 0 (pA Z layM s.heap.size)) σ 55 [(0, .ref (ad Z 0))] [.int s2, .int s1, .ref (ad Z 8)] := by
  unfold fX8_see_b55 at h
  obtain ⟨σ1, eσ1, h⟩ := bs h
  refine g_iast (pc := 55) C (k := 8) (n := 12) (by rfl) eσ1 dX8_see_55 ?_
  refine g_aload_n (pc := 56) C dX8_see_56 rfl 0 rfl ?_
  refine g_dup (pc := 57) C rfl dX8_see_57 ?_
  refine g_geti (pc := 58) C (Cn := RX8) (T := TX8) (N := 32) (ci := 8) (k := 0) (j := 24) uX8_see_X8 (by rfl) rfl (by decide) (by decide +kernel) (q := 0) rfl dX8_see_58 ?_
  refine g_iconst (pc := 61) C (v := (1 : Int32)) dX8_see_61 (by decide) ?_
  refine g_iadd (pc := 62) C dX8_see_62 ?_
  obtain ⟨σ2, eσ2, h⟩ := bs h
  refine g_puti (pc := 63) C (Cn := RX8) (T := TX8) (N := 32) (ci := 8) (k := 0) (j := 24) uX8_see_X8 (by rfl) rfl (by decide) (by decide +kernel) tyX8 tyX8_ok nmX8 rfl (by decide +kernel) rfl eσ2 dX8_see_63 ?_
  refine g_aload_n (pc := 66) C dX8_see_66 rfl 0 rfl ?_
  refine g_geti (pc := 67) C (Cn := RX8) (T := TX8) (N := 32) (ci := 8) (k := 0) (j := 24) uX8_see_X8 (by rfl) rfl (by decide) (by decide +kernel) (q := 0) rfl dX8_see_67 ?_
  exact g_iret C dX8_see_70 (pfst h) (psnd h)
set_option maxHeartbeats 1000000 in
set_option maxRecDepth 20000 in
theorem kX8_see_e {p : Program} {l : Launch} {e : Env} {s : State} {m : MethodId} {args : Array Value} {below : List Frame} {meth : Method} {c : Code} {Z : Sh} (C : Cx p s m args meth c cX8_see 3 wsX8_see RX8 (some .int) Z layM) {σ : Sg} {v1 : Int32} {v2 : Int32} {u : Sg × Int32}  (h : fX8_see σ v1 v2 = some u) : G p l e rX8_see s m args below meth c 3 Z layM (MQ below (QI Z layM u.1 u.2 s.heap.size) args s 0 0 (pA Z layM s.heap.size)) σ 0 [(0, .ref (ad Z 0)), (1, .int v1), (2, .int v2)] [] := by
  unfold fX8_see at h
  refine g_aload_n (pc := 0) C dX8_see_0 rfl 0 rfl ?_
  refine g_iload_n (pc := 1) C dX8_see_1 rfl 1 rfl ?_
  obtain ⟨t1, et1, h⟩ := bs h
  refine g_callVi (pc := 2) C (As := [.int v1]) (rest := []) (k := 0) (by rfl) (by rfl) (cwV 1 C.2.2.2.2.2.1 gX8_see_X8_isLords rfl rfl rfl (by decide +kernel) ⟨Nat.le_of_ble_eq_true rfl, Nat.le_of_ble_eq_true rfl⟩) (mX8_isLords l Z  et1) rfl rfl (Nat.le_of_ble_eq_true rfl) dX8_see_2 ?_
  refine g_if_ne (pc := 5) C (tgt := 10) dX8_see_5 (by decide) h (fun hc5 h => ?_) (fun hc5 h => ?_)
  · refine g_aload_n (pc := 10) C dX8_see_10 rfl 0 rfl ?_
    refine g_geti (pc := 11) C (Cn := RX8) (T := TX8) (N := 32) (ci := 8) (k := 0) (j := 24) uX8_see_X8 (by rfl) rfl (by decide) (by decide +kernel) (q := 0) rfl dX8_see_11 ?_
    refine g_bipush (pc := 14) C (v := (6 : Int32)) dX8_see_14 (by decide) ?_
    refine g_icmp_ne (pc := 16) C (tgt := 22) dX8_see_16 (by decide) h (fun hc16 h => ?_) (fun hc16 h => ?_)
    · refine g_aload_n (pc := 22) C dX8_see_22 rfl 0 rfl ?_
      refine g_getr (pc := 23) C (Cn := RX8) (T := TX8) (N := 32) (ci := 8) (k := 0) (j := 23) uX8_see_X8 (by rfl) rfl (by decide) (by decide +kernel) (q := 8) rfl dX8_see_23 ?_
      refine g_iconst (pc := 26) C (v := (2 : Int32)) dX8_see_26 (by decide) ?_
      refine g_aload_n (pc := 27) C dX8_see_27 rfl 0 rfl ?_
      refine g_geti (pc := 28) C (Cn := RX8) (T := TX8) (N := 32) (ci := 8) (k := 0) (j := 24) uX8_see_X8 (by rfl) rfl (by decide) (by decide +kernel) (q := 0) rfl dX8_see_28 ?_
      refine g_imul (pc := 31) C dX8_see_31 ?_
      refine g_iload_n (pc := 32) C dX8_see_32 rfl 1 rfl ?_
      obtain ⟨σ2, eσ2, h⟩ := bs h
      refine g_iast (pc := 33) C (k := 8) (n := 12) (by rfl) eσ2 dX8_see_33 ?_
      refine g_aload_n (pc := 34) C dX8_see_34 rfl 0 rfl ?_
      refine g_getr (pc := 35) C (Cn := RX8) (T := TX8) (N := 32) (ci := 8) (k := 0) (j := 23) uX8_see_X8 (by rfl) rfl (by decide) (by decide +kernel) (q := 8) rfl dX8_see_35 ?_
      refine g_iconst (pc := 38) C (v := (2 : Int32)) dX8_see_38 (by decide) ?_
      refine g_aload_n (pc := 39) C dX8_see_39 rfl 0 rfl ?_
      refine g_geti (pc := 40) C (Cn := RX8) (T := TX8) (N := 32) (ci := 8) (k := 0) (j := 24) uX8_see_X8 (by rfl) rfl (by decide) (by decide +kernel) (q := 0) rfl dX8_see_40 ?_
      refine g_imul (pc := 43) C dX8_see_43 ?_
      refine g_iconst (pc := 44) C (v := (1 : Int32)) dX8_see_44 (by decide) ?_
      refine g_iadd (pc := 45) C dX8_see_45 ?_
      refine g_iload_n (pc := 46) C dX8_see_46 rfl 2 rfl ?_
      refine g_if_eq (pc := 47) C (tgt := 54) dX8_see_47 (by decide) h (fun hc47 h => ?_) (fun hc47 h => ?_)
      · refine g_iconst (pc := 54) C (v := (0 : Int32)) dX8_see_54 (by decide) ?_
        exact g_sub [0] rfl (kX8_see_b55 C    h)
      · refine g_iconst (pc := 50) C (v := (1 : Int32)) dX8_see_50 (by decide) ?_
        refine g_goto (pc := 51) C (tgt := 55) dX8_see_51 (by decide) ?_
        exact g_sub [0] rfl (kX8_see_b55 C    h)
    · refine g_bipush (pc := 19) C (v := (-3 : Int32)) dX8_see_19 (by decide) ?_
      exact g_iret C dX8_see_21 (pfst h) (psnd h)
  · refine g_iconst (pc := 8) C (v := (-1 : Int32)) dX8_see_8 (by decide) ?_
    exact g_iret C dX8_see_9 (pfst h) (psnd h)
theorem mX8_see (l : Launch) (Z : Sh) {σ : Sg} {v1 : Int32} {v2 : Int32} {u : Sg × Int32}  (h : fX8_see σ v1 v2 = some u) : MI l Z layM yX8_see wsX8_see rX8_see [.ref (ad Z 0), .int v1, .int v2] σ u.1 u.2 :=
  MI.of (cc := cX8_see) (maxL := 3) (ret := (some .int)) (by decide) rfl (Nat.le_of_ble_eq_true rfl) (fun p e s m below meth c C => kX8_see_e C  h)

def rX8_forget : Room := { frames := 1, cells := 0, slots := 0, locals := 25 }
theorem uX8_forget_X8 : ∀ w ∈ wsX80, w ∈ wsX8_forget := by decide +kernel
def fX8_forget (σ : Sg) (v1 : Int32) : Option (Sg × Int32) := (fX8_in v1.toInt64 (0 : Int64) ((σ 0 24).toInt64)).bind fun t1 => if t1 = 0 then some (σ, (-1 : Int32)) else (pf σ 0 24 v1).bind fun σ2 => some (σ2, (σ 0 24))
set_option maxHeartbeats 1000000 in
set_option maxRecDepth 20000 in
theorem kX8_forget_e {p : Program} {l : Launch} {e : Env} {s : State} {m : MethodId} {args : Array Value} {below : List Frame} {meth : Method} {c : Code} {Z : Sh} (C : Cx p s m args meth c cX8_forget 3 wsX8_forget RX8 (some .int) Z layM) {σ : Sg} {v1 : Int32} {u : Sg × Int32}  (h : fX8_forget σ v1 = some u) : G p l e rX8_forget s m args below meth c 3 Z layM (MQ below (QI Z layM u.1 u.2 s.heap.size) args s 0 0 (pA Z layM s.heap.size)) σ 0 [(0, .ref (ad Z 0)), (1, .int v1)] [] := by
  unfold fX8_forget at h
  refine g_iload_n (pc := 0) C dX8_forget_0 rfl 1 rfl ?_
  refine g_i2l (pc := 1) C dX8_forget_1 ?_
  refine g_lconst (pc := 2) C (v := (0 : Int64)) dX8_forget_2 (by decide) ?_
  refine g_aload_n (pc := 3) C dX8_forget_3 rfl 0 rfl ?_
  refine g_geti (pc := 4) C (Cn := RX8) (T := TX8) (N := 32) (ci := 8) (k := 0) (j := 24) uX8_forget_X8 (by rfl) rfl (by decide) (by decide +kernel) (q := 0) rfl dX8_forget_4 ?_
  refine g_i2l (pc := 7) C dX8_forget_7 ?_
  obtain ⟨t1, et1, h⟩ := bs h
  refine g_callSi (pc := 8) C (As := [.long v1.toInt64, .long (0 : Int64), .long ((σ 0 24).toInt64)]) (rest := []) (va_cwS 3 C.2.2.2.2.2.1 gX8_forget_X8_in rfl rfl rfl (by decide +kernel) ⟨Nat.le_of_ble_eq_true rfl, Nat.le_of_ble_eq_true rfl⟩) (mX8_in l Z  et1) rfl rfl (Nat.le_of_ble_eq_true rfl) dX8_forget_8 ?_
  refine g_if_ne (pc := 11) C (tgt := 16) dX8_forget_11 (by decide) h (fun hc11 h => ?_) (fun hc11 h => ?_)
  · refine g_aload_n (pc := 16) C dX8_forget_16 rfl 0 rfl ?_
    refine g_geti (pc := 17) C (Cn := RX8) (T := TX8) (N := 32) (ci := 8) (k := 0) (j := 24) uX8_forget_X8 (by rfl) rfl (by decide) (by decide +kernel) (q := 0) rfl dX8_forget_17 ?_
    refine g_istore_n (pc := 20) C (lv2 := [(2, .int (σ 0 24)), (0, .ref (ad Z 0)), (1, .int v1)]) dX8_forget_20 rfl (by decide) rfl ?_
    refine g_aload_n (pc := 21) C dX8_forget_21 rfl 1 rfl ?_
    refine g_iload_n (pc := 22) C dX8_forget_22 rfl 2 rfl ?_
    obtain ⟨σ2, eσ2, h⟩ := bs h
    refine g_puti (pc := 23) C (Cn := RX8) (T := TX8) (N := 32) (ci := 8) (k := 0) (j := 24) uX8_forget_X8 (by rfl) rfl (by decide) (by decide +kernel) tyX8 tyX8_ok nmX8 rfl (by decide +kernel) rfl eσ2 dX8_forget_23 ?_
    refine g_iload_n (pc := 26) C dX8_forget_26 rfl 0 rfl ?_
    exact g_iret C dX8_forget_27 (pfst h) (psnd h)
  · refine g_iconst (pc := 14) C (v := (-1 : Int32)) dX8_forget_14 (by decide) ?_
    exact g_iret C dX8_forget_15 (pfst h) (psnd h)
theorem mX8_forget (l : Launch) (Z : Sh) {σ : Sg} {v1 : Int32} {u : Sg × Int32}  (h : fX8_forget σ v1 = some u) : MI l Z layM yX8_forget wsX8_forget rX8_forget [.ref (ad Z 0), .int v1] σ u.1 u.2 :=
  MI.of (cc := cX8_forget) (maxL := 3) (ret := (some .int)) (by decide) rfl (Nat.le_of_ble_eq_true rfl) (fun p e s m below meth c C => kX8_forget_e C  h)

def rX8_isAsSeen : Room := { frames := 3, cells := 0, slots := 0, locals := 65 }
theorem uX8_isAsSeen_X8 : ∀ w ∈ wsX80, w ∈ wsX8_isAsSeen := by decide +kernel
def fX8_isAsSeen_b47 (σ : Sg)  (k4 : Int32 → Int32 → Option (Int32)) (v2 : Int32) (s0 : Int32) (s1 : Int32) : Option (Int32) := if s0 = s1 then k4 (1 : Int32) (v2 + 1) else k4 (0 : Int32) (v2 + 1)
def fX8_isAsSeen_l4 (σ : Sg)   : Nat → Int32 → Int32 → Option (Int32)
  | 0, _, _ => none
  | n + 1, v1, v2 => if (σ 0 24) ≤ v2 then rz v1 else if v1 = 0 then fX8_isAsSeen_l4 σ n (0 : Int32) (v2 + 1) else (rd (σ 8) 12 ((2 : Int32) * v2)).bind fun t1 => (fX8_carries σ t1).bind fun t2 => (rd (σ 8) 12 (((2 : Int32) * v2) + (1 : Int32))).bind fun t3 => if t3 = (1 : Int32) then fX8_isAsSeen_b47 σ (fun v1 v2 => fX8_isAsSeen_l4 σ n v1 v2) v2 t2 (1 : Int32) else fX8_isAsSeen_b47 σ (fun v1 v2 => fX8_isAsSeen_l4 σ n v1 v2) v2 t2 (0 : Int32)
def fX8_isAsSeen (σ : Sg)  : Option (Int32) := fX8_isAsSeen_l4 σ 2000 (1 : Int32) (0 : Int32)
set_option maxHeartbeats 1000000 in
set_option maxRecDepth 20000 in
theorem kX8_isAsSeen_b47 {p : Program} {l : Launch} {e : Env} {s : State} {m : MethodId} {args : Array Value} {below : List Frame} {meth : Method} {c : Code} {Z : Sh} (C : Cx p s m args meth c cX8_isAsSeen 3 wsX8_isAsSeen RX8 (some .boolean) Z layM) {σ : Sg}  {u : Int32}  {k4 : Int32 → Int32 → Option (Int32)} (hk4 : ∀ (v1 : Int32) (v2 : Int32), k4 v1 v2 = some u → G p l e rX8_isAsSeen s m args below meth c 3 Z layM (MQ below (QI Z layM σ u s.heap.size) args s 0 0 (pA Z layM s.heap.size)) σ 4 [(0, .ref (ad Z 0)), (1, .int v1), (2, .int v2)] []) {v2 : Int32} {s0 : Int32} {s1 : Int32} (h : fX8_isAsSeen_b47 σ k4 v2 s0 s1 = some u) : G p l e rX8_isAsSeen s m args below meth c 3 Z layM (MQ below (QI Z layM σ u s.heap.size) args s 0 0 (pA Z layM s.heap.size)) σ 47 [(0, .ref (ad Z 0)), (2, .int v2)] [.int s1, .int s0] := by
  unfold fX8_isAsSeen_b47 at h
  refine g_icmp_ne (pc := 47) C (tgt := 54) dX8_isAsSeen_47 (by decide) h (fun hc47 h => ?_) (fun hc47 h => ?_)
  · refine g_iconst (pc := 54) C (v := (0 : Int32)) dX8_isAsSeen_54 (by decide) ?_
    refine g_istore_n (pc := 55) C (lv2 := [(1, .int (0 : Int32)), (0, .ref (ad Z 0)), (2, .int v2)]) dX8_isAsSeen_55 rfl (by decide) rfl ?_
    refine g_iinc (pc := 56) C (j := 2) (v := (v2 + 1)) (lv2 := [(2, .int (v2 + 1)), (1, .int (0 : Int32)), (0, .ref (ad Z 0))]) dX8_isAsSeen_56 rfl rfl (by decide) rfl ?_
    refine g_goto (pc := 59) C (tgt := 4) dX8_isAsSeen_59 (by decide) ?_
    exact g_sub [2, 1, 0] rfl (hk4 _ _ h)
  · refine g_iconst (pc := 50) C (v := (1 : Int32)) dX8_isAsSeen_50 (by decide) ?_
    refine g_goto (pc := 51) C (tgt := 55) dX8_isAsSeen_51 (by decide) ?_
    refine g_istore_n (pc := 55) C (lv2 := [(1, .int (1 : Int32)), (0, .ref (ad Z 0)), (2, .int v2)]) dX8_isAsSeen_55 rfl (by decide) rfl ?_
    refine g_iinc (pc := 56) C (j := 2) (v := (v2 + 1)) (lv2 := [(2, .int (v2 + 1)), (1, .int (1 : Int32)), (0, .ref (ad Z 0))]) dX8_isAsSeen_56 rfl rfl (by decide) rfl ?_
    refine g_goto (pc := 59) C (tgt := 4) dX8_isAsSeen_59 (by decide) ?_
    exact g_sub [2, 1, 0] rfl (hk4 _ _ h)
set_option maxHeartbeats 1000000 in
set_option maxRecDepth 20000 in
theorem kX8_isAsSeen_l4 {p : Program} {l : Launch} {e : Env} {s : State} {m : MethodId} {args : Array Value} {below : List Frame} {meth : Method} {c : Code} {Z : Sh} (C : Cx p s m args meth c cX8_isAsSeen 3 wsX8_isAsSeen RX8 (some .boolean) Z layM) {σ : Sg}  {u : Int32}   : ∀ (n : Nat) (v1 : Int32) (v2 : Int32), fX8_isAsSeen_l4 σ n v1 v2 = some u → G p l e rX8_isAsSeen s m args below meth c 3 Z layM (MQ below (QI Z layM σ u s.heap.size) args s 0 0 (pA Z layM s.heap.size)) σ 4 [(0, .ref (ad Z 0)), (1, .int v1), (2, .int v2)] [] := by
  intro n
  induction n with
  | zero => intro v1 v2 h; exact absurd h (by simp [fX8_isAsSeen_l4])
  | succ n ih =>
    intro v1 v2 h
    rw [fX8_isAsSeen_l4] at h
    refine g_iload_n (pc := 4) C dX8_isAsSeen_4 rfl 2 rfl ?_
    refine g_aload_n (pc := 5) C dX8_isAsSeen_5 rfl 0 rfl ?_
    refine g_geti (pc := 6) C (Cn := RX8) (T := TX8) (N := 32) (ci := 8) (k := 0) (j := 24) uX8_isAsSeen_X8 (by rfl) rfl (by decide) (by decide +kernel) (q := 0) rfl dX8_isAsSeen_6 ?_
    refine g_icmp_ge (pc := 9) C (tgt := 62) dX8_isAsSeen_9 (by decide) h (fun hc9 h => ?_) (fun hc9 h => ?_)
    · refine g_iload_n (pc := 62) C dX8_isAsSeen_62 rfl 1 rfl ?_
      exact g_zret C dX8_isAsSeen_63 rfl h
    · refine g_iload_n (pc := 12) C dX8_isAsSeen_12 rfl 1 rfl ?_
      refine g_if_eq (pc := 13) C (tgt := 54) dX8_isAsSeen_13 (by decide) h (fun hc13 h => ?_) (fun hc13 h => ?_)
      · refine g_iconst (pc := 54) C (v := (0 : Int32)) dX8_isAsSeen_54 (by decide) ?_
        refine g_istore_n (pc := 55) C (lv2 := [(1, .int (0 : Int32)), (0, .ref (ad Z 0)), (2, .int v2)]) dX8_isAsSeen_55 rfl (by decide) rfl ?_
        refine g_iinc (pc := 56) C (j := 2) (v := (v2 + 1)) (lv2 := [(2, .int (v2 + 1)), (1, .int (0 : Int32)), (0, .ref (ad Z 0))]) dX8_isAsSeen_56 rfl rfl (by decide) rfl ?_
        refine g_goto (pc := 59) C (tgt := 4) dX8_isAsSeen_59 (by decide) ?_
        exact g_sub [2, 1, 0] rfl (ih _ _ h)
      · refine g_aload_n (pc := 16) C dX8_isAsSeen_16 rfl 0 rfl ?_
        refine g_aload_n (pc := 17) C dX8_isAsSeen_17 rfl 0 rfl ?_
        refine g_getr (pc := 18) C (Cn := RX8) (T := TX8) (N := 32) (ci := 8) (k := 0) (j := 23) uX8_isAsSeen_X8 (by rfl) rfl (by decide) (by decide +kernel) (q := 8) rfl dX8_isAsSeen_18 ?_
        refine g_iconst (pc := 21) C (v := (2 : Int32)) dX8_isAsSeen_21 (by decide) ?_
        refine g_iload_n (pc := 22) C dX8_isAsSeen_22 rfl 2 rfl ?_
        refine g_imul (pc := 23) C dX8_isAsSeen_23 ?_
        obtain ⟨t1, et1, h⟩ := bs h
        refine g_iald (pc := 24) C (k := 8) (n := 12) (by rfl) et1 dX8_isAsSeen_24 ?_
        obtain ⟨t2, et2, h⟩ := bs h
        refine g_callVi (pc := 25) C (As := [.int t1]) (rest := []) (k := 0) (by rfl) (by rfl) (cwV 1 C.2.2.2.2.2.1 gX8_isAsSeen_X8_carries rfl rfl rfl (by decide +kernel) ⟨Nat.le_of_ble_eq_true rfl, Nat.le_of_ble_eq_true rfl⟩) (mX8_carries l Z  et2) rfl rfl (Nat.le_of_ble_eq_true rfl) dX8_isAsSeen_25 ?_
        refine g_aload_n (pc := 28) C dX8_isAsSeen_28 rfl 0 rfl ?_
        refine g_getr (pc := 29) C (Cn := RX8) (T := TX8) (N := 32) (ci := 8) (k := 0) (j := 23) uX8_isAsSeen_X8 (by rfl) rfl (by decide) (by decide +kernel) (q := 8) rfl dX8_isAsSeen_29 ?_
        refine g_iconst (pc := 32) C (v := (2 : Int32)) dX8_isAsSeen_32 (by decide) ?_
        refine g_iload_n (pc := 33) C dX8_isAsSeen_33 rfl 2 rfl ?_
        refine g_imul (pc := 34) C dX8_isAsSeen_34 ?_
        refine g_iconst (pc := 35) C (v := (1 : Int32)) dX8_isAsSeen_35 (by decide) ?_
        refine g_iadd (pc := 36) C dX8_isAsSeen_36 ?_
        obtain ⟨t3, et3, h⟩ := bs h
        refine g_iald (pc := 37) C (k := 8) (n := 12) (by rfl) et3 dX8_isAsSeen_37 ?_
        refine g_iconst (pc := 38) C (v := (1 : Int32)) dX8_isAsSeen_38 (by decide) ?_
        refine g_icmp_ne (pc := 39) C (tgt := 46) dX8_isAsSeen_39 (by decide) h (fun hc39 h => ?_) (fun hc39 h => ?_)
        · refine g_iconst (pc := 46) C (v := (0 : Int32)) dX8_isAsSeen_46 (by decide) ?_
          exact g_sub [0, 2] rfl (kX8_isAsSeen_b47 C  ih  h)
        · refine g_iconst (pc := 42) C (v := (1 : Int32)) dX8_isAsSeen_42 (by decide) ?_
          refine g_goto (pc := 43) C (tgt := 47) dX8_isAsSeen_43 (by decide) ?_
          exact g_sub [0, 2] rfl (kX8_isAsSeen_b47 C  ih  h)
set_option maxHeartbeats 1000000 in
set_option maxRecDepth 20000 in
theorem kX8_isAsSeen_e {p : Program} {l : Launch} {e : Env} {s : State} {m : MethodId} {args : Array Value} {below : List Frame} {meth : Method} {c : Code} {Z : Sh} (C : Cx p s m args meth c cX8_isAsSeen 3 wsX8_isAsSeen RX8 (some .boolean) Z layM) {σ : Sg}  {u : Int32}  (h : fX8_isAsSeen σ = some u) : G p l e rX8_isAsSeen s m args below meth c 3 Z layM (MQ below (QI Z layM σ u s.heap.size) args s 0 0 (pA Z layM s.heap.size)) σ 0 [(0, .ref (ad Z 0))] [] := by
  unfold fX8_isAsSeen at h
  refine g_iconst (pc := 0) C (v := (1 : Int32)) dX8_isAsSeen_0 (by decide) ?_
  refine g_istore_n (pc := 1) C (lv2 := [(1, .int (1 : Int32)), (0, .ref (ad Z 0))]) dX8_isAsSeen_1 rfl (by decide) rfl ?_
  refine g_iconst (pc := 2) C (v := (0 : Int32)) dX8_isAsSeen_2 (by decide) ?_
  refine g_istore_n (pc := 3) C (lv2 := [(2, .int (0 : Int32)), (1, .int (1 : Int32)), (0, .ref (ad Z 0))]) dX8_isAsSeen_3 rfl (by decide) rfl ?_
  exact g_sub [2, 1, 0] rfl (kX8_isAsSeen_l4 C   _ _ _ h)
theorem mX8_isAsSeen (l : Launch) (Z : Sh) {σ : Sg}  {u : Int32}  (h : fX8_isAsSeen σ = some u) : MI l Z layM yX8_isAsSeen wsX8_isAsSeen rX8_isAsSeen [.ref (ad Z 0)] σ σ u :=
  MI.of (cc := cX8_isAsSeen) (maxL := 3) (ret := (some .boolean)) (by decide) rfl (Nat.le_of_ble_eq_true rfl) (fun p e s m below meth c C => kX8_isAsSeen_e C  h)

def rX8_ownersOf : Room := { frames := 4, cells := 0, slots := 0, locals := 87 }
theorem uX8_ownersOf_X8 : ∀ w ∈ wsX80, w ∈ wsX8_ownersOf := by decide +kernel
def fX8_ownersOf_l88 (v1 : Int32) (k15 : Sg → Int32 → Int32 → Int32 → Option (Sg × Int32)) : Nat → Sg → Int32 → Int32 → Int32 → Int32 → Option (Sg × Int32)
  | 0, _, _, _, _, _ => none
  | n + 1, σ, v2, v3, v4, v5 => if ((1 : Int32) <<< ((σ 0 1) &&& 31)) ≤ v5 then k15 σ v2 v3 (v4 + 1) else (rd (σ 9) 5 v4).bind fun t1 => (fX8_carries σ v5).bind fun t2 => if t2 = 0 then (wr σ 9 5 v4 (t1 ||| (0 : Int32))).bind fun σ3 => fX8_ownersOf_l88 v1 k15 n σ3 v2 v3 v4 (v5 + 1) else (wr σ 9 5 v4 (t1 ||| ((1 : Int32) <<< (v5 &&& 31)))).bind fun σ4 => fX8_ownersOf_l88 v1 k15 n σ4 v2 v3 v4 (v5 + 1)
def fX8_ownersOf_b75 (v1 : Int32) (k15 : Sg → Int32 → Int32 → Int32 → Option (Sg × Int32)) (σ : Sg) (v3 : Int32) (v4 : Int32) (s0 : Int32) (s1 : Int32) : Option (Sg × Int32) := (wr σ 9 5 v4 (0 : Int32)).bind fun σ1 => fX8_ownersOf_l88 v1 k15 2000 σ1 (s0 ||| s1) v3 v4 (0 : Int32)
def fX8_ownersOf_b58 (v1 : Int32) (k15 : Sg → Int32 → Int32 → Int32 → Option (Sg × Int32)) (σ : Sg) (v2 : Int32) (v3 : Int32) (v4 : Int32) (s1 : Int32) (s2 : Int32) : Option (Sg × Int32) := (wr σ 1 116 s1 s2).bind fun σ1 => (fX8_isAsSeen σ1).bind fun t2 => if t2 = 0 then fX8_ownersOf_b75 v1 k15 σ1 v3 v4 v2 (0 : Int32) else fX8_ownersOf_b75 v1 k15 σ1 v3 v4 v2 ((1 : Int32) <<< (v4 &&& 31))
def fX8_ownersOf_b36 (v1 : Int32) (k15 : Sg → Int32 → Int32 → Int32 → Option (Sg × Int32)) (σ : Sg) (v2 : Int32) (v3 : Int32) (v4 : Int32) : Option (Sg × Int32) := if v4 = (4 : Int32) then fX8_ownersOf_b58 v1 k15 σ v2 v3 v4 ((22 : Int32) + v1) (0 : Int32) else fX8_ownersOf_b58 v1 k15 σ v2 v3 v4 ((22 : Int32) + v1) (v4 + (1 : Int32))
def fX8_ownersOf_l15 (v1 : Int32)  : Nat → Sg → Int32 → Int32 → Int32 → Option (Sg × Int32)
  | 0, _, _, _, _ => none
  | n + 1, σ, v2, v3, v4 => if (4 : Int32) < v4 then (wr σ 1 116 ((22 : Int32) + v1) v3).bind fun σ1 => some (σ1, v2) else if v4 = (4 : Int32) then fX8_ownersOf_b36 v1 (fun σ v2 v3 v4 => fX8_ownersOf_l15 v1 n σ v2 v3 v4) σ v2 v3 v4 else (fX8_isLord σ v4).bind fun t2 => if t2 = 0 then fX8_ownersOf_l15 v1 n σ v2 v3 (v4 + 1) else fX8_ownersOf_b36 v1 (fun σ v2 v3 v4 => fX8_ownersOf_l15 v1 n σ v2 v3 v4) σ v2 v3 v4
def fX8_ownersOf (σ : Sg) (v1 : Int32) : Option (Sg × Int32) := (rd (σ 1) 116 ((22 : Int32) + v1)).bind fun t1 => fX8_ownersOf_l15 v1 2000 σ (0 : Int32) t1 (0 : Int32)
set_option maxHeartbeats 1000000 in
set_option maxRecDepth 20000 in
theorem kX8_ownersOf_l88 {p : Program} {l : Launch} {e : Env} {s : State} {m : MethodId} {args : Array Value} {below : List Frame} {meth : Method} {c : Code} {Z : Sh} (C : Cx p s m args meth c cX8_ownersOf 6 wsX8_ownersOf RX8 (some .int) Z layM) {v1 : Int32} {u : Sg × Int32}  {k15 : Sg → Int32 → Int32 → Int32 → Option (Sg × Int32)} (hk15 : ∀ (σ : Sg) (v2 : Int32) (v3 : Int32) (v4 : Int32), k15 σ v2 v3 v4 = some u → G p l e rX8_ownersOf s m args below meth c 6 Z layM (MQ below (QI Z layM u.1 u.2 s.heap.size) args s 0 0 (pA Z layM s.heap.size)) σ 15 [(0, .ref (ad Z 0)), (1, .int v1), (2, .int v2), (3, .int v3), (4, .int v4)] []) : ∀ (n : Nat) (σ : Sg) (v2 : Int32) (v3 : Int32) (v4 : Int32) (v5 : Int32), fX8_ownersOf_l88 v1 k15 n σ v2 v3 v4 v5 = some u → G p l e rX8_ownersOf s m args below meth c 6 Z layM (MQ below (QI Z layM u.1 u.2 s.heap.size) args s 0 0 (pA Z layM s.heap.size)) σ 88 [(0, .ref (ad Z 0)), (1, .int v1), (2, .int v2), (3, .int v3), (4, .int v4), (5, .int v5)] [] := by
  intro n
  induction n with
  | zero => intro σ v2 v3 v4 v5 h; exact absurd h (by simp [fX8_ownersOf_l88])
  | succ n ih =>
    intro σ v2 v3 v4 v5 h
    rw [fX8_ownersOf_l88] at h
    refine g_iload (pc := 88) C dX8_ownersOf_88 5 rfl ?_
    refine g_iconst (pc := 90) C (v := (1 : Int32)) dX8_ownersOf_90 (by decide) ?_
    refine g_aload_n (pc := 91) C dX8_ownersOf_91 rfl 0 rfl ?_
    refine g_geti (pc := 92) C (Cn := RX8) (T := TX8) (N := 32) (ci := 8) (k := 0) (j := 1) uX8_ownersOf_X8 (by rfl) rfl (by decide) (by decide +kernel) (q := 0) rfl dX8_ownersOf_92 ?_
    refine g_ishl (pc := 95) C dX8_ownersOf_95 ?_
    refine g_icmp_ge (pc := 96) C (tgt := 132) dX8_ownersOf_96 (by decide) h (fun hc96 h => ?_) (fun hc96 h => ?_)
    · refine g_iinc (pc := 132) C (j := 4) (v := (v4 + 1)) (lv2 := [(4, .int (v4 + 1)), (0, .ref (ad Z 0)), (1, .int v1), (2, .int v2), (3, .int v3), (5, .int v5)]) dX8_ownersOf_132 rfl rfl (by decide) rfl ?_
      refine g_goto (pc := 135) C (tgt := 15) dX8_ownersOf_135 (by decide) ?_
      exact g_sub [1, 2, 3, 4, 0] rfl (hk15 _ _ _ _ h)
    · refine g_aload_n (pc := 99) C dX8_ownersOf_99 rfl 0 rfl ?_
      refine g_getr (pc := 100) C (Cn := RX8) (T := TX8) (N := 32) (ci := 8) (k := 0) (j := 25) uX8_ownersOf_X8 (by rfl) rfl (by decide) (by decide +kernel) (q := 9) rfl dX8_ownersOf_100 ?_
      refine g_iload (pc := 103) C dX8_ownersOf_103 4 rfl ?_
      refine g_dup2 (pc := 105) C rfl rfl dX8_ownersOf_105 ?_
      obtain ⟨t1, et1, h⟩ := bs h
      refine g_iald (pc := 106) C (k := 9) (n := 5) (by rfl) et1 dX8_ownersOf_106 ?_
      refine g_aload_n (pc := 107) C dX8_ownersOf_107 rfl 0 rfl ?_
      refine g_iload (pc := 108) C dX8_ownersOf_108 5 rfl ?_
      obtain ⟨t2, et2, h⟩ := bs h
      refine g_callVi (pc := 110) C (As := [.int v5]) (rest := [.int t1, .int v4, .ref (ad Z 9)]) (k := 0) (by rfl) (by rfl) (cwV 1 C.2.2.2.2.2.1 gX8_ownersOf_X8_carries rfl rfl rfl (by decide +kernel) ⟨Nat.le_of_ble_eq_true rfl, Nat.le_of_ble_eq_true rfl⟩) (mX8_carries l Z  et2) rfl rfl (Nat.le_of_ble_eq_true rfl) dX8_ownersOf_110 ?_
      refine g_if_eq (pc := 113) C (tgt := 123) dX8_ownersOf_113 (by decide) h (fun hc113 h => ?_) (fun hc113 h => ?_)
      · refine g_iconst (pc := 123) C (v := (0 : Int32)) dX8_ownersOf_123 (by decide) ?_
        refine g_ior (pc := 124) C dX8_ownersOf_124 ?_
        obtain ⟨σ3, eσ3, h⟩ := bs h
        refine g_iast (pc := 125) C (k := 9) (n := 5) (by rfl) eσ3 dX8_ownersOf_125 ?_
        refine g_iinc (pc := 126) C (j := 5) (v := (v5 + 1)) (lv2 := [(5, .int (v5 + 1)), (0, .ref (ad Z 0)), (1, .int v1), (2, .int v2), (3, .int v3), (4, .int v4)]) dX8_ownersOf_126 rfl rfl (by decide) rfl ?_
        refine g_goto (pc := 129) C (tgt := 88) dX8_ownersOf_129 (by decide) ?_
        exact g_sub [1, 2, 3, 4, 5, 0] rfl (ih _ _ _ _ _ h)
      · refine g_iconst (pc := 116) C (v := (1 : Int32)) dX8_ownersOf_116 (by decide) ?_
        refine g_iload (pc := 117) C dX8_ownersOf_117 5 rfl ?_
        refine g_ishl (pc := 119) C dX8_ownersOf_119 ?_
        refine g_goto (pc := 120) C (tgt := 124) dX8_ownersOf_120 (by decide) ?_
        refine g_ior (pc := 124) C dX8_ownersOf_124 ?_
        obtain ⟨σ4, eσ4, h⟩ := bs h
        refine g_iast (pc := 125) C (k := 9) (n := 5) (by rfl) eσ4 dX8_ownersOf_125 ?_
        refine g_iinc (pc := 126) C (j := 5) (v := (v5 + 1)) (lv2 := [(5, .int (v5 + 1)), (0, .ref (ad Z 0)), (1, .int v1), (2, .int v2), (3, .int v3), (4, .int v4)]) dX8_ownersOf_126 rfl rfl (by decide) rfl ?_
        refine g_goto (pc := 129) C (tgt := 88) dX8_ownersOf_129 (by decide) ?_
        exact g_sub [1, 2, 3, 4, 5, 0] rfl (ih _ _ _ _ _ h)
set_option maxHeartbeats 1000000 in
set_option maxRecDepth 20000 in
theorem kX8_ownersOf_b75 {p : Program} {l : Launch} {e : Env} {s : State} {m : MethodId} {args : Array Value} {below : List Frame} {meth : Method} {c : Code} {Z : Sh} (C : Cx p s m args meth c cX8_ownersOf 6 wsX8_ownersOf RX8 (some .int) Z layM) {v1 : Int32} {u : Sg × Int32}  {k15 : Sg → Int32 → Int32 → Int32 → Option (Sg × Int32)} (hk15 : ∀ (σ : Sg) (v2 : Int32) (v3 : Int32) (v4 : Int32), k15 σ v2 v3 v4 = some u → G p l e rX8_ownersOf s m args below meth c 6 Z layM (MQ below (QI Z layM u.1 u.2 s.heap.size) args s 0 0 (pA Z layM s.heap.size)) σ 15 [(0, .ref (ad Z 0)), (1, .int v1), (2, .int v2), (3, .int v3), (4, .int v4)] []) {σ : Sg} {v3 : Int32} {v4 : Int32} {s0 : Int32} {s1 : Int32} (h : fX8_ownersOf_b75 v1 k15 σ v3 v4 s0 s1 = some u) : G p l e rX8_ownersOf s m args below meth c 6 Z layM (MQ below (QI Z layM u.1 u.2 s.heap.size) args s 0 0 (pA Z layM s.heap.size)) σ 75 [(0, .ref (ad Z 0)), (1, .int v1), (3, .int v3), (4, .int v4)] [.int s1, .int s0] := by
  unfold fX8_ownersOf_b75 at h
  refine g_ior (pc := 75) C dX8_ownersOf_75 ?_
  refine g_istore_n (pc := 76) C (lv2 := [(2, .int (s0 ||| s1)), (0, .ref (ad Z 0)), (1, .int v1), (3, .int v3), (4, .int v4)]) dX8_ownersOf_76 rfl (by decide) rfl ?_
  refine g_aload_n (pc := 77) C dX8_ownersOf_77 rfl 1 rfl ?_
  refine g_getr (pc := 78) C (Cn := RX8) (T := TX8) (N := 32) (ci := 8) (k := 0) (j := 25) uX8_ownersOf_X8 (by rfl) rfl (by decide) (by decide +kernel) (q := 9) rfl dX8_ownersOf_78 ?_
  refine g_iload (pc := 81) C dX8_ownersOf_81 4 rfl ?_
  refine g_iconst (pc := 83) C (v := (0 : Int32)) dX8_ownersOf_83 (by decide) ?_
  obtain ⟨σ1, eσ1, h⟩ := bs h
  refine g_iast (pc := 84) C (k := 9) (n := 5) (by rfl) eσ1 dX8_ownersOf_84 ?_
  refine g_iconst (pc := 85) C (v := (0 : Int32)) dX8_ownersOf_85 (by decide) ?_
  refine g_istore (pc := 86) C (lv2 := [(5, .int (0 : Int32)), (2, .int (s0 ||| s1)), (0, .ref (ad Z 0)), (1, .int v1), (3, .int v3), (4, .int v4)]) dX8_ownersOf_86 (by decide) rfl ?_
  exact g_sub [2, 3, 1, 4, 5, 0] rfl (kX8_ownersOf_l88 C  hk15 _ _ _ _ _ _ h)
set_option maxHeartbeats 1000000 in
set_option maxRecDepth 20000 in
theorem kX8_ownersOf_b58 {p : Program} {l : Launch} {e : Env} {s : State} {m : MethodId} {args : Array Value} {below : List Frame} {meth : Method} {c : Code} {Z : Sh} (C : Cx p s m args meth c cX8_ownersOf 6 wsX8_ownersOf RX8 (some .int) Z layM) {v1 : Int32} {u : Sg × Int32}  {k15 : Sg → Int32 → Int32 → Int32 → Option (Sg × Int32)} (hk15 : ∀ (σ : Sg) (v2 : Int32) (v3 : Int32) (v4 : Int32), k15 σ v2 v3 v4 = some u → G p l e rX8_ownersOf s m args below meth c 6 Z layM (MQ below (QI Z layM u.1 u.2 s.heap.size) args s 0 0 (pA Z layM s.heap.size)) σ 15 [(0, .ref (ad Z 0)), (1, .int v1), (2, .int v2), (3, .int v3), (4, .int v4)] []) {σ : Sg} {v2 : Int32} {v3 : Int32} {v4 : Int32} {s1 : Int32} {s2 : Int32} (h : fX8_ownersOf_b58 v1 k15 σ v2 v3 v4 s1 s2 = some u) : G p l e rX8_ownersOf s m args below meth c 6 Z layM (MQ below (QI Z layM u.1 u.2 s.heap.size) args s 0 0 (pA Z layM s.heap.size)) σ 58 [(0, .ref (ad Z 0)), (1, .int v1), (2, .int v2), (3, .int v3), (4, .int v4)] [.int s2, .int s1, .ref (ad Z 1)] := by
  unfold fX8_ownersOf_b58 at h
  obtain ⟨σ1, eσ1, h⟩ := bs h
  refine g_iast (pc := 58) C (k := 1) (n := 116) (by rfl) eσ1 dX8_ownersOf_58 ?_
  refine g_iload_n (pc := 59) C dX8_ownersOf_59 rfl 2 rfl ?_
  refine g_aload_n (pc := 60) C dX8_ownersOf_60 rfl 0 rfl ?_
  obtain ⟨t2, et2, h⟩ := bs h
  refine g_callVi (pc := 61) C (As := []) (rest := [.int v2]) (k := 0) (by rfl) (by rfl) (cwV 0 C.2.2.2.2.2.1 gX8_ownersOf_X8_isAsSeen rfl rfl rfl (by decide +kernel) ⟨Nat.le_of_ble_eq_true rfl, Nat.le_of_ble_eq_true rfl⟩) (mX8_isAsSeen l Z  et2) rfl rfl (Nat.le_of_ble_eq_true rfl) dX8_ownersOf_61 ?_
  refine g_if_eq (pc := 64) C (tgt := 74) dX8_ownersOf_64 (by decide) h (fun hc64 h => ?_) (fun hc64 h => ?_)
  · refine g_iconst (pc := 74) C (v := (0 : Int32)) dX8_ownersOf_74 (by decide) ?_
    exact g_sub [0, 1, 3, 4] rfl (kX8_ownersOf_b75 C  hk15  h)
  · refine g_iconst (pc := 67) C (v := (1 : Int32)) dX8_ownersOf_67 (by decide) ?_
    refine g_iload (pc := 68) C dX8_ownersOf_68 4 rfl ?_
    refine g_ishl (pc := 70) C dX8_ownersOf_70 ?_
    refine g_goto (pc := 71) C (tgt := 75) dX8_ownersOf_71 (by decide) ?_
    exact g_sub [0, 1, 3, 4] rfl (kX8_ownersOf_b75 C  hk15  h)
set_option maxHeartbeats 1000000 in
set_option maxRecDepth 20000 in
theorem kX8_ownersOf_b36 {p : Program} {l : Launch} {e : Env} {s : State} {m : MethodId} {args : Array Value} {below : List Frame} {meth : Method} {c : Code} {Z : Sh} (C : Cx p s m args meth c cX8_ownersOf 6 wsX8_ownersOf RX8 (some .int) Z layM) {v1 : Int32} {u : Sg × Int32}  {k15 : Sg → Int32 → Int32 → Int32 → Option (Sg × Int32)} (hk15 : ∀ (σ : Sg) (v2 : Int32) (v3 : Int32) (v4 : Int32), k15 σ v2 v3 v4 = some u → G p l e rX8_ownersOf s m args below meth c 6 Z layM (MQ below (QI Z layM u.1 u.2 s.heap.size) args s 0 0 (pA Z layM s.heap.size)) σ 15 [(0, .ref (ad Z 0)), (1, .int v1), (2, .int v2), (3, .int v3), (4, .int v4)] []) {σ : Sg} {v2 : Int32} {v3 : Int32} {v4 : Int32} (h : fX8_ownersOf_b36 v1 k15 σ v2 v3 v4 = some u) : G p l e rX8_ownersOf s m args below meth c 6 Z layM (MQ below (QI Z layM u.1 u.2 s.heap.size) args s 0 0 (pA Z layM s.heap.size)) σ 36 [(0, .ref (ad Z 0)), (1, .int v1), (2, .int v2), (3, .int v3), (4, .int v4)] [] := by
  unfold fX8_ownersOf_b36 at h
  refine g_aload_n (pc := 36) C dX8_ownersOf_36 rfl 0 rfl ?_
  refine g_getr (pc := 37) C (Cn := RX8) (T := TX8) (N := 32) (ci := 8) (k := 0) (j := 0) uX8_ownersOf_X8 (by rfl) rfl (by decide) (by decide +kernel) (q := 1) rfl dX8_ownersOf_37 ?_
  refine g_bipush (pc := 40) C (v := (22 : Int32)) dX8_ownersOf_40 (by decide) ?_
  refine g_iload_n (pc := 42) C dX8_ownersOf_42 rfl 1 rfl ?_
  refine g_iadd (pc := 43) C dX8_ownersOf_43 ?_
  refine g_iload (pc := 44) C dX8_ownersOf_44 4 rfl ?_
  refine g_iconst (pc := 46) C (v := (4 : Int32)) dX8_ownersOf_46 (by decide) ?_
  refine g_icmp_ne (pc := 47) C (tgt := 54) dX8_ownersOf_47 (by decide) h (fun hc47 h => ?_) (fun hc47 h => ?_)
  · refine g_iload (pc := 54) C dX8_ownersOf_54 4 rfl ?_
    refine g_iconst (pc := 56) C (v := (1 : Int32)) dX8_ownersOf_56 (by decide) ?_
    refine g_iadd (pc := 57) C dX8_ownersOf_57 ?_
    exact g_sub [0, 1, 2, 3, 4] rfl (kX8_ownersOf_b58 C  hk15  h)
  · refine g_iconst (pc := 50) C (v := (0 : Int32)) dX8_ownersOf_50 (by decide) ?_
    refine g_goto (pc := 51) C (tgt := 58) dX8_ownersOf_51 (by decide) ?_
    exact g_sub [0, 1, 2, 3, 4] rfl (kX8_ownersOf_b58 C  hk15  h)
set_option maxHeartbeats 1000000 in
set_option maxRecDepth 20000 in
theorem kX8_ownersOf_l15 {p : Program} {l : Launch} {e : Env} {s : State} {m : MethodId} {args : Array Value} {below : List Frame} {meth : Method} {c : Code} {Z : Sh} (C : Cx p s m args meth c cX8_ownersOf 6 wsX8_ownersOf RX8 (some .int) Z layM) {v1 : Int32} {u : Sg × Int32}   : ∀ (n : Nat) (σ : Sg) (v2 : Int32) (v3 : Int32) (v4 : Int32), fX8_ownersOf_l15 v1 n σ v2 v3 v4 = some u → G p l e rX8_ownersOf s m args below meth c 6 Z layM (MQ below (QI Z layM u.1 u.2 s.heap.size) args s 0 0 (pA Z layM s.heap.size)) σ 15 [(0, .ref (ad Z 0)), (1, .int v1), (2, .int v2), (3, .int v3), (4, .int v4)] [] := by
  intro n
  induction n with
  | zero => intro σ v2 v3 v4 h; exact absurd h (by simp [fX8_ownersOf_l15])
  | succ n ih =>
    intro σ v2 v3 v4 h
    rw [fX8_ownersOf_l15] at h
    refine g_iload (pc := 15) C dX8_ownersOf_15 4 rfl ?_
    refine g_iconst (pc := 17) C (v := (4 : Int32)) dX8_ownersOf_17 (by decide) ?_
    refine g_icmp_gt (pc := 18) C (tgt := 138) dX8_ownersOf_18 (by decide) h (fun hc18 h => ?_) (fun hc18 h => ?_)
    · refine g_aload_n (pc := 138) C dX8_ownersOf_138 rfl 0 rfl ?_
      refine g_getr (pc := 139) C (Cn := RX8) (T := TX8) (N := 32) (ci := 8) (k := 0) (j := 0) uX8_ownersOf_X8 (by rfl) rfl (by decide) (by decide +kernel) (q := 1) rfl dX8_ownersOf_139 ?_
      refine g_bipush (pc := 142) C (v := (22 : Int32)) dX8_ownersOf_142 (by decide) ?_
      refine g_iload_n (pc := 144) C dX8_ownersOf_144 rfl 1 rfl ?_
      refine g_iadd (pc := 145) C dX8_ownersOf_145 ?_
      refine g_iload_n (pc := 146) C dX8_ownersOf_146 rfl 3 rfl ?_
      obtain ⟨σ1, eσ1, h⟩ := bs h
      refine g_iast (pc := 147) C (k := 1) (n := 116) (by rfl) eσ1 dX8_ownersOf_147 ?_
      refine g_iload_n (pc := 148) C dX8_ownersOf_148 rfl 2 rfl ?_
      exact g_iret C dX8_ownersOf_149 (pfst h) (psnd h)
    · refine g_iload (pc := 21) C dX8_ownersOf_21 4 rfl ?_
      refine g_iconst (pc := 23) C (v := (4 : Int32)) dX8_ownersOf_23 (by decide) ?_
      refine g_icmp_eq (pc := 24) C (tgt := 36) dX8_ownersOf_24 (by decide) h (fun hc24 h => ?_) (fun hc24 h => ?_)
      · exact g_sub [0, 1, 2, 3, 4] rfl (kX8_ownersOf_b36 C  ih  h)
      · refine g_aload_n (pc := 27) C dX8_ownersOf_27 rfl 0 rfl ?_
        refine g_iload (pc := 28) C dX8_ownersOf_28 4 rfl ?_
        obtain ⟨t2, et2, h⟩ := bs h
        refine g_callVi (pc := 30) C (As := [.int v4]) (rest := []) (k := 0) (by rfl) (by rfl) (cwV 1 C.2.2.2.2.2.1 gX8_ownersOf_X8_isLord rfl rfl rfl (by decide +kernel) ⟨Nat.le_of_ble_eq_true rfl, Nat.le_of_ble_eq_true rfl⟩) (mX8_isLord l Z  et2) rfl rfl (Nat.le_of_ble_eq_true rfl) dX8_ownersOf_30 ?_
        refine g_if_eq (pc := 33) C (tgt := 132) dX8_ownersOf_33 (by decide) h (fun hc33 h => ?_) (fun hc33 h => ?_)
        · refine g_iinc (pc := 132) C (j := 4) (v := (v4 + 1)) (lv2 := [(4, .int (v4 + 1)), (0, .ref (ad Z 0)), (1, .int v1), (2, .int v2), (3, .int v3)]) dX8_ownersOf_132 rfl rfl (by decide) rfl ?_
          refine g_goto (pc := 135) C (tgt := 15) dX8_ownersOf_135 (by decide) ?_
          exact g_sub [1, 2, 3, 4, 0] rfl (ih _ _ _ _ h)
        · exact g_sub [0, 1, 2, 3, 4] rfl (kX8_ownersOf_b36 C  ih  h)
set_option maxHeartbeats 1000000 in
set_option maxRecDepth 20000 in
theorem kX8_ownersOf_e {p : Program} {l : Launch} {e : Env} {s : State} {m : MethodId} {args : Array Value} {below : List Frame} {meth : Method} {c : Code} {Z : Sh} (C : Cx p s m args meth c cX8_ownersOf 6 wsX8_ownersOf RX8 (some .int) Z layM) {σ : Sg} {v1 : Int32} {u : Sg × Int32}  (h : fX8_ownersOf σ v1 = some u) : G p l e rX8_ownersOf s m args below meth c 6 Z layM (MQ below (QI Z layM u.1 u.2 s.heap.size) args s 0 0 (pA Z layM s.heap.size)) σ 0 [(0, .ref (ad Z 0)), (1, .int v1)] [] := by
  unfold fX8_ownersOf at h
  refine g_iconst (pc := 0) C (v := (0 : Int32)) dX8_ownersOf_0 (by decide) ?_
  refine g_istore_n (pc := 1) C (lv2 := [(2, .int (0 : Int32)), (0, .ref (ad Z 0)), (1, .int v1)]) dX8_ownersOf_1 rfl (by decide) rfl ?_
  refine g_aload_n (pc := 2) C dX8_ownersOf_2 rfl 1 rfl ?_
  refine g_getr (pc := 3) C (Cn := RX8) (T := TX8) (N := 32) (ci := 8) (k := 0) (j := 0) uX8_ownersOf_X8 (by rfl) rfl (by decide) (by decide +kernel) (q := 1) rfl dX8_ownersOf_3 ?_
  refine g_bipush (pc := 6) C (v := (22 : Int32)) dX8_ownersOf_6 (by decide) ?_
  refine g_iload_n (pc := 8) C dX8_ownersOf_8 rfl 2 rfl ?_
  refine g_iadd (pc := 9) C dX8_ownersOf_9 ?_
  obtain ⟨t1, et1, h⟩ := bs h
  refine g_iald (pc := 10) C (k := 1) (n := 116) (by rfl) et1 dX8_ownersOf_10 ?_
  refine g_istore_n (pc := 11) C (lv2 := [(3, .int t1), (2, .int (0 : Int32)), (0, .ref (ad Z 0)), (1, .int v1)]) dX8_ownersOf_11 rfl (by decide) rfl ?_
  refine g_iconst (pc := 12) C (v := (0 : Int32)) dX8_ownersOf_12 (by decide) ?_
  refine g_istore (pc := 13) C (lv2 := [(4, .int (0 : Int32)), (3, .int t1), (2, .int (0 : Int32)), (0, .ref (ad Z 0)), (1, .int v1)]) dX8_ownersOf_13 (by decide) rfl ?_
  exact g_sub [3, 4, 2, 1, 0] rfl (kX8_ownersOf_l15 C   _ _ _ _ _ h)
theorem mX8_ownersOf (l : Launch) (Z : Sh) {σ : Sg} {v1 : Int32} {u : Sg × Int32}  (h : fX8_ownersOf σ v1 = some u) : MI l Z layM yX8_ownersOf wsX8_ownersOf rX8_ownersOf [.ref (ad Z 0), .int v1] σ u.1 u.2 :=
  MI.of (cc := cX8_ownersOf) (maxL := 6) (ret := (some .int)) (by decide) rfl (Nat.le_of_ble_eq_true rfl) (fun p e s m below meth c C => kX8_ownersOf_e C  h)

def rX8_owners : Room := { frames := 5, cells := 0, slots := 0, locals := 112 }
def fX8_owners (σ : Sg) (v1 : Int32) : Option (Sg × Int32) := (fX8_isBorough σ v1).bind fun t1 => if t1 = 0 then some (σ, (-1 : Int32)) else (fX8_ownersOf σ v1).bind fun u2 => some (u2.1, u2.2)
set_option maxHeartbeats 1000000 in
set_option maxRecDepth 20000 in
theorem kX8_owners_e {p : Program} {l : Launch} {e : Env} {s : State} {m : MethodId} {args : Array Value} {below : List Frame} {meth : Method} {c : Code} {Z : Sh} (C : Cx p s m args meth c cX8_owners 2 wsX8_owners RX8 (some .int) Z layM) {σ : Sg} {v1 : Int32} {u : Sg × Int32}  (h : fX8_owners σ v1 = some u) : G p l e rX8_owners s m args below meth c 2 Z layM (MQ below (QI Z layM u.1 u.2 s.heap.size) args s 0 0 (pA Z layM s.heap.size)) σ 0 [(0, .ref (ad Z 0)), (1, .int v1)] [] := by
  unfold fX8_owners at h
  refine g_aload_n (pc := 0) C dX8_owners_0 rfl 0 rfl ?_
  refine g_iload_n (pc := 1) C dX8_owners_1 rfl 1 rfl ?_
  obtain ⟨t1, et1, h⟩ := bs h
  refine g_callVi (pc := 2) C (As := [.int v1]) (rest := []) (k := 0) (by rfl) (by rfl) (cwV 1 C.2.2.2.2.2.1 gX8_owners_X8_isBorough rfl rfl rfl (by decide +kernel) ⟨Nat.le_of_ble_eq_true rfl, Nat.le_of_ble_eq_true rfl⟩) (mX8_isBorough l Z  et1) rfl rfl (Nat.le_of_ble_eq_true rfl) dX8_owners_2 ?_
  refine g_if_eq (pc := 5) C (tgt := 16) dX8_owners_5 (by decide) h (fun hc5 h => ?_) (fun hc5 h => ?_)
  · refine g_iconst (pc := 16) C (v := (-1 : Int32)) dX8_owners_16 (by decide) ?_
    exact g_iret C dX8_owners_17 (pfst h) (psnd h)
  · refine g_aload_n (pc := 8) C dX8_owners_8 rfl 0 rfl ?_
    refine g_iload_n (pc := 9) C dX8_owners_9 rfl 1 rfl ?_
    obtain ⟨u2, eu2, h⟩ := bs h
    refine g_callVi (pc := 10) C (As := [.int v1]) (rest := []) (k := 0) (by rfl) (by rfl) (cwV 1 C.2.2.2.2.2.1 gX8_owners_X8_ownersOf rfl rfl rfl (by decide +kernel) ⟨Nat.le_of_ble_eq_true rfl, Nat.le_of_ble_eq_true rfl⟩) (mX8_ownersOf l Z  eu2) rfl rfl (Nat.le_of_ble_eq_true rfl) dX8_owners_10 ?_
    refine g_goto (pc := 13) C (tgt := 17) dX8_owners_13 (by decide) ?_
    exact g_iret C dX8_owners_17 (pfst h) (psnd h)
theorem mX8_owners (l : Launch) (Z : Sh) {σ : Sg} {v1 : Int32} {u : Sg × Int32}  (h : fX8_owners σ v1 = some u) : MI l Z layM yX8_owners wsX8_owners rX8_owners [.ref (ad Z 0), .int v1] σ u.1 u.2 :=
  MI.of (cc := cX8_owners) (maxL := 2) (ret := (some .int)) (by decide) rfl (Nat.le_of_ble_eq_true rfl) (fun p e s m below meth c C => kX8_owners_e C  h)
