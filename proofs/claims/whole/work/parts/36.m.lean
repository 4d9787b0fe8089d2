def rX8_seats : Room := { frames := 4, cells := 0, slots := 0, locals := 87 }
theorem uX8_seats_X8 : ∀ w ∈ wsX80, w ∈ wsX8_seats := by decide +kernel
def fX8_seats_l25 (v1 : Int32)  : Nat → Sg → Int32 → Int32 → Int32 → Option (Sg × Int32)
  | 0, _, _, _, _ => none
  | n + 1, σ, v2, v3, v4 => if (3 : Int32) < v4 then (wr σ 1 116 ((16 : Int32) + v1) v3).bind fun σ1 => some (σ1, v2) else (wr σ 1 116 ((16 : Int32) + v1) v4).bind fun σ2 => (fX8_isAsSeen σ2).bind fun t3 => if t3 = 0 then fX8_seats_l25 v1 n σ2 (v2 ||| (0 : Int32)) v3 (v4 + 1) else fX8_seats_l25 v1 n σ2 (v2 ||| ((1 : Int32) <<< (v4 &&& 31))) v3 (v4 + 1)
def fX8_seats (σ : Sg) (v1 : Int32) : Option (Sg × Int32) := (fX8_isBorough σ v1).bind fun t1 => if t1 = 0 then some (σ, (-1 : Int32)) else (rd (σ 1) 116 ((16 : Int32) + v1)).bind fun t2 => fX8_seats_l25 v1 2000 σ (0 : Int32) t2 (0 : Int32)
set_option maxHeartbeats 1000000 in
set_option maxRecDepth 20000 in
theorem kX8_seats_l25 {p : Program} {l : Launch} {e : Env} {s : State} {m : MethodId} {args : Array Value} {below : List Frame} {meth : Method} {c : Code} {Z : Sh} (C : Cx p s m args meth c cX8_seats 5 wsX8_seats RX8 (some .int) Z layM) {v1 : Int32} {u : Sg × Int32}   : ∀ (n : Nat) (σ : Sg) (v2 : Int32) (v3 : Int32) (v4 : Int32), fX8_seats_l25 v1 n σ v2 v3 v4 = some u → G p l e rX8_seats s m args below meth c 5 Z layM (MQ below (QI Z layM u.1 u.2 s.heap.size) args s 0 0 (pA Z layM s.heap.size)) σ 25 [(0, .ref (ad Z 0)), (1, .int v1), (2, .int v2), (3, .int v3), (4, .int v4)] [] := by
  intro n
  induction n with
  | zero => intro σ v2 v3 v4 h; exact absurd h (by simp [fX8_seats_l25])
  | succ n ih =>
    intro σ v2 v3 v4 h
    rw [fX8_seats_l25] at h
    refine g_iload (pc := 25) C dX8_seats_25 4 rfl ?_
    refine g_iconst (pc := 27) C (v := (3 : Int32)) dX8_seats_27 (by decide) ?_
    refine g_icmp_gt (pc := 28) C (tgt := 66) dX8_seats_28 (by decide) h (fun hc28 h => ?_) (fun hc28 h => ?_)
    · refine g_aload_n (pc := 66) C dX8_seats_66 rfl 0 rfl ?_
      refine g_getr (pc := 67) C (Cn := RX8) (T := TX8) (N := 32) (ci := 8) (k := 0) (j := 0) uX8_seats_X8 (by rfl) rfl (by decide) (by decide +kernel) (q := 1) rfl dX8_seats_67 ?_
      refine g_bipush (pc := 70) C (v := (16 : Int32)) dX8_seats_70 (by decide) ?_
      refine g_iload_n (pc := 72) C dX8_seats_72 rfl 1 rfl ?_
      refine g_iadd (pc := 73) C dX8_seats_73 ?_
      refine g_iload_n (pc := 74) C dX8_seats_74 rfl 3 rfl ?_
      obtain ⟨σ1, eσ1, h⟩ := bs h
      refine g_iast (pc := 75) C (k := 1) (n := 116) (by rfl) eσ1 dX8_seats_75 ?_
      refine g_iload_n (pc := 76) C dX8_seats_76 rfl 2 rfl ?_
      exact g_iret C dX8_seats_77 (pfst h) (psnd h)
    · refine g_aload_n (pc := 31) C dX8_seats_31 rfl 0 rfl ?_
      refine g_getr (pc := 32) C (Cn := RX8) (T := TX8) (N := 32) (ci := 8) (k := 0) (j := 0) uX8_seats_X8 (by rfl) rfl (by decide) (by decide +kernel) (q := 1) rfl dX8_seats_32 ?_
      refine g_bipush (pc := 35) C (v := (16 : Int32)) dX8_seats_35 (by decide) ?_
      refine g_iload_n (pc := 37) C dX8_seats_37 rfl 1 rfl ?_
      refine g_iadd (pc := 38) C dX8_seats_38 ?_
      refine g_iload (pc := 39) C dX8_seats_39 4 rfl ?_
      obtain ⟨σ2, eσ2, h⟩ := bs h
      refine g_iast (pc := 41) C (k := 1) (n := 116) (by rfl) eσ2 dX8_seats_41 ?_
      refine g_iload_n (pc := 42) C dX8_seats_42 rfl 2 rfl ?_
      refine g_aload_n (pc := 43) C dX8_seats_43 rfl 0 rfl ?_
      obtain ⟨t3, et3, h⟩ := bs h
      refine g_callVi (pc := 44) C (As := []) (rest := [.int v2]) (k := 0) (by rfl) (by rfl) (cwV 0 C.2.2.2.2.2.1 gX8_seats_X8_isAsSeen rfl rfl rfl (by decide +kernel) ⟨Nat.le_of_ble_eq_true rfl, Nat.le_of_ble_eq_true rfl⟩) (mX8_isAsSeen l Z  et3) rfl rfl (Nat.le_of_ble_eq_true rfl) dX8_seats_44 ?_
      refine g_if_eq (pc := 47) C (tgt := 57) dX8_seats_47 (by decide) h (fun hc47 h => ?_) (fun hc47 h => ?_)
      · refine g_iconst (pc := 57) C (v := (0 : Int32)) dX8_seats_57 (by decide) ?_
        refine g_ior (pc := 58) C dX8_seats_58 ?_
        refine g_istore_n (pc := 59) C (lv2 := [(2, .int (v2 ||| (0 : Int32))), (0, .ref (ad Z 0)), (1, .int v1), (3, .int v3), (4, .int v4)]) dX8_seats_59 rfl (by decide) rfl ?_
        refine g_iinc (pc := 60) C (j := 4) (v := (v4 + 1)) (lv2 := [(4, .int (v4 + 1)), (2, .int (v2 ||| (0 : Int32))), (0, .ref (ad Z 0)), (1, .int v1), (3, .int v3)]) dX8_seats_60 rfl rfl (by decide) rfl ?_
        refine g_goto (pc := 63) C (tgt := 25) dX8_seats_63 (by decide) ?_
        exact g_sub [2, 3, 1, 4, 0] rfl (ih _ _ _ _ h)
      · refine g_iconst (pc := 50) C (v := (1 : Int32)) dX8_seats_50 (by decide) ?_
        refine g_iload (pc := 51) C dX8_seats_51 4 rfl ?_
        refine g_ishl (pc := 53) C dX8_seats_53 ?_
        refine g_goto (pc := 54) C (tgt := 58) dX8_seats_54 (by decide) ?_
        refine g_ior (pc := 58) C dX8_seats_58 ?_
        refine g_istore_n (pc := 59) C (lv2 := [(2, .int (v2 ||| ((1 : Int32) <<< (v4 &&& 31)))), (0, .ref (ad Z 0)), (1, .int v1), (3, .int v3), (4, .int v4)]) dX8_seats_59 rfl (by decide) rfl ?_
        refine g_iinc (pc := 60) C (j := 4) (v := (v4 + 1)) (lv2 := [(4, .int (v4 + 1)), (2, .int (v2 ||| ((1 : Int32) <<< (v4 &&& 31)))), (0, .ref (ad Z 0)), (1, .int v1), (3, .int v3)]) dX8_seats_60 rfl rfl (by decide) rfl ?_
        refine g_goto (pc := 63) C (tgt := 25) dX8_seats_63 (by decide) ?_
        exact g_sub [2, 3, 1, 4, 0] rfl (ih _ _ _ _ h)
set_option maxHeartbeats 1000000 in
set_option maxRecDepth 20000 in
theorem kX8_seats_e {p : Program} {l : Launch} {e : Env} {s : State} {m : MethodId} {args : Array Value} {below : List Frame} {meth : Method} {c : Code} {Z : Sh} (C : Cx p s m args meth c cX8_seats 5 wsX8_seats RX8 (some .int) Z layM) {σ : Sg} {v1 : Int32} {u : Sg × Int32}  (h : fX8_seats σ v1 = some u) : G p l e rX8_seats s m args below meth c 5 Z layM (MQ below (QI Z layM u.1 u.2 s.heap.size) args s 0 0 (pA Z layM s.heap.size)) σ 0 [(0, .ref (ad Z 0)), (1, .int v1)] [] := by
  unfold fX8_seats at h
  refine g_aload_n (pc := 0) C dX8_seats_0 rfl 0 rfl ?_
  refine g_iload_n (pc := 1) C dX8_seats_1 rfl 1 rfl ?_
  obtain ⟨t1, et1, h⟩ := bs h
  refine g_callVi (pc := 2) C (As := [.int v1]) (rest := []) (k := 0) (by rfl) (by rfl) (cwV 1 C.2.2.2.2.2.1 gX8_seats_X8_isBorough rfl rfl rfl (by decide +kernel) ⟨Nat.le_of_ble_eq_true rfl, Nat.le_of_ble_eq_true rfl⟩) (mX8_isBorough l Z  et1) rfl rfl (Nat.le_of_ble_eq_true rfl) dX8_seats_2 ?_
  refine g_if_ne (pc := 5) C (tgt := 10) dX8_seats_5 (by decide) h (fun hc5 h => ?_) (fun hc5 h => ?_)
  · refine g_iconst (pc := 10) C (v := (0 : Int32)) dX8_seats_10 (by decide) ?_
    refine g_istore_n (pc := 11) C (lv2 := [(2, .int (0 : Int32)), (0, .ref (ad Z 0)), (1, .int v1)]) dX8_seats_11 rfl (by decide) rfl ?_
    refine g_aload_n (pc := 12) C dX8_seats_12 rfl 1 rfl ?_
    refine g_getr (pc := 13) C (Cn := RX8) (T := TX8) (N := 32) (ci := 8) (k := 0) (j := 0) uX8_seats_X8 (by rfl) rfl (by decide) (by decide +kernel) (q := 1) rfl dX8_seats_13 ?_
    refine g_bipush (pc := 16) C (v := (16 : Int32)) dX8_seats_16 (by decide) ?_
    refine g_iload_n (pc := 18) C dX8_seats_18 rfl 2 rfl ?_
    refine g_iadd (pc := 19) C dX8_seats_19 ?_
    obtain ⟨t2, et2, h⟩ := bs h
    refine g_iald (pc := 20) C (k := 1) (n := 116) (by rfl) et2 dX8_seats_20 ?_
    refine g_istore_n (pc := 21) C (lv2 := [(3, .int t2), (2, .int (0 : Int32)), (0, .ref (ad Z 0)), (1, .int v1)]) dX8_seats_21 rfl (by decide) rfl ?_
    refine g_iconst (pc := 22) C (v := (0 : Int32)) dX8_seats_22 (by decide) ?_
    refine g_istore (pc := 23) C (lv2 := [(4, .int (0 : Int32)), (3, .int t2), (2, .int (0 : Int32)), (0, .ref (ad Z 0)), (1, .int v1)]) dX8_seats_23 (by decide) rfl ?_
    exact g_sub [3, 4, 2, 1, 0] rfl (kX8_seats_l25 C   _ _ _ _ _ h)
  · refine g_iconst (pc := 8) C (v := (-1 : Int32)) dX8_seats_8 (by decide) ?_
    exact g_iret C dX8_seats_9 (pfst h) (psnd h)
theorem mX8_seats (l : Launch) (Z : Sh) {σ : Sg} {v1 : Int32} {u : Sg × Int32}  (h : fX8_seats σ v1 = some u) : MI l Z layM yX8_seats wsX8_seats rX8_seats [.ref (ad Z 0), .int v1] σ u.1 u.2 :=
  MI.of (cc := cX8_seats) (maxL := 5) (ret := (some .int)) (by decide) rfl (Nat.le_of_ble_eq_true rfl) (fun p e s m below meth c C => kX8_seats_e C  h)

def rX8_ask : Room := { frames := 5, cells := 0, slots := 0, locals := 112 }
theorem uX8_ask_X8 : ∀ w ∈ wsX80, w ∈ wsX8_ask := by decide +kernel
def fX8_ask_b139 (v1 : Int32) (v2 : Int32) (k43 : Sg → Int32 → Int32 → Int32 → Int32 → Int32 → Option (Sg × Int32)) (σ : Sg) (v3 : Int32) (v4 : Int32) (v5 : Int32) (v7 : Int32) (v9 : Int32) (s0 : Int32) : Option (Sg × Int32) := if v4 ≤ v9 then k43 σ v3 v4 v5 s0 (v7 + 1) else k43 σ v3 v9 v5 s0 (v7 + 1)
def fX8_ask_b123 (v1 : Int32) (v2 : Int32) (k43 : Sg → Int32 → Int32 → Int32 → Int32 → Int32 → Option (Sg × Int32)) (σ : Sg) (v3 : Int32) (v4 : Int32) (v5 : Int32) (v6 : Int32) (v7 : Int32) (s0 : Int32) : Option (Sg × Int32) := if v4 ≤ s0 then fX8_ask_b139 v1 v2 k43 σ v3 v4 v5 v7 s0 v6 else fX8_ask_b139 v1 v2 k43 σ v3 v4 v5 v7 s0 v7
def fX8_ask_l60 (v1 : Int32) (v2 : Int32) (k43 : Sg → Int32 → Int32 → Int32 → Int32 → Int32 → Option (Sg × Int32)) : Nat → Sg → Int32 → Int32 → Int32 → Int32 → Int32 → Int32 → Int32 → Option (Sg × Int32)
  | 0, _, _, _, _, _, _, _, _ => none
  | n + 1, σ, v3, v4, v5, v6, v7, v8, v9 => if (4 : Int32) < v9 then if v8 ≤ (v5 - v8) then fX8_ask_b123 v1 v2 k43 σ v3 v4 v5 v6 v7 (v5 - v8) else fX8_ask_b123 v1 v2 k43 σ v3 v4 v5 v6 v7 v8 else if ((v3 >>> (v9 &&& 31)) &&& (1 : Int32)) = (1 : Int32) then (rd (σ 9) 5 v9).bind fun t1 => fX8_ask_l60 v1 v2 k43 n σ v3 v4 v5 v6 v7 (v8 + ((t1 >>> (v7 &&& 31)) &&& (1 : Int32))) (v9 + 1) else fX8_ask_l60 v1 v2 k43 n σ v3 v4 v5 v6 v7 (v8 + (0 : Int32)) (v9 + 1)
def fX8_ask_l43 (v1 : Int32) (v2 : Int32)  : Nat → Sg → Int32 → Int32 → Int32 → Int32 → Int32 → Option (Sg × Int32)
  | 0, _, _, _, _, _, _ => none
  | n + 1, σ, v3, v4, v5, v6, v7 => if ((1 : Int32) <<< ((σ 0 1) &&& 31)) ≤ v7 then if v6 = (-4 : Int32) then some (σ, v6) else if v2 = 0 then some (σ, v6) else some (σ, v4) else fX8_ask_l60 v1 v2 (fun σ v3 v4 v5 v6 v7 => fX8_ask_l43 v1 v2 n σ v3 v4 v5 v6 v7) 2000 σ v3 v4 v5 v6 v7 (0 : Int32) (0 : Int32)
def fX8_ask (σ : Sg) (v1 : Int32) (v2 : Int32) : Option (Sg × Int32) := (fX8_isBorough σ v1).bind fun t1 => if t1 = 0 then some (σ, (-1 : Int32)) else (fX8_in v2.toInt64 (0 : Int64) (1 : Int64)).bind fun t2 => if t2 = 0 then some (σ, (-1 : Int32)) else (fX8_ownersOf σ v1).bind fun u3 => (fX8_bitsOf u3.2).bind fun t4 => fX8_ask_l43 v1 v2 2000 u3.1 u3.2 t4 t4 (-4 : Int32) (1 : Int32)
set_option maxHeartbeats 1000000 in
set_option maxRecDepth 20000 in
theorem kX8_ask_b139 {p : Program} {l : Launch} {e : Env} {s : State} {m : MethodId} {args : Array Value} {below : List Frame} {meth : Method} {c : Code} {Z : Sh} (C : Cx p s m args meth c cX8_ask 10 wsX8_ask RX8 (some .int) Z layM) {v1 : Int32} {v2 : Int32} {u : Sg × Int32}  {k43 : Sg → Int32 → Int32 → Int32 → Int32 → Int32 → Option (Sg × Int32)} (hk43 : ∀ (σ : Sg) (v3 : Int32) (v4 : Int32) (v5 : Int32) (v6 : Int32) (v7 : Int32), k43 σ v3 v4 v5 v6 v7 = some u → G p l e rX8_ask s m args below meth c 10 Z layM (MQ below (QI Z layM u.1 u.2 s.heap.size) args s 0 0 (pA Z layM s.heap.size)) σ 43 [(0, .ref (ad Z 0)), (2, .int v2), (3, .int v3), (4, .int v4), (5, .int v5), (6, .int v6), (7, .int v7)] []) {σ : Sg} {v3 : Int32} {v4 : Int32} {v5 : Int32} {v7 : Int32} {v9 : Int32} {s0 : Int32} (h : fX8_ask_b139 v1 v2 k43 σ v3 v4 v5 v7 v9 s0 = some u) : G p l e rX8_ask s m args below meth c 10 Z layM (MQ below (QI Z layM u.1 u.2 s.heap.size) args s 0 0 (pA Z layM s.heap.size)) σ 139 [(0, .ref (ad Z 0)), (2, .int v2), (3, .int v3), (4, .int v4), (5, .int v5), (7, .int v7), (9, .int v9)] [.int s0] := by
  unfold fX8_ask_b139 at h
  refine g_istore (pc := 139) C (lv2 := [(6, .int s0), (0, .ref (ad Z 0)), (2, .int v2), (3, .int v3), (4, .int v4), (5, .int v5), (7, .int v7), (9, .int v9)]) dX8_ask_139 (by decide) rfl ?_
  refine g_iload (pc := 141) C dX8_ask_141 7 rfl ?_
  refine g_iload (pc := 143) C dX8_ask_143 4 rfl ?_
  refine g_icmp_ge (pc := 145) C (tgt := 153) dX8_ask_145 (by decide) h (fun hc145 h => ?_) (fun hc145 h => ?_)
  · refine g_iload (pc := 153) C dX8_ask_153 4 rfl ?_
    refine g_istore (pc := 155) C (lv2 := [(4, .int v4), (6, .int s0), (0, .ref (ad Z 0)), (2, .int v2), (3, .int v3), (5, .int v5), (7, .int v7), (9, .int v9)]) dX8_ask_155 (by decide) rfl ?_
    refine g_iinc (pc := 157) C (j := 6) (v := (v7 + 1)) (lv2 := [(7, .int (v7 + 1)), (4, .int v4), (6, .int s0), (0, .ref (ad Z 0)), (2, .int v2), (3, .int v3), (5, .int v5), (9, .int v9)]) dX8_ask_157 rfl rfl (by decide) rfl ?_
    refine g_goto (pc := 160) C (tgt := 43) dX8_ask_160 (by decide) ?_
    exact g_sub [3, 4, 5, 1, 6, 2, 0] rfl (hk43 _ _ _ _ _ _ h)
  · refine g_iload (pc := 148) C dX8_ask_148 7 rfl ?_
    refine g_goto (pc := 150) C (tgt := 155) dX8_ask_150 (by decide) ?_
    refine g_istore (pc := 155) C (lv2 := [(4, .int v9), (6, .int s0), (0, .ref (ad Z 0)), (2, .int v2), (3, .int v3), (5, .int v5), (7, .int v7), (9, .int v9)]) dX8_ask_155 (by decide) rfl ?_
    refine g_iinc (pc := 157) C (j := 6) (v := (v7 + 1)) (lv2 := [(7, .int (v7 + 1)), (4, .int v9), (6, .int s0), (0, .ref (ad Z 0)), (2, .int v2), (3, .int v3), (5, .int v5), (9, .int v9)]) dX8_ask_157 rfl rfl (by decide) rfl ?_
    refine g_goto (pc := 160) C (tgt := 43) dX8_ask_160 (by decide) ?_
    exact g_sub [3, 4, 5, 1, 6, 2, 0] rfl (hk43 _ _ _ _ _ _ h)
set_option maxHeartbeats 1000000 in
set_option maxRecDepth 20000 in
theorem kX8_ask_b123 {p : Program} {l : Launch} {e : Env} {s : State} {m : MethodId} {args : Array Value} {below : List Frame} {meth : Method} {c : Code} {Z : Sh} (C : Cx p s m args meth c cX8_ask 10 wsX8_ask RX8 (some .int) Z layM) {v1 : Int32} {v2 : Int32} {u : Sg × Int32}  {k43 : Sg → Int32 → Int32 → Int32 → Int32 → Int32 → Option (Sg × Int32)} (hk43 : ∀ (σ : Sg) (v3 : Int32) (v4 : Int32) (v5 : Int32) (v6 : Int32) (v7 : Int32), k43 σ v3 v4 v5 v6 v7 = some u → G p l e rX8_ask s m args below meth c 10 Z layM (MQ below (QI Z layM u.1 u.2 s.heap.size) args s 0 0 (pA Z layM s.heap.size)) σ 43 [(0, .ref (ad Z 0)), (2, .int v2), (3, .int v3), (4, .int v4), (5, .int v5), (6, .int v6), (7, .int v7)] []) {σ : Sg} {v3 : Int32} {v4 : Int32} {v5 : Int32} {v6 : Int32} {v7 : Int32} {s0 : Int32} (h : fX8_ask_b123 v1 v2 k43 σ v3 v4 v5 v6 v7 s0 = some u) : G p l e rX8_ask s m args below meth c 10 Z layM (MQ below (QI Z layM u.1 u.2 s.heap.size) args s 0 0 (pA Z layM s.heap.size)) σ 123 [(0, .ref (ad Z 0)), (2, .int v2), (3, .int v3), (4, .int v4), (5, .int v5), (6, .int v6), (7, .int v7)] [.int s0] := by
  unfold fX8_ask_b123 at h
  refine g_istore (pc := 123) C (lv2 := [(9, .int s0), (0, .ref (ad Z 0)), (2, .int v2), (3, .int v3), (4, .int v4), (5, .int v5), (6, .int v6), (7, .int v7)]) dX8_ask_123 (by decide) rfl ?_
  refine g_iload (pc := 125) C dX8_ask_125 0 rfl ?_
  refine g_iload (pc := 127) C dX8_ask_127 4 rfl ?_
  refine g_icmp_ge (pc := 129) C (tgt := 137) dX8_ask_129 (by decide) h (fun hc129 h => ?_) (fun hc129 h => ?_)
  · refine g_iload (pc := 137) C dX8_ask_137 6 rfl ?_
    exact g_sub [1, 2, 3, 4, 5, 7, 0] rfl (kX8_ask_b139 C  hk43  h)
  · refine g_iload (pc := 132) C dX8_ask_132 7 rfl ?_
    refine g_goto (pc := 134) C (tgt := 139) dX8_ask_134 (by decide) ?_
    exact g_sub [1, 2, 3, 4, 5, 7, 0] rfl (kX8_ask_b139 C  hk43  h)
set_option maxHeartbeats 1000000 in
set_option maxRecDepth 20000 in
theorem kX8_ask_l60 {p : Program} {l : Launch} {e : Env} {s : State} {m : MethodId} {args : Array Value} {below : List Frame} {meth : Method} {c : Code} {Z : Sh} (C : Cx p s m args meth c cX8_ask 10 wsX8_ask RX8 (some .int) Z layM) {v1 : Int32} {v2 : Int32} {u : Sg × Int32}  {k43 : Sg → Int32 → Int32 → Int32 → Int32 → Int32 → Option (Sg × Int32)} (hk43 : ∀ (σ : Sg) (v3 : Int32) (v4 : Int32) (v5 : Int32) (v6 : Int32) (v7 : Int32), k43 σ v3 v4 v5 v6 v7 = some u → G p l e rX8_ask s m args below meth c 10 Z layM (MQ below (QI Z layM u.1 u.2 s.heap.size) args s 0 0 (pA Z layM s.heap.size)) σ 43 [(0, .ref (ad Z 0)), (2, .int v2), (3, .int v3), (4, .int v4), (5, .int v5), (6, .int v6), (7, .int v7)] []) : ∀ (n : Nat) (σ : Sg) (v3 : Int32) (v4 : Int32) (v5 : Int32) (v6 : Int32) (v7 : Int32) (v8 : Int32) (v9 : Int32), fX8_ask_l60 v1 v2 k43 n σ v3 v4 v5 v6 v7 v8 v9 = some u → G p l e rX8_ask s m args below meth c 10 Z layM (MQ below (QI Z layM u.1 u.2 s.heap.size) args s 0 0 (pA Z layM s.heap.size)) σ 60 [(0, .ref (ad Z 0)), (2, .int v2), (3, .int v3), (4, .int v4), (5, .int v5), (6, .int v6), (7, .int v7), (8, .int v8), (9, .int v9)] [] := by
  intro n
  induction n with
  | zero => intro σ v3 v4 v5 v6 v7 v8 v9 h; exact absurd h (by simp [fX8_ask_l60])
  | succ n ih =>
    intro σ v3 v4 v5 v6 v7 v8 v9 h
    rw [fX8_ask_l60] at h
    refine g_iload (pc := 60) C dX8_ask_60 8 rfl ?_
    refine g_iconst (pc := 62) C (v := (4 : Int32)) dX8_ask_62 (by decide) ?_
    refine g_icmp_gt (pc := 63) C (tgt := 103) dX8_ask_63 (by decide) h (fun hc63 h => ?_) (fun hc63 h => ?_)
    · refine g_iload (pc := 103) C dX8_ask_103 7 rfl ?_
      refine g_iload (pc := 105) C dX8_ask_105 4 rfl ?_
      refine g_iload (pc := 107) C dX8_ask_107 7 rfl ?_
      refine g_isub (pc := 109) C dX8_ask_109 ?_
      refine g_icmp_le (pc := 110) C (tgt := 118) dX8_ask_110 (by decide) h (fun hc110 h => ?_) (fun hc110 h => ?_)
      · refine g_iload (pc := 118) C dX8_ask_118 4 rfl ?_
        refine g_iload (pc := 120) C dX8_ask_120 7 rfl ?_
        refine g_isub (pc := 122) C dX8_ask_122 ?_
        exact g_sub [0, 1, 2, 3, 4, 5, 6] rfl (kX8_ask_b123 C  hk43  h)
      · refine g_iload (pc := 113) C dX8_ask_113 7 rfl ?_
        refine g_goto (pc := 115) C (tgt := 123) dX8_ask_115 (by decide) ?_
        exact g_sub [0, 1, 2, 3, 4, 5, 6] rfl (kX8_ask_b123 C  hk43  h)
    · refine g_iload (pc := 66) C dX8_ask_66 7 rfl ?_
      refine g_iload_n (pc := 68) C dX8_ask_68 rfl 2 rfl ?_
      refine g_iload (pc := 69) C dX8_ask_69 8 rfl ?_
      refine g_ishr (pc := 71) C dX8_ask_71 ?_
      refine g_iconst (pc := 72) C (v := (1 : Int32)) dX8_ask_72 (by decide) ?_
      refine g_iand (pc := 73) C dX8_ask_73 ?_
      refine g_iconst (pc := 74) C (v := (1 : Int32)) dX8_ask_74 (by decide) ?_
      refine g_icmp_ne (pc := 75) C (tgt := 93) dX8_ask_75 (by decide) h (fun hc75 h => ?_) (fun hc75 h => ?_)
      · refine g_iconst (pc := 93) C (v := (0 : Int32)) dX8_ask_93 (by decide) ?_
        refine g_iadd (pc := 94) C dX8_ask_94 ?_
        refine g_istore (pc := 95) C (lv2 := [(8, .int (v8 + (0 : Int32))), (0, .ref (ad Z 0)), (2, .int v2), (3, .int v3), (4, .int v4), (5, .int v5), (6, .int v6), (7, .int v7), (9, .int v9)]) dX8_ask_95 (by decide) rfl ?_
        refine g_iinc (pc := 97) C (j := 8) (v := (v9 + 1)) (lv2 := [(9, .int (v9 + 1)), (8, .int (v8 + (0 : Int32))), (0, .ref (ad Z 0)), (2, .int v2), (3, .int v3), (4, .int v4), (5, .int v5), (6, .int v6), (7, .int v7)]) dX8_ask_97 rfl rfl (by decide) rfl ?_
        refine g_goto (pc := 100) C (tgt := 60) dX8_ask_100 (by decide) ?_
        exact g_sub [2, 3, 4, 5, 6, 7, 8, 1, 0] rfl (ih _ _ _ _ _ _ _ _ h)
      · refine g_aload_n (pc := 78) C dX8_ask_78 rfl 0 rfl ?_
        refine g_getr (pc := 79) C (Cn := RX8) (T := TX8) (N := 32) (ci := 8) (k := 0) (j := 25) uX8_ask_X8 (by rfl) rfl (by decide) (by decide +kernel) (q := 9) rfl dX8_ask_79 ?_
        refine g_iload (pc := 82) C dX8_ask_82 8 rfl ?_
        obtain ⟨t1, et1, h⟩ := bs h
        refine g_iald (pc := 84) C (k := 9) (n := 5) (by rfl) et1 dX8_ask_84 ?_
        refine g_iload (pc := 85) C dX8_ask_85 6 rfl ?_
        refine g_ishr (pc := 87) C dX8_ask_87 ?_
        refine g_iconst (pc := 88) C (v := (1 : Int32)) dX8_ask_88 (by decide) ?_
        refine g_iand (pc := 89) C dX8_ask_89 ?_
        refine g_goto (pc := 90) C (tgt := 94) dX8_ask_90 (by decide) ?_
        refine g_iadd (pc := 94) C dX8_ask_94 ?_
        refine g_istore (pc := 95) C (lv2 := [(8, .int (v8 + ((t1 >>> (v7 &&& 31)) &&& (1 : Int32)))), (0, .ref (ad Z 0)), (2, .int v2), (3, .int v3), (4, .int v4), (5, .int v5), (6, .int v6), (7, .int v7), (9, .int v9)]) dX8_ask_95 (by decide) rfl ?_
        refine g_iinc (pc := 97) C (j := 8) (v := (v9 + 1)) (lv2 := [(9, .int (v9 + 1)), (8, .int (v8 + ((t1 >>> (v7 &&& 31)) &&& (1 : Int32)))), (0, .ref (ad Z 0)), (2, .int v2), (3, .int v3), (4, .int v4), (5, .int v5), (6, .int v6), (7, .int v7)]) dX8_ask_97 rfl rfl (by decide) rfl ?_
        refine g_goto (pc := 100) C (tgt := 60) dX8_ask_100 (by decide) ?_
        exact g_sub [2, 3, 4, 5, 6, 7, 8, 1, 0] rfl (ih _ _ _ _ _ _ _ _ h)
set_option maxHeartbeats 1000000 in
set_option maxRecDepth 20000 in
theorem kX8_ask_l43 {p : Program} {l : Launch} {e : Env} {s : State} {m : MethodId} {args : Array Value} {below : List Frame} {meth : Method} {c : Code} {Z : Sh} (C : Cx p s m args meth c cX8_ask 10 wsX8_ask RX8 (some .int) Z layM) {v1 : Int32} {v2 : Int32} {u : Sg × Int32}   : ∀ (n : Nat) (σ : Sg) (v3 : Int32) (v4 : Int32) (v5 : Int32) (v6 : Int32) (v7 : Int32), fX8_ask_l43 v1 v2 n σ v3 v4 v5 v6 v7 = some u → G p l e rX8_ask s m args below meth c 10 Z layM (MQ below (QI Z layM u.1 u.2 s.heap.size) args s 0 0 (pA Z layM s.heap.size)) σ 43 [(0, .ref (ad Z 0)), (2, .int v2), (3, .int v3), (4, .int v4), (5, .int v5), (6, .int v6), (7, .int v7)] [] := by
  intro n
  induction n with
  | zero => intro σ v3 v4 v5 v6 v7 h; exact absurd h (by simp [fX8_ask_l43])
  | succ n ih =>
    intro σ v3 v4 v5 v6 v7 h
    rw [fX8_ask_l43] at h
    refine g_iload (pc := 43) C dX8_ask_43 6 rfl ?_
    refine g_iconst (pc := 45) C (v := (1 : Int32)) dX8_ask_45 (by decide) ?_
    refine g_aload_n (pc := 46) C dX8_ask_46 rfl 0 rfl ?_
    refine g_geti (pc := 47) C (Cn := RX8) (T := TX8) (N := 32) (ci := 8) (k := 0) (j := 1) uX8_ask_X8 (by rfl) rfl (by decide) (by decide +kernel) (q := 0) rfl dX8_ask_47 ?_
    refine g_ishl (pc := 50) C dX8_ask_50 ?_
    refine g_icmp_ge (pc := 51) C (tgt := 163) dX8_ask_51 (by decide) h (fun hc51 h => ?_) (fun hc51 h => ?_)
    · refine g_iload (pc := 163) C dX8_ask_163 5 rfl ?_
      refine g_bipush (pc := 165) C (v := (-4 : Int32)) dX8_ask_165 (by decide) ?_
      refine g_icmp_eq (pc := 167) C (tgt := 174) dX8_ask_167 (by decide) h (fun hc167 h => ?_) (fun hc167 h => ?_)
      · refine g_iload (pc := 174) C dX8_ask_174 5 rfl ?_
        refine g_goto (pc := 176) C (tgt := 181) dX8_ask_176 (by decide) ?_
        exact g_iret C dX8_ask_181 (pfst h) (psnd h)
      · refine g_iload_n (pc := 170) C dX8_ask_170 rfl 1 rfl ?_
        refine g_if_ne (pc := 171) C (tgt := 179) dX8_ask_171 (by decide) h (fun hc171 h => ?_) (fun hc171 h => ?_)
        · refine g_iload (pc := 179) C dX8_ask_179 3 rfl ?_
          exact g_iret C dX8_ask_181 (pfst h) (psnd h)
        · refine g_iload (pc := 174) C dX8_ask_174 5 rfl ?_
          refine g_goto (pc := 176) C (tgt := 181) dX8_ask_176 (by decide) ?_
          exact g_iret C dX8_ask_181 (pfst h) (psnd h)
    · refine g_iconst (pc := 54) C (v := (0 : Int32)) dX8_ask_54 (by decide) ?_
      refine g_istore (pc := 55) C (lv2 := [(8, .int (0 : Int32)), (0, .ref (ad Z 0)), (2, .int v2), (3, .int v3), (4, .int v4), (5, .int v5), (6, .int v6), (7, .int v7)]) dX8_ask_55 (by decide) rfl ?_
      refine g_iconst (pc := 57) C (v := (0 : Int32)) dX8_ask_57 (by decide) ?_
      refine g_istore (pc := 58) C (lv2 := [(9, .int (0 : Int32)), (8, .int (0 : Int32)), (0, .ref (ad Z 0)), (2, .int v2), (3, .int v3), (4, .int v4), (5, .int v5), (6, .int v6), (7, .int v7)]) dX8_ask_58 (by decide) rfl ?_
      exact g_sub [2, 3, 4, 5, 6, 7, 8, 1, 0] rfl (kX8_ask_l60 C  ih _ _ _ _ _ _ _ _ _ h)
set_option maxHeartbeats 1000000 in
set_option maxRecDepth 20000 in
theorem kX8_ask_e {p : Program} {l : Launch} {e : Env} {s : State} {m : MethodId} {args : Array Value} {below : List Frame} {meth : Method} {c : Code} {Z : Sh} (C : Cx p s m args meth c cX8_ask 10 wsX8_ask RX8 (some .int) Z layM) {σ : Sg} {v1 : Int32} {v2 : Int32} {u : Sg × Int32}  (h : fX8_ask σ v1 v2 = some u) : G p l e rX8_ask s m args below meth c 10 Z layM (MQ below (QI Z layM u.1 u.2 s.heap.size) args s 0 0 (pA Z layM s.heap.size)) σ 0 [(0, .ref (ad Z 0)), (1, .int v1), (2, .int v2)] [] := by
  unfold fX8_ask at h
  refine g_aload_n (pc := 0) C dX8_ask_0 rfl 0 rfl ?_
  refine g_iload_n (pc := 1) C dX8_ask_1 rfl 1 rfl ?_
  obtain ⟨t1, et1, h⟩ := bs h
  refine g_callVi (pc := 2) C (As := [.int v1]) (rest := []) (k := 0) (by rfl) (by rfl) (cwV 1 C.2.2.2.2.2.1 gX8_ask_X8_isBorough rfl rfl rfl (by decide +kernel) ⟨Nat.le_of_ble_eq_true rfl, Nat.le_of_ble_eq_true rfl⟩) (mX8_isBorough l Z  et1) rfl rfl (Nat.le_of_ble_eq_true rfl) dX8_ask_2 ?_
  refine g_if_eq (pc := 5) C (tgt := 18) dX8_ask_5 (by decide) h (fun hc5 h => ?_) (fun hc5 h => ?_)
  · refine g_iconst (pc := 18) C (v := (-1 : Int32)) dX8_ask_18 (by decide) ?_
    exact g_iret C dX8_ask_19 (pfst h) (psnd h)
  · refine g_iload_n (pc := 8) C dX8_ask_8 rfl 2 rfl ?_
    refine g_i2l (pc := 9) C dX8_ask_9 ?_
    refine g_lconst (pc := 10) C (v := (0 : Int64)) dX8_ask_10 (by decide) ?_
    refine g_lconst (pc := 11) C (v := (1 : Int64)) dX8_ask_11 (by decide) ?_
    obtain ⟨t2, et2, h⟩ := bs h
    refine g_callSi (pc := 12) C (As := [.long v2.toInt64, .long (0 : Int64), .long (1 : Int64)]) (rest := []) (va_cwS 3 C.2.2.2.2.2.1 gX8_ask_X8_in rfl rfl rfl (by decide +kernel) ⟨Nat.le_of_ble_eq_true rfl, Nat.le_of_ble_eq_true rfl⟩) (mX8_in l Z  et2) rfl rfl (Nat.le_of_ble_eq_true rfl) dX8_ask_12 ?_
    refine g_if_ne (pc := 15) C (tgt := 20) dX8_ask_15 (by decide) h (fun hc15 h => ?_) (fun hc15 h => ?_)
    · refine g_aload_n (pc := 20) C dX8_ask_20 rfl 0 rfl ?_
      refine g_iload_n (pc := 21) C dX8_ask_21 rfl 1 rfl ?_
      obtain ⟨u3, eu3, h⟩ := bs h
      refine g_callVi (pc := 22) C (As := [.int v1]) (rest := []) (k := 0) (by rfl) (by rfl) (cwV 1 C.2.2.2.2.2.1 gX8_ask_X8_ownersOf rfl rfl rfl (by decide +kernel) ⟨Nat.le_of_ble_eq_true rfl, Nat.le_of_ble_eq_true rfl⟩) (mX8_ownersOf l Z  eu3) rfl rfl (Nat.le_of_ble_eq_true rfl) dX8_ask_22 ?_
      refine g_istore_n (pc := 25) C (lv2 := [(3, .int u3.2), (0, .ref (ad Z 0)), (1, .int v1), (2, .int v2)]) dX8_ask_25 rfl (by decide) rfl ?_
      refine g_iload_n (pc := 26) C dX8_ask_26 rfl 0 rfl ?_
      obtain ⟨t4, et4, h⟩ := bs h
      refine g_callSi (pc := 27) C (As := [.int u3.2]) (rest := []) (va_cwS 1 C.2.2.2.2.2.1 gX8_ask_X8_bitsOf rfl rfl rfl (by decide +kernel) ⟨Nat.le_of_ble_eq_true rfl, Nat.le_of_ble_eq_true rfl⟩) (mX8_bitsOf l Z  et4) rfl rfl (Nat.le_of_ble_eq_true rfl) dX8_ask_27 ?_
      refine g_istore (pc := 30) C (lv2 := [(4, .int t4), (3, .int u3.2), (0, .ref (ad Z 0)), (1, .int v1), (2, .int v2)]) dX8_ask_30 (by decide) rfl ?_
      refine g_iload (pc := 32) C dX8_ask_32 0 rfl ?_
      refine g_istore (pc := 34) C (lv2 := [(5, .int t4), (4, .int t4), (3, .int u3.2), (0, .ref (ad Z 0)), (1, .int v1), (2, .int v2)]) dX8_ask_34 (by decide) rfl ?_
      refine g_bipush (pc := 36) C (v := (-4 : Int32)) dX8_ask_36 (by decide) ?_
      refine g_istore (pc := 38) C (lv2 := [(6, .int (-4 : Int32)), (5, .int t4), (4, .int t4), (3, .int u3.2), (0, .ref (ad Z 0)), (1, .int v1), (2, .int v2)]) dX8_ask_38 (by decide) rfl ?_
      refine g_iconst (pc := 40) C (v := (1 : Int32)) dX8_ask_40 (by decide) ?_
      refine g_istore (pc := 41) C (lv2 := [(7, .int (1 : Int32)), (6, .int (-4 : Int32)), (5, .int t4), (4, .int t4), (3, .int u3.2), (0, .ref (ad Z 0)), (1, .int v1), (2, .int v2)]) dX8_ask_41 (by decide) rfl ?_
      exact g_sub [5, 7, 4, 3, 2, 1, 0] rfl (kX8_ask_l43 C   _ _ _ _ _ _ _ h)
    · refine g_iconst (pc := 18) C (v := (-1 : Int32)) dX8_ask_18 (by decide) ?_
      exact g_iret C dX8_ask_19 (pfst h) (psnd h)
theorem mX8_ask (l : Launch) (Z : Sh) {σ : Sg} {v1 : Int32} {v2 : Int32} {u : Sg × Int32}  (h : fX8_ask σ v1 v2 = some u) : MI l Z layM yX8_ask wsX8_ask rX8_ask [.ref (ad Z 0), .int v1, .int v2] σ u.1 u.2 :=
  MI.of (cc := cX8_ask) (maxL := 10) (ret := (some .int)) (by decide) rfl (Nat.le_of_ble_eq_true rfl) (fun p e s m below meth c C => kX8_ask_e C  h)

def rX8_draws : Room := { frames := 0, cells := 0, slots := 0, locals := 0 }
theorem uX8_draws_X8 : ∀ w ∈ wsX80, w ∈ wsX8_draws := by decide +kernel
def fX8_draws (σ : Sg) (v1 : Int32) : Option (Sg × Int32) := (pf σ 0 26 (((σ 0 26) * (1103515245 : Int32)) + (12345 : Int32))).bind fun σ1 => (rm (((σ1 0 26) >>> ((16 : Int32) &&& 31)) &&& (32767 : Int32)) v1).bind fun t2 => some (σ1, t2)
set_option maxHeartbeats 1000000 in
set_option maxRecDepth 20000 in
theorem kX8_draws_e {p : Program} {l : Launch} {e : Env} {s : State} {m : MethodId} {args : Array Value} {below : List Frame} {meth : Method} {c : Code} {Z : Sh} (C : Cx p s m args meth c cX8_draws 2 wsX8_draws RX8 (some .int) Z layM) {σ : Sg} {v1 : Int32} {u : Sg × Int32}  (h : fX8_draws σ v1 = some u) : G p l e rX8_draws s m args below meth c 2 Z layM (MQ below (QI Z layM u.1 u.2 s.heap.size) args s 0 0 (pA Z layM s.heap.size)) σ 0 [(0, .ref (ad Z 0)), (1, .int v1)] [] := by
  unfold fX8_draws at h
  refine g_aload_n (pc := 0) C dX8_draws_0 rfl 0 rfl ?_
  refine g_aload_n (pc := 1) C dX8_draws_1 rfl 0 rfl ?_
  refine g_geti (pc := 2) C (Cn := RX8) (T := TX8) (N := 32) (ci := 8) (k := 0) (j := 26) uX8_draws_X8 (by rfl) rfl (by decide) (by decide +kernel) (q := 0) rfl dX8_draws_2 ?_
  refine g_ldcw (pc := 5) C (v := (1103515245 : Int32)) (by decide +kernel) dX8_draws_5 ?_
  refine g_imul (pc := 8) C dX8_draws_8 ?_
  refine g_sipush (pc := 9) C (v := (12345 : Int32)) dX8_draws_9 (by decide) ?_
  refine g_iadd (pc := 12) C dX8_draws_12 ?_
  obtain ⟨σ1, eσ1, h⟩ := bs h
  refine g_puti (pc := 13) C (Cn := RX8) (T := TX8) (N := 32) (ci := 8) (k := 0) (j := 26) uX8_draws_X8 (by rfl) rfl (by decide) (by decide +kernel) tyX8 tyX8_ok nmX8 rfl (by decide +kernel) rfl eσ1 dX8_draws_13 ?_
  refine g_aload_n (pc := 16) C dX8_draws_16 rfl 0 rfl ?_
  refine g_geti (pc := 17) C (Cn := RX8) (T := TX8) (N := 32) (ci := 8) (k := 0) (j := 26) uX8_draws_X8 (by rfl) rfl (by decide) (by decide +kernel) (q := 0) rfl dX8_draws_17 ?_
  refine g_bipush (pc := 20) C (v := (16 : Int32)) dX8_draws_20 (by decide) ?_
  refine g_ishr (pc := 22) C dX8_draws_22 ?_
  refine g_sipush (pc := 23) C (v := (32767 : Int32)) dX8_draws_23 (by decide) ?_
  refine g_iand (pc := 26) C dX8_draws_26 ?_
  refine g_iload_n (pc := 27) C dX8_draws_27 rfl 1 rfl ?_
  obtain ⟨t2, et2, h⟩ := bs h
  refine g_irem (pc := 28) C dX8_draws_28 et2 ?_
  exact g_iret C dX8_draws_29 (pfst h) (psnd h)
theorem mX8_draws (l : Launch) (Z : Sh) {σ : Sg} {v1 : Int32} {u : Sg × Int32}  (h : fX8_draws σ v1 = some u) : MI l Z layM yX8_draws wsX8_draws rX8_draws [.ref (ad Z 0), .int v1] σ u.1 u.2 :=
  MI.of (cc := cX8_draws) (maxL := 2) (ret := (some .int)) (by decide) rfl (Nat.le_of_ble_eq_true rfl) (fun p e s m below meth c C => kX8_draws_e C  h)

def rX8_copies : Room := { frames := 0, cells := 0, slots := 0, locals := 0 }
theorem uX8_copies_X8 : ∀ w ∈ wsX80, w ∈ wsX8_copies := by decide +kernel
def fX8_copies_l2 (v1 : Int32) (v2 : Int32)  : Nat → Sg → Int32 → Option (Sg)
  | 0, _, _ => none
  | n + 1, σ, v3 => if (29 : Int32) ≤ v3 then some σ else (rd (σ 1) 116 (v1 + v3)).bind fun t1 => (wr σ 1 116 (v2 + v3) t1).bind fun σ2 => fX8_copies_l2 v1 v2 n σ2 (v3 + 1)
def fX8_copies (σ : Sg) (v1 : Int32) (v2 : Int32) : Option (Sg) := fX8_copies_l2 v1 v2 2000 σ (0 : Int32)
set_option maxHeartbeats 1000000 in
set_option maxRecDepth 20000 in
theorem kX8_copies_l2 {p : Program} {l : Launch} {e : Env} {s : State} {m : MethodId} {args : Array Value} {below : List Frame} {meth : Method} {c : Code} {Z : Sh} (C : Cx p s m args meth c cX8_copies 4 wsX8_copies RX8 none Z layM) {v1 : Int32} {v2 : Int32} {u : Sg}   : ∀ (n : Nat) (σ : Sg) (v3 : Int32), fX8_copies_l2 v1 v2 n σ v3 = some u → G p l e rX8_copies s m args below meth c 4 Z layM (MQ below (QV Z layM u s.heap.size) args s 0 0 (pA Z layM s.heap.size)) σ 2 [(0, .ref (ad Z 0)), (1, .int v1), (2, .int v2), (3, .int v3)] [] := by
  intro n
  induction n with
  | zero => intro σ v3 h; exact absurd h (by simp [fX8_copies_l2])
  | succ n ih =>
    intro σ v3 h
    rw [fX8_copies_l2] at h
    refine g_iload_n (pc := 2) C dX8_copies_2 rfl 3 rfl ?_
    refine g_bipush (pc := 3) C (v := (29 : Int32)) dX8_copies_3 (by decide) ?_
    refine g_icmp_ge (pc := 5) C (tgt := 30) dX8_copies_5 (by decide) h (fun hc5 h => ?_) (fun hc5 h => ?_)
    · exact g_vret C dX8_copies_30 (Option.some.inj h)
    · refine g_aload_n (pc := 8) C dX8_copies_8 rfl 0 rfl ?_
      refine g_getr (pc := 9) C (Cn := RX8) (T := TX8) (N := 32) (ci := 8) (k := 0) (j := 0) uX8_copies_X8 (by rfl) rfl (by decide) (by decide +kernel) (q := 1) rfl dX8_copies_9 ?_
      refine g_iload_n (pc := 12) C dX8_copies_12 rfl 2 rfl ?_
      refine g_iload_n (pc := 13) C dX8_copies_13 rfl 3 rfl ?_
      refine g_iadd (pc := 14) C dX8_copies_14 ?_
      refine g_aload_n (pc := 15) C dX8_copies_15 rfl 0 rfl ?_
      refine g_getr (pc := 16) C (Cn := RX8) (T := TX8) (N := 32) (ci := 8) (k := 0) (j := 0) uX8_copies_X8 (by rfl) rfl (by decide) (by decide +kernel) (q := 1) rfl dX8_copies_16 ?_
      refine g_iload_n (pc := 19) C dX8_copies_19 rfl 1 rfl ?_
      refine g_iload_n (pc := 20) C dX8_copies_20 rfl 3 rfl ?_
      refine g_iadd (pc := 21) C dX8_copies_21 ?_
      obtain ⟨t1, et1, h⟩ := bs h
      refine g_iald (pc := 22) C (k := 1) (n := 116) (by rfl) et1 dX8_copies_22 ?_
      obtain ⟨σ2, eσ2, h⟩ := bs h
      refine g_iast (pc := 23) C (k := 1) (n := 116) (by rfl) eσ2 dX8_copies_23 ?_
      refine g_iinc (pc := 24) C (j := 3) (v := (v3 + 1)) (lv2 := [(3, .int (v3 + 1)), (0, .ref (ad Z 0)), (1, .int v1), (2, .int v2)]) dX8_copies_24 rfl rfl (by decide) rfl ?_
      refine g_goto (pc := 27) C (tgt := 2) dX8_copies_27 (by decide) ?_
      exact g_sub [1, 2, 3, 0] rfl (ih _ _ h)
set_option maxHeartbeats 1000000 in
set_option maxRecDepth 20000 in
theorem kX8_copies_e {p : Program} {l : Launch} {e : Env} {s : State} {m : MethodId} {args : Array Value} {below : List Frame} {meth : Method} {c : Code} {Z : Sh} (C : Cx p s m args meth c cX8_copies 4 wsX8_copies RX8 none Z layM) {σ : Sg} {v1 : Int32} {v2 : Int32} {u : Sg}  (h : fX8_copies σ v1 v2 = some u) : G p l e rX8_copies s m args below meth c 4 Z layM (MQ below (QV Z layM u s.heap.size) args s 0 0 (pA Z layM s.heap.size)) σ 0 [(0, .ref (ad Z 0)), (1, .int v1), (2, .int v2)] [] := by
  unfold fX8_copies at h
  refine g_iconst (pc := 0) C (v := (0 : Int32)) dX8_copies_0 (by decide) ?_
  refine g_istore_n (pc := 1) C (lv2 := [(3, .int (0 : Int32)), (0, .ref (ad Z 0)), (1, .int v1), (2, .int v2)]) dX8_copies_1 rfl (by decide) rfl ?_
  exact g_sub [1, 2, 3, 0] rfl (kX8_copies_l2 C   _ _ _ h)
theorem mX8_copies (l : Launch) (Z : Sh) {σ : Sg} {v1 : Int32} {v2 : Int32} {u : Sg}  (h : fX8_copies σ v1 v2 = some u) : MV l Z layM yX8_copies wsX8_copies rX8_copies [.ref (ad Z 0), .int v1, .int v2] σ u :=
  MV.of (cc := cX8_copies) (maxL := 4) (ret := none) (by decide) rfl (Nat.le_of_ble_eq_true rfl) (fun p e s m below meth c C => kX8_copies_e C  h)

def rX8_drift : Room := { frames := 4, cells := 0, slots := 0, locals := 90 }
theorem uX8_drift_X8 : ∀ w ∈ wsX80, w ∈ wsX8_drift := by decide +kernel
def fX8_drift_l59 (v1 : Int32) (v2 : Int32) (v3 : Int32)  : Nat → Sg → Int32 → Int32 → Option (Sg × Int32)
  | 0, _, _, _ => none
  | n + 1, σ, v4, v5 => if v2 ≤ v5 then (fX8_guineas σ).bind fun t1 => (fX8_copies σ (87 : Int32) (0 : Int32)).bind fun σ2 => if v3 = 0 then some (σ2, v4) else some (σ2, t1) else (fX8_draws σ (σ 0 1)).bind fun u3 => (fX8_draws u3.1 (u3.1 0 2)).bind fun u4 => (fX8_buys u4.1 u3.2 u4.2).bind fun u5 => if u5.2 < 0 then fX8_drift_l59 v1 v2 v3 n u5.1 (v4 + (0 : Int32)) (v5 + 1) else fX8_drift_l59 v1 v2 v3 n u5.1 (v4 + (1 : Int32)) (v5 + 1)
def fX8_drift (σ : Sg) (v1 : Int32) (v2 : Int32) (v3 : Int32) : Option (Sg × Int32) := (fX8_in v2.toInt64 (1 : Int64) (60 : Int64)).bind fun t1 => if t1 = 0 then some (σ, (-1 : Int32)) else (fX8_in v3.toInt64 (0 : Int64) (1 : Int64)).bind fun t2 => if t2 = 0 then some (σ, (-1 : Int32)) else if (σ 0 1) = 0 then some (σ, (-2 : Int32)) else if (σ 0 2) = 0 then some (σ, (-2 : Int32)) else (fX8_copies σ (0 : Int32) (87 : Int32)).bind fun σ3 => (pf σ3 0 26 v1).bind fun σ4 => fX8_drift_l59 v1 v2 v3 2000 σ4 (0 : Int32) (0 : Int32)
set_option maxHeartbeats 1000000 in
set_option maxRecDepth 20000 in
theorem kX8_drift_l59 {p : Program} {l : Launch} {e : Env} {s : State} {m : MethodId} {args : Array Value} {below : List Frame} {meth : Method} {c : Code} {Z : Sh} (C : Cx p s m args meth c cX8_drift 7 wsX8_drift RX8 (some .int) Z layM) {v1 : Int32} {v2 : Int32} {v3 : Int32} {u : Sg × Int32}   : ∀ (n : Nat) (σ : Sg) (v4 : Int32) (v5 : Int32), fX8_drift_l59 v1 v2 v3 n σ v4 v5 = some u → G p l e rX8_drift s m args below meth c 7 Z layM (MQ below (QI Z layM u.1 u.2 s.heap.size) args s 0 0 (pA Z layM s.heap.size)) σ 59 [(0, .ref (ad Z 0)), (2, .int v2), (3, .int v3), (4, .int v4), (5, .int v5)] [] := by
  intro n
  induction n with
  | zero => intro σ v4 v5 h; exact absurd h (by simp [fX8_drift_l59])
  | succ n ih =>
    intro σ v4 v5 h
    rw [fX8_drift_l59] at h
    refine g_iload (pc := 59) C dX8_drift_59 4 rfl ?_
    refine g_iload_n (pc := 61) C dX8_drift_61 rfl 1 rfl ?_
    refine g_icmp_ge (pc := 62) C (tgt := 108) dX8_drift_62 (by decide) h (fun hc62 h => ?_) (fun hc62 h => ?_)
    · refine g_aload_n (pc := 108) C dX8_drift_108 rfl 0 rfl ?_
      obtain ⟨t1, et1, h⟩ := bs h
      refine g_callVi (pc := 109) C (As := []) (rest := []) (k := 0) (by rfl) (by rfl) (cwV 0 C.2.2.2.2.2.1 gX8_drift_X8_guineas rfl rfl rfl (by decide +kernel) ⟨Nat.le_of_ble_eq_true rfl, Nat.le_of_ble_eq_true rfl⟩) (mX8_guineas l Z  et1) rfl rfl (Nat.le_of_ble_eq_true rfl) dX8_drift_109 ?_
      refine g_istore (pc := 112) C (lv2 := [(5, .int t1), (0, .ref (ad Z 0)), (2, .int v2), (3, .int v3), (4, .int v4)]) dX8_drift_112 (by decide) rfl ?_
      refine g_aload_n (pc := 114) C dX8_drift_114 rfl 1 rfl ?_
      refine g_bipush (pc := 115) C (v := (87 : Int32)) dX8_drift_115 (by decide) ?_
      refine g_iconst (pc := 117) C (v := (0 : Int32)) dX8_drift_117 (by decide) ?_
      obtain ⟨σ2, eσ2, h⟩ := bs h
      refine g_callVv (pc := 118) C (As := [.int (87 : Int32), .int (0 : Int32)]) (rest := []) (k := 0) (by rfl) (by rfl) (cwV 2 C.2.2.2.2.2.1 gX8_drift_X8_copies rfl rfl rfl (by decide +kernel) ⟨Nat.le_of_ble_eq_true rfl, Nat.le_of_ble_eq_true rfl⟩) (mX8_copies l Z  eσ2) rfl rfl (Nat.le_of_ble_eq_true rfl) dX8_drift_118 ?_
      refine g_iload_n (pc := 121) C dX8_drift_121 rfl 3 rfl ?_
      refine g_if_ne (pc := 122) C (tgt := 130) dX8_drift_122 (by decide) h (fun hc122 h => ?_) (fun hc122 h => ?_)
      · refine g_iload (pc := 130) C dX8_drift_130 0 rfl ?_
        exact g_iret C dX8_drift_132 (pfst h) (psnd h)
      · refine g_iload (pc := 125) C dX8_drift_125 4 rfl ?_
        refine g_goto (pc := 127) C (tgt := 132) dX8_drift_127 (by decide) ?_
        exact g_iret C dX8_drift_132 (pfst h) (psnd h)
    · refine g_aload_n (pc := 65) C dX8_drift_65 rfl 0 rfl ?_
      refine g_aload_n (pc := 66) C dX8_drift_66 rfl 0 rfl ?_
      refine g_geti (pc := 67) C (Cn := RX8) (T := TX8) (N := 32) (ci := 8) (k := 0) (j := 1) uX8_drift_X8 (by rfl) rfl (by decide) (by decide +kernel) (q := 0) rfl dX8_drift_67 ?_
      obtain ⟨u3, eu3, h⟩ := bs h
      refine g_callVi (pc := 70) C (As := [.int (σ 0 1)]) (rest := []) (k := 0) (by rfl) (by rfl) (cwV 1 C.2.2.2.2.2.1 gX8_drift_X8_draws rfl rfl rfl (by decide +kernel) ⟨Nat.le_of_ble_eq_true rfl, Nat.le_of_ble_eq_true rfl⟩) (mX8_draws l Z  eu3) rfl rfl (Nat.le_of_ble_eq_true rfl) dX8_drift_70 ?_
      refine g_istore (pc := 73) C (lv2 := [(6, .int u3.2), (0, .ref (ad Z 0)), (2, .int v2), (3, .int v3), (4, .int v4), (5, .int v5)]) dX8_drift_73 (by decide) rfl ?_
      refine g_iload (pc := 75) C dX8_drift_75 4 rfl ?_
      refine g_aload_n (pc := 77) C dX8_drift_77 rfl 1 rfl ?_
      refine g_iload (pc := 78) C dX8_drift_78 0 rfl ?_
      refine g_aload_n (pc := 80) C dX8_drift_80 rfl 1 rfl ?_
      refine g_aload_n (pc := 81) C dX8_drift_81 rfl 1 rfl ?_
      refine g_geti (pc := 82) C (Cn := RX8) (T := TX8) (N := 32) (ci := 8) (k := 0) (j := 2) uX8_drift_X8 (by rfl) rfl (by decide) (by decide +kernel) (q := 0) rfl dX8_drift_82 ?_
      obtain ⟨u4, eu4, h⟩ := bs h
      refine g_callVi (pc := 85) C (As := [.int (u3.1 0 2)]) (rest := [.int u3.2, .ref (ad Z 0), .int v4]) (k := 0) (by rfl) (by rfl) (cwV 1 C.2.2.2.2.2.1 gX8_drift_X8_draws rfl rfl rfl (by decide +kernel) ⟨Nat.le_of_ble_eq_true rfl, Nat.le_of_ble_eq_true rfl⟩) (mX8_draws l Z  eu4) rfl rfl (Nat.le_of_ble_eq_true rfl) dX8_drift_85 ?_
      obtain ⟨u5, eu5, h⟩ := bs h
      refine g_callVi (pc := 88) C (As := [.int u3.2, .int u4.2]) (rest := [.int v4]) (k := 0) (by rfl) (by rfl) (cwV 2 C.2.2.2.2.2.1 gX8_drift_X8_buys rfl rfl rfl (by decide +kernel) ⟨Nat.le_of_ble_eq_true rfl, Nat.le_of_ble_eq_true rfl⟩) (mX8_buys l Z  eu5) rfl rfl (Nat.le_of_ble_eq_true rfl) dX8_drift_88 ?_
      refine g_if_lt (pc := 91) C (tgt := 98) dX8_drift_91 (by decide) h (fun hc91 h => ?_) (fun hc91 h => ?_)
      · refine g_iconst (pc := 98) C (v := (0 : Int32)) dX8_drift_98 (by decide) ?_
        refine g_iadd (pc := 99) C dX8_drift_99 ?_
        refine g_istore (pc := 100) C (lv2 := [(4, .int (v4 + (0 : Int32))), (6, .int u3.2), (0, .ref (ad Z 0)), (2, .int v2), (3, .int v3), (5, .int v5)]) dX8_drift_100 (by decide) rfl ?_
        refine g_iinc (pc := 102) C (j := 5) (v := (v5 + 1)) (lv2 := [(5, .int (v5 + 1)), (4, .int (v4 + (0 : Int32))), (6, .int u3.2), (0, .ref (ad Z 0)), (2, .int v2), (3, .int v3)]) dX8_drift_102 rfl rfl (by decide) rfl ?_
        refine g_goto (pc := 105) C (tgt := 59) dX8_drift_105 (by decide) ?_
        exact g_sub [3, 4, 5, 1, 0] rfl (ih _ _ _ h)
      · refine g_iconst (pc := 94) C (v := (1 : Int32)) dX8_drift_94 (by decide) ?_
        refine g_goto (pc := 95) C (tgt := 99) dX8_drift_95 (by decide) ?_
        refine g_iadd (pc := 99) C dX8_drift_99 ?_
        refine g_istore (pc := 100) C (lv2 := [(4, .int (v4 + (1 : Int32))), (6, .int u3.2), (0, .ref (ad Z 0)), (2, .int v2), (3, .int v3), (5, .int v5)]) dX8_drift_100 (by decide) rfl ?_
        refine g_iinc (pc := 102) C (j := 5) (v := (v5 + 1)) (lv2 := [(5, .int (v5 + 1)), (4, .int (v4 + (1 : Int32))), (6, .int u3.2), (0, .ref (ad Z 0)), (2, .int v2), (3, .int v3)]) dX8_drift_102 rfl rfl (by decide) rfl ?_
        refine g_goto (pc := 105) C (tgt := 59) dX8_drift_105 (by decide) ?_
        exact g_sub [3, 4, 5, 1, 0] rfl (ih _ _ _ h)
set_option maxHeartbeats 1000000 in
set_option maxRecDepth 20000 in
theorem kX8_drift_e {p : Program} {l : Launch} {e : Env} {s : State} {m : MethodId} {args : Array Value} {below : List Frame} {meth : Method} {c : Code} {Z : Sh} (C : Cx p s m args meth c cX8_drift 7 wsX8_drift RX8 (some .int) Z layM) {σ : Sg} {v1 : Int32} {v2 : Int32} {v3 : Int32} {u : Sg × Int32}  (h : fX8_drift σ v1 v2 v3 = some u) : G p l e rX8_drift s m args below meth c 7 Z layM (MQ below (QI Z layM u.1 u.2 s.heap.size) args s 0 0 (pA Z layM s.heap.size)) σ 0 [(0, .ref (ad Z 0)), (1, .int v1), (2, .int v2), (3, .int v3)] [] := by
  unfold fX8_drift at h
  refine g_iload_n (pc := 0) C dX8_drift_0 rfl 2 rfl ?_
  refine g_i2l (pc := 1) C dX8_drift_1 ?_
  refine g_lconst (pc := 2) C (v := (1 : Int64)) dX8_drift_2 (by decide) ?_
  refine g_ldc2 (pc := 3) C (v := (60 : Int64)) (by decide +kernel) dX8_drift_3 ?_
  obtain ⟨t1, et1, h⟩ := bs h
  refine g_callSi (pc := 6) C (As := [.long v2.toInt64, .long (1 : Int64), .long (60 : Int64)]) (rest := []) (va_cwS 3 C.2.2.2.2.2.1 gX8_drift_X8_in rfl rfl rfl (by decide +kernel) ⟨Nat.le_of_ble_eq_true rfl, Nat.le_of_ble_eq_true rfl⟩) (mX8_in l Z  et1) rfl rfl (Nat.le_of_ble_eq_true rfl) dX8_drift_6 ?_
  refine g_if_eq (pc := 9) C (tgt := 22) dX8_drift_9 (by decide) h (fun hc9 h => ?_) (fun hc9 h => ?_)
  · refine g_iconst (pc := 22) C (v := (-1 : Int32)) dX8_drift_22 (by decide) ?_
    exact g_iret C dX8_drift_23 (pfst h) (psnd h)
  · refine g_iload_n (pc := 12) C dX8_drift_12 rfl 3 rfl ?_
    refine g_i2l (pc := 13) C dX8_drift_13 ?_
    refine g_lconst (pc := 14) C (v := (0 : Int64)) dX8_drift_14 (by decide) ?_
    refine g_lconst (pc := 15) C (v := (1 : Int64)) dX8_drift_15 (by decide) ?_
    obtain ⟨t2, et2, h⟩ := bs h
    refine g_callSi (pc := 16) C (As := [.long v3.toInt64, .long (0 : Int64), .long (1 : Int64)]) (rest := []) (va_cwS 3 C.2.2.2.2.2.1 gX8_drift_X8_in rfl rfl rfl (by decide +kernel) ⟨Nat.le_of_ble_eq_true rfl, Nat.le_of_ble_eq_true rfl⟩) (mX8_in l Z  et2) rfl rfl (Nat.le_of_ble_eq_true rfl) dX8_drift_16 ?_
    refine g_if_ne (pc := 19) C (tgt := 24) dX8_drift_19 (by decide) h (fun hc19 h => ?_) (fun hc19 h => ?_)
    · refine g_aload_n (pc := 24) C dX8_drift_24 rfl 0 rfl ?_
      refine g_geti (pc := 25) C (Cn := RX8) (T := TX8) (N := 32) (ci := 8) (k := 0) (j := 1) uX8_drift_X8 (by rfl) rfl (by decide) (by decide +kernel) (q := 0) rfl dX8_drift_25 ?_
      refine g_if_eq (pc := 28) C (tgt := 38) dX8_drift_28 (by decide) h (fun hc28 h => ?_) (fun hc28 h => ?_)
      · refine g_bipush (pc := 38) C (v := (-2 : Int32)) dX8_drift_38 (by decide) ?_
        exact g_iret C dX8_drift_40 (pfst h) (psnd h)
      · refine g_aload_n (pc := 31) C dX8_drift_31 rfl 0 rfl ?_
        refine g_geti (pc := 32) C (Cn := RX8) (T := TX8) (N := 32) (ci := 8) (k := 0) (j := 2) uX8_drift_X8 (by rfl) rfl (by decide) (by decide +kernel) (q := 0) rfl dX8_drift_32 ?_
        refine g_if_ne (pc := 35) C (tgt := 41) dX8_drift_35 (by decide) h (fun hc35 h => ?_) (fun hc35 h => ?_)
        · refine g_aload_n (pc := 41) C dX8_drift_41 rfl 0 rfl ?_
          refine g_iconst (pc := 42) C (v := (0 : Int32)) dX8_drift_42 (by decide) ?_
          refine g_bipush (pc := 43) C (v := (87 : Int32)) dX8_drift_43 (by decide) ?_
          obtain ⟨σ3, eσ3, h⟩ := bs h
          refine g_callVv (pc := 45) C (As := [.int (0 : Int32), .int (87 : Int32)]) (rest := []) (k := 0) (by rfl) (by rfl) (cwV 2 C.2.2.2.2.2.1 gX8_drift_X8_copies rfl rfl rfl (by decide +kernel) ⟨Nat.le_of_ble_eq_true rfl, Nat.le_of_ble_eq_true rfl⟩) (mX8_copies l Z  eσ3) rfl rfl (Nat.le_of_ble_eq_true rfl) dX8_drift_45 ?_
          refine g_aload_n (pc := 48) C dX8_drift_48 rfl 0 rfl ?_
          refine g_iload_n (pc := 49) C dX8_drift_49 rfl 1 rfl ?_
          obtain ⟨σ4, eσ4, h⟩ := bs h
          refine g_puti (pc := 50) C (Cn := RX8) (T := TX8) (N := 32) (ci := 8) (k := 0) (j := 26) uX8_drift_X8 (by rfl) rfl (by decide) (by decide +kernel) tyX8 tyX8_ok nmX8 rfl (by decide +kernel) rfl eσ4 dX8_drift_50 ?_
          refine g_iconst (pc := 53) C (v := (0 : Int32)) dX8_drift_53 (by decide) ?_
          refine g_istore (pc := 54) C (lv2 := [(4, .int (0 : Int32)), (0, .ref (ad Z 0)), (1, .int v1), (2, .int v2), (3, .int v3)]) dX8_drift_54 (by decide) rfl ?_
          refine g_iconst (pc := 56) C (v := (0 : Int32)) dX8_drift_56 (by decide) ?_
          refine g_istore (pc := 57) C (lv2 := [(5, .int (0 : Int32)), (4, .int (0 : Int32)), (0, .ref (ad Z 0)), (1, .int v1), (2, .int v2), (3, .int v3)]) dX8_drift_57 (by decide) rfl ?_
          exact g_sub [2, 4, 5, 1, 0] rfl (kX8_drift_l59 C   _ _ _ _ h)
        · refine g_bipush (pc := 38) C (v := (-2 : Int32)) dX8_drift_38 (by decide) ?_
          exact g_iret C dX8_drift_40 (pfst h) (psnd h)
    · refine g_iconst (pc := 22) C (v := (-1 : Int32)) dX8_drift_22 (by decide) ?_
      exact g_iret C dX8_drift_23 (pfst h) (psnd h)
theorem mX8_drift (l : Launch) (Z : Sh) {σ : Sg} {v1 : Int32} {v2 : Int32} {v3 : Int32} {u : Sg × Int32}  (h : fX8_drift σ v1 v2 v3 = some u) : MI l Z layM yX8_drift wsX8_drift rX8_drift [.ref (ad Z 0), .int v1, .int v2, .int v3] σ u.1 u.2 :=
  MI.of (cc := cX8_drift) (maxL := 7) (ret := (some .int)) (by decide) rfl (Nat.le_of_ble_eq_true rfl) (fun p e s m below meth c C => kX8_drift_e C  h)

def rX8_keep : Room := { frames := 1, cells := 0, slots := 0, locals := 25 }
theorem uX8_keep_X8 : ∀ w ∈ wsX80, w ∈ wsX8_keep := by decide +kernel
def fX8_keep_b37 (v1 : Int32)  (σ : Sg) (s0 : Int32) : Option (Sg × Int32) := (wr σ 10 2 v1 (vp_nar .boolean (1 : Int32))).bind fun σ1 => some (σ1, s0)
def fX8_keep (σ : Sg) (v1 : Int32) : Option (Sg × Int32) := (fX8_in v1.toInt64 (0 : Int64) (1 : Int64)).bind fun t1 => if t1 = 0 then some (σ, (-1 : Int32)) else (fX8_copies σ (0 : Int32) ((29 : Int32) * (v1 + (1 : Int32)))).bind fun σ2 => (rd (σ2 10) 2 v1).bind fun t3 => if t3 = 0 then fX8_keep_b37 v1 σ2 (0 : Int32) else fX8_keep_b37 v1 σ2 (1 : Int32)
set_option maxHeartbeats 1000000 in
set_option maxRecDepth 20000 in
theorem kX8_keep_b37 {p : Program} {l : Launch} {e : Env} {s : State} {m : MethodId} {args : Array Value} {below : List Frame} {meth : Method} {c : Code} {Z : Sh} (C : Cx p s m args meth c cX8_keep 3 wsX8_keep RX8 (some .int) Z layM) {v1 : Int32} {u : Sg × Int32}   {σ : Sg} {s0 : Int32} (h : fX8_keep_b37 v1 σ s0 = some u) : G p l e rX8_keep s m args below meth c 3 Z layM (MQ below (QI Z layM u.1 u.2 s.heap.size) args s 0 0 (pA Z layM s.heap.size)) σ 37 [(0, .ref (ad Z 0)), (1, .int v1)] [.int s0] := by
  unfold fX8_keep_b37 at h
  refine g_istore_n (pc := 37) C (lv2 := [(2, .int s0), (0, .ref (ad Z 0)), (1, .int v1)]) dX8_keep_37 rfl (by decide) rfl ?_
  refine g_aload_n (pc := 38) C dX8_keep_38 rfl 1 rfl ?_
  refine g_getr (pc := 39) C (Cn := RX8) (T := TX8) (N := 32) (ci := 8) (k := 0) (j := 27) uX8_keep_X8 (by rfl) rfl (by decide) (by decide +kernel) (q := 10) rfl dX8_keep_39 ?_
  refine g_iload_n (pc := 42) C dX8_keep_42 rfl 2 rfl ?_
  refine g_iconst (pc := 43) C (v := (1 : Int32)) dX8_keep_43 (by decide) ?_
  obtain ⟨σ1, eσ1, h⟩ := bs h
  refine g_zast (pc := 44) C (k := 10) (n := 2) (by rfl) eσ1 dX8_keep_44 ?_
  refine g_iload_n (pc := 45) C dX8_keep_45 rfl 0 rfl ?_
  exact g_iret C dX8_keep_46 (pfst h) (psnd h)
set_option maxHeartbeats 1000000 in
set_option maxRecDepth 20000 in
theorem kX8_keep_e {p : Program} {l : Launch} {e : Env} {s : State} {m : MethodId} {args : Array Value} {below : List Frame} {meth : Method} {c : Code} {Z : Sh} (C : Cx p s m args meth c cX8_keep 3 wsX8_keep RX8 (some .int) Z layM) {σ : Sg} {v1 : Int32} {u : Sg × Int32}  (h : fX8_keep σ v1 = some u) : G p l e rX8_keep s m args below meth c 3 Z layM (MQ below (QI Z layM u.1 u.2 s.heap.size) args s 0 0 (pA Z layM s.heap.size)) σ 0 [(0, .ref (ad Z 0)), (1, .int v1)] [] := by
  unfold fX8_keep at h
  refine g_iload_n (pc := 0) C dX8_keep_0 rfl 1 rfl ?_
  refine g_i2l (pc := 1) C dX8_keep_1 ?_
  refine g_lconst (pc := 2) C (v := (0 : Int64)) dX8_keep_2 (by decide) ?_
  refine g_lconst (pc := 3) C (v := (1 : Int64)) dX8_keep_3 (by decide) ?_
  obtain ⟨t1, et1, h⟩ := bs h
  refine g_callSi (pc := 4) C (As := [.long v1.toInt64, .long (0 : Int64), .long (1 : Int64)]) (rest := []) (va_cwS 3 C.2.2.2.2.2.1 gX8_keep_X8_in rfl rfl rfl (by decide +kernel) ⟨Nat.le_of_ble_eq_true rfl, Nat.le_of_ble_eq_true rfl⟩) (mX8_in l Z  et1) rfl rfl (Nat.le_of_ble_eq_true rfl) dX8_keep_4 ?_
  refine g_if_ne (pc := 7) C (tgt := 12) dX8_keep_7 (by decide) h (fun hc7 h => ?_) (fun hc7 h => ?_)
  · refine g_aload_n (pc := 12) C dX8_keep_12 rfl 0 rfl ?_
    refine g_iconst (pc := 13) C (v := (0 : Int32)) dX8_keep_13 (by decide) ?_
    refine g_bipush (pc := 14) C (v := (29 : Int32)) dX8_keep_14 (by decide) ?_
    refine g_iload_n (pc := 16) C dX8_keep_16 rfl 1 rfl ?_
    refine g_iconst (pc := 17) C (v := (1 : Int32)) dX8_keep_17 (by decide) ?_
    refine g_iadd (pc := 18) C dX8_keep_18 ?_
    refine g_imul (pc := 19) C dX8_keep_19 ?_
    obtain ⟨σ2, eσ2, h⟩ := bs h
    refine g_callVv (pc := 20) C (As := [.int (0 : Int32), .int ((29 : Int32) * (v1 + (1 : Int32)))]) (rest := []) (k := 0) (by rfl) (by rfl) (cwV 2 C.2.2.2.2.2.1 gX8_keep_X8_copies rfl rfl rfl (by decide +kernel) ⟨Nat.le_of_ble_eq_true rfl, Nat.le_of_ble_eq_true rfl⟩) (mX8_copies l Z  eσ2) rfl rfl (Nat.le_of_ble_eq_true rfl) dX8_keep_20 ?_
    refine g_aload_n (pc := 23) C dX8_keep_23 rfl 0 rfl ?_
    refine g_getr (pc := 24) C (Cn := RX8) (T := TX8) (N := 32) (ci := 8) (k := 0) (j := 27) uX8_keep_X8 (by rfl) rfl (by decide) (by decide +kernel) (q := 10) rfl dX8_keep_24 ?_
    refine g_iload_n (pc := 27) C dX8_keep_27 rfl 1 rfl ?_
    obtain ⟨t3, et3, h⟩ := bs h
    refine g_zald (pc := 28) C (k := 10) (n := 2) (by rfl) et3 dX8_keep_28 ?_
    refine g_if_eq (pc := 29) C (tgt := 36) dX8_keep_29 (by decide) h (fun hc29 h => ?_) (fun hc29 h => ?_)
    · refine g_iconst (pc := 36) C (v := (0 : Int32)) dX8_keep_36 (by decide) ?_
      exact g_sub [0, 1] rfl (kX8_keep_b37 C    h)
    · refine g_iconst (pc := 32) C (v := (1 : Int32)) dX8_keep_32 (by decide) ?_
      refine g_goto (pc := 33) C (tgt := 37) dX8_keep_33 (by decide) ?_
      exact g_sub [0, 1] rfl (kX8_keep_b37 C    h)
  · refine g_iconst (pc := 10) C (v := (-1 : Int32)) dX8_keep_10 (by decide) ?_
    exact g_iret C dX8_keep_11 (pfst h) (psnd h)
theorem mX8_keep (l : Launch) (Z : Sh) {σ : Sg} {v1 : Int32} {u : Sg × Int32}  (h : fX8_keep σ v1 = some u) : MI l Z layM yX8_keep wsX8_keep rX8_keep [.ref (ad Z 0), .int v1] σ u.1 u.2 :=
  MI.of (cc := cX8_keep) (maxL := 3) (ret := (some .int)) (by decide) rfl (Nat.le_of_ble_eq_true rfl) (fun p e s m below meth c C => kX8_keep_e C  h)

def rX8_back : Room := { frames := 1, cells := 0, slots := 0, locals := 25 }
theorem uX8_back_X8 : ∀ w ∈ wsX80, w ∈ wsX8_back := by decide +kernel
def fX8_back (σ : Sg) (v1 : Int32) : Option (Sg × Int32) := (fX8_in v1.toInt64 (0 : Int64) (1 : Int64)).bind fun t1 => if t1 = 0 then some (σ, (-1 : Int32)) else (rd (σ 10) 2 v1).bind fun t2 => if t2 = 0 then some (σ, (-2 : Int32)) else (fX8_copies σ ((29 : Int32) * (v1 + (1 : Int32))) (0 : Int32)).bind fun σ3 => (fX8_guineas σ3).bind fun t4 => some (σ3, t4)
set_option maxHeartbeats 1000000 in
set_option maxRecDepth 20000 in
theorem kX8_back_e {p : Program} {l : Launch} {e : Env} {s : State} {m : MethodId} {args : Array Value} {below : List Frame} {meth : Method} {c : Code} {Z : Sh} (C : Cx p s m args meth c cX8_back 2 wsX8_back RX8 (some .int) Z layM) {σ : Sg} {v1 : Int32} {u : Sg × Int32}  (h : fX8_back σ v1 = some u) : G p l e rX8_back s m args below meth c 2 Z layM (MQ below (QI Z layM u.1 u.2 s.heap.size) args s 0 0 (pA Z layM s.heap.size)) σ 0 [(0, .ref (ad Z 0)), (1, .int v1)] [] := by
  unfold fX8_back at h
  refine g_iload_n (pc := 0) C dX8_back_0 rfl 1 rfl ?_
  refine g_i2l (pc := 1) C dX8_back_1 ?_
  refine g_lconst (pc := 2) C (v := (0 : Int64)) dX8_back_2 (by decide) ?_
  refine g_lconst (pc := 3) C (v := (1 : Int64)) dX8_back_3 (by decide) ?_
  obtain ⟨t1, et1, h⟩ := bs h
  refine g_callSi (pc := 4) C (As := [.long v1.toInt64, .long (0 : Int64), .long (1 : Int64)]) (rest := []) (va_cwS 3 C.2.2.2.2.2.1 gX8_back_X8_in rfl rfl rfl (by decide +kernel) ⟨Nat.le_of_ble_eq_true rfl, Nat.le_of_ble_eq_true rfl⟩) (mX8_in l Z  et1) rfl rfl (Nat.le_of_ble_eq_true rfl) dX8_back_4 ?_
  refine g_if_ne (pc := 7) C (tgt := 12) dX8_back_7 (by decide) h (fun hc7 h => ?_) (fun hc7 h => ?_)
  · refine g_aload_n (pc := 12) C dX8_back_12 rfl 0 rfl ?_
    refine g_getr (pc := 13) C (Cn := RX8) (T := TX8) (N := 32) (ci := 8) (k := 0) (j := 27) uX8_back_X8 (by rfl) rfl (by decide) (by decide +kernel) (q := 10) rfl dX8_back_13 ?_
    refine g_iload_n (pc := 16) C dX8_back_16 rfl 1 rfl ?_
    obtain ⟨t2, et2, h⟩ := bs h
    refine g_zald (pc := 17) C (k := 10) (n := 2) (by rfl) et2 dX8_back_17 ?_
    refine g_if_ne (pc := 18) C (tgt := 24) dX8_back_18 (by decide) h (fun hc18 h => ?_) (fun hc18 h => ?_)
    · refine g_aload_n (pc := 24) C dX8_back_24 rfl 0 rfl ?_
      refine g_bipush (pc := 25) C (v := (29 : Int32)) dX8_back_25 (by decide) ?_
      refine g_iload_n (pc := 27) C dX8_back_27 rfl 1 rfl ?_
      refine g_iconst (pc := 28) C (v := (1 : Int32)) dX8_back_28 (by decide) ?_
      refine g_iadd (pc := 29) C dX8_back_29 ?_
      refine g_imul (pc := 30) C dX8_back_30 ?_
      refine g_iconst (pc := 31) C (v := (0 : Int32)) dX8_back_31 (by decide) ?_
      obtain ⟨σ3, eσ3, h⟩ := bs h
      refine g_callVv (pc := 32) C (As := [.int ((29 : Int32) * (v1 + (1 : Int32))), .int (0 : Int32)]) (rest := []) (k := 0) (by rfl) (by rfl) (cwV 2 C.2.2.2.2.2.1 gX8_back_X8_copies rfl rfl rfl (by decide +kernel) ⟨Nat.le_of_ble_eq_true rfl, Nat.le_of_ble_eq_true rfl⟩) (mX8_copies l Z  eσ3) rfl rfl (Nat.le_of_ble_eq_true rfl) dX8_back_32 ?_
      refine g_aload_n (pc := 35) C dX8_back_35 rfl 0 rfl ?_
      obtain ⟨t4, et4, h⟩ := bs h
      refine g_callVi (pc := 36) C (As := []) (rest := []) (k := 0) (by rfl) (by rfl) (cwV 0 C.2.2.2.2.2.1 gX8_back_X8_guineas rfl rfl rfl (by decide +kernel) ⟨Nat.le_of_ble_eq_true rfl, Nat.le_of_ble_eq_true rfl⟩) (mX8_guineas l Z  et4) rfl rfl (Nat.le_of_ble_eq_true rfl) dX8_back_36 ?_
      exact g_iret C dX8_back_39 (pfst h) (psnd h)
    · refine g_bipush (pc := 21) C (v := (-2 : Int32)) dX8_back_21 (by decide) ?_
      exact g_iret C dX8_back_23 (pfst h) (psnd h)
  · refine g_iconst (pc := 10) C (v := (-1 : Int32)) dX8_back_10 (by decide) ?_
    exact g_iret C dX8_back_11 (pfst h) (psnd h)
theorem mX8_back (l : Launch) (Z : Sh) {σ : Sg} {v1 : Int32} {u : Sg × Int32}  (h : fX8_back σ v1 = some u) : MI l Z layM yX8_back wsX8_back rX8_back [.ref (ad Z 0), .int v1] σ u.1 u.2 :=
  MI.of (cc := cX8_back) (maxL := 2) (ret := (some .int)) (by decide) rfl (Nat.le_of_ble_eq_true rfl) (fun p e s m below meth c C => kX8_back_e C  h)

def rX8_sheet : Room := { frames := 1, cells := 0, slots := 0, locals := 25 }
theorem uX8_sheet_X8 : ∀ w ∈ wsX80, w ∈ wsX8_sheet := by decide +kernel
def fX8_sheet_l56 (v1 : Int32) (v2 : Int32) (v3 : Int32)  : Nat → Sg → Int32 → Option (Sg × Int32)
  | 0, _, _ => none
  | n + 1, σ, v4 => if (40 : Int32) ≤ v4 then some (σ, (1 : Int32)) else (wr σ 13 160 (((40 : Int32) * v1) + v4) (0 : Int32)).bind fun σ1 => fX8_sheet_l56 v1 v2 v3 n σ1 (v4 + 1)
def fX8_sheet (σ : Sg) (v1 : Int32) (v2 : Int32) (v3 : Int32) : Option (Sg × Int32) := (fX8_in v1.toInt64 (0 : Int64) (3 : Int64)).bind fun t1 => if t1 = 0 then some (σ, (-1 : Int32)) else (fX8_in v2.toInt64 (0 : Int64) (2 : Int64)).bind fun t2 => if t2 = 0 then some (σ, (-1 : Int32)) else if v3 ≤ (40 : Int32) then if 0 ≤ v3 then (wr σ 11 4 v1 v2).bind fun σ3 => (wr σ3 12 4 v1 v3).bind fun σ4 => fX8_sheet_l56 v1 v2 v3 2000 σ4 (0 : Int32) else some (σ, (-14 : Int32)) else some (σ, (-1 : Int32))
set_option maxHeartbeats 1000000 in
set_option maxRecDepth 20000 in
theorem kX8_sheet_l56 {p : Program} {l : Launch} {e : Env} {s : State} {m : MethodId} {args : Array Value} {below : List Frame} {meth : Method} {c : Code} {Z : Sh} (C : Cx p s m args meth c cX8_sheet 5 wsX8_sheet RX8 (some .int) Z layM) {v1 : Int32} {v2 : Int32} {v3 : Int32} {u : Sg × Int32}   : ∀ (n : Nat) (σ : Sg) (v4 : Int32), fX8_sheet_l56 v1 v2 v3 n σ v4 = some u → G p l e rX8_sheet s m args below meth c 5 Z layM (MQ below (QI Z layM u.1 u.2 s.heap.size) args s 0 0 (pA Z layM s.heap.size)) σ 56 [(0, .ref (ad Z 0)), (1, .int v1), (4, .int v4)] [] := by
  intro n
  induction n with
  | zero => intro σ v4 h; exact absurd h (by simp [fX8_sheet_l56])
  | succ n ih =>
    intro σ v4 h
    rw [fX8_sheet_l56] at h
    refine g_iload (pc := 56) C dX8_sheet_56 2 rfl ?_
    refine g_bipush (pc := 58) C (v := (40 : Int32)) dX8_sheet_58 (by decide) ?_
    refine g_icmp_ge (pc := 60) C (tgt := 82) dX8_sheet_60 (by decide) h (fun hc60 h => ?_) (fun hc60 h => ?_)
    · refine g_iconst (pc := 82) C (v := (1 : Int32)) dX8_sheet_82 (by decide) ?_
      exact g_iret C dX8_sheet_83 (pfst h) (psnd h)
    · refine g_aload_n (pc := 63) C dX8_sheet_63 rfl 0 rfl ?_
      refine g_getr (pc := 64) C (Cn := RX8) (T := TX8) (N := 32) (ci := 8) (k := 0) (j := 30) uX8_sheet_X8 (by rfl) rfl (by decide) (by decide +kernel) (q := 13) rfl dX8_sheet_64 ?_
      refine g_bipush (pc := 67) C (v := (40 : Int32)) dX8_sheet_67 (by decide) ?_
      refine g_iload_n (pc := 69) C dX8_sheet_69 rfl 1 rfl ?_
      refine g_imul (pc := 70) C dX8_sheet_70 ?_
      refine g_iload (pc := 71) C dX8_sheet_71 2 rfl ?_
      refine g_iadd (pc := 73) C dX8_sheet_73 ?_
      refine g_iconst (pc := 74) C (v := (0 : Int32)) dX8_sheet_74 (by decide) ?_
      obtain ⟨σ1, eσ1, h⟩ := bs h
      refine g_iast (pc := 75) C (k := 13) (n := 160) (by rfl) eσ1 dX8_sheet_75 ?_
      refine g_iinc (pc := 76) C (j := 2) (v := (v4 + 1)) (lv2 := [(4, .int (v4 + 1)), (0, .ref (ad Z 0)), (1, .int v1)]) dX8_sheet_76 rfl rfl (by decide) rfl ?_
      refine g_goto (pc := 79) C (tgt := 56) dX8_sheet_79 (by decide) ?_
      exact g_sub [1, 2, 0] rfl (ih _ _ h)
set_option maxHeartbeats 1000000 in
set_option maxRecDepth 20000 in
theorem kX8_sheet_e {p : Program} {l : Launch} {e : Env} {s : State} {m : MethodId} {args : Array Value} {below : List Frame} {meth : Method} {c : Code} {Z : Sh} (C : Cx p s m args meth c cX8_sheet 5 wsX8_sheet RX8 (some .int) Z layM) {σ : Sg} {v1 : Int32} {v2 : Int32} {v3 : Int32} {u : Sg × Int32}  (h : fX8_sheet σ v1 v2 v3 = some u) : G p l e rX8_sheet s m args below meth c 5 Z layM (MQ below (QI Z layM u.1 u.2 s.heap.size) args s 0 0 (pA Z layM s.heap.size)) σ 0 [(0, .ref (ad Z 0)), (1, .int v1), (2, .int v2), (3, .int v3)] [] := by
  unfold fX8_sheet at h
  refine g_iload_n (pc := 0) C dX8_sheet_0 rfl 1 rfl ?_
  refine g_i2l (pc := 1) C dX8_sheet_1 ?_
  refine g_lconst (pc := 2) C (v := (0 : Int64)) dX8_sheet_2 (by decide) ?_
  refine g_ldc2 (pc := 3) C (v := (3 : Int64)) (by decide +kernel) dX8_sheet_3 ?_
  obtain ⟨t1, et1, h⟩ := bs h
  refine g_callSi (pc := 6) C (As := [.long v1.toInt64, .long (0 : Int64), .long (3 : Int64)]) (rest := []) (va_cwS 3 C.2.2.2.2.2.1 gX8_sheet_X8_in rfl rfl rfl (by decide +kernel) ⟨Nat.le_of_ble_eq_true rfl, Nat.le_of_ble_eq_true rfl⟩) (mX8_in l Z  et1) rfl rfl (Nat.le_of_ble_eq_true rfl) dX8_sheet_6 ?_
  refine g_if_eq (pc := 9) C (tgt := 30) dX8_sheet_9 (by decide) h (fun hc9 h => ?_) (fun hc9 h => ?_)
  · refine g_iconst (pc := 30) C (v := (-1 : Int32)) dX8_sheet_30 (by decide) ?_
    exact g_iret C dX8_sheet_31 (pfst h) (psnd h)
  · refine g_iload_n (pc := 12) C dX8_sheet_12 rfl 2 rfl ?_
    refine g_i2l (pc := 13) C dX8_sheet_13 ?_
    refine g_lconst (pc := 14) C (v := (0 : Int64)) dX8_sheet_14 (by decide) ?_
    refine g_ldc2 (pc := 15) C (v := (2 : Int64)) (by decide +kernel) dX8_sheet_15 ?_
    obtain ⟨t2, et2, h⟩ := bs h
    refine g_callSi (pc := 18) C (As := [.long v2.toInt64, .long (0 : Int64), .long (2 : Int64)]) (rest := []) (va_cwS 3 C.2.2.2.2.2.1 gX8_sheet_X8_in rfl rfl rfl (by decide +kernel) ⟨Nat.le_of_ble_eq_true rfl, Nat.le_of_ble_eq_true rfl⟩) (mX8_in l Z  et2) rfl rfl (Nat.le_of_ble_eq_true rfl) dX8_sheet_18 ?_
    refine g_if_eq (pc := 21) C (tgt := 30) dX8_sheet_21 (by decide) h (fun hc21 h => ?_) (fun hc21 h => ?_)
    · refine g_iconst (pc := 30) C (v := (-1 : Int32)) dX8_sheet_30 (by decide) ?_
      exact g_iret C dX8_sheet_31 (pfst h) (psnd h)
    · refine g_iload_n (pc := 24) C dX8_sheet_24 rfl 3 rfl ?_
      refine g_bipush (pc := 25) C (v := (40 : Int32)) dX8_sheet_25 (by decide) ?_
      refine g_icmp_le (pc := 27) C (tgt := 32) dX8_sheet_27 (by decide) h (fun hc27 h => ?_) (fun hc27 h => ?_)
      · refine g_iload_n (pc := 32) C dX8_sheet_32 rfl 3 rfl ?_
        refine g_if_ge (pc := 33) C (tgt := 39) dX8_sheet_33 (by decide) h (fun hc33 h => ?_) (fun hc33 h => ?_)
        · refine g_aload_n (pc := 39) C dX8_sheet_39 rfl 0 rfl ?_
          refine g_getr (pc := 40) C (Cn := RX8) (T := TX8) (N := 32) (ci := 8) (k := 0) (j := 28) uX8_sheet_X8 (by rfl) rfl (by decide) (by decide +kernel) (q := 11) rfl dX8_sheet_40 ?_
          refine g_iload_n (pc := 43) C dX8_sheet_43 rfl 1 rfl ?_
          refine g_iload_n (pc := 44) C dX8_sheet_44 rfl 2 rfl ?_
          obtain ⟨σ3, eσ3, h⟩ := bs h
          refine g_iast (pc := 45) C (k := 11) (n := 4) (by rfl) eσ3 dX8_sheet_45 ?_
          refine g_aload_n (pc := 46) C dX8_sheet_46 rfl 0 rfl ?_
          refine g_getr (pc := 47) C (Cn := RX8) (T := TX8) (N := 32) (ci := 8) (k := 0) (j := 29) uX8_sheet_X8 (by rfl) rfl (by decide) (by decide +kernel) (q := 12) rfl dX8_sheet_47 ?_
          refine g_iload_n (pc := 50) C dX8_sheet_50 rfl 1 rfl ?_
          refine g_iload_n (pc := 51) C dX8_sheet_51 rfl 3 rfl ?_
          obtain ⟨σ4, eσ4, h⟩ := bs h
          refine g_iast (pc := 52) C (k := 12) (n := 4) (by rfl) eσ4 dX8_sheet_52 ?_
          refine g_iconst (pc := 53) C (v := (0 : Int32)) dX8_sheet_53 (by decide) ?_
          refine g_istore (pc := 54) C (lv2 := [(4, .int (0 : Int32)), (0, .ref (ad Z 0)), (1, .int v1), (2, .int v2), (3, .int v3)]) dX8_sheet_54 (by decide) rfl ?_
          exact g_sub [1, 2, 0] rfl (kX8_sheet_l56 C   _ _ _ h)
        · refine g_bipush (pc := 36) C (v := (-14 : Int32)) dX8_sheet_36 (by decide) ?_
          exact g_iret C dX8_sheet_38 (pfst h) (psnd h)
      · refine g_iconst (pc := 30) C (v := (-1 : Int32)) dX8_sheet_30 (by decide) ?_
        exact g_iret C dX8_sheet_31 (pfst h) (psnd h)
theorem mX8_sheet (l : Launch) (Z : Sh) {σ : Sg} {v1 : Int32} {v2 : Int32} {v3 : Int32} {u : Sg × Int32}  (h : fX8_sheet σ v1 v2 v3 = some u) : MI l Z layM yX8_sheet wsX8_sheet rX8_sheet [.ref (ad Z 0), .int v1, .int v2, .int v3] σ u.1 u.2 :=
  MI.of (cc := cX8_sheet) (maxL := 5) (ret := (some .int)) (by decide) rfl (Nat.le_of_ble_eq_true rfl) (fun p e s m below meth c C => kX8_sheet_e C  h)
