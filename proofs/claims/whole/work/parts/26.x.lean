def rX7_line : Room := { frames := 4, cells := 0, slots := 0, locals := 88 }
theorem uX7_line_X4 : ∀ w ∈ wsX40, w ∈ wsX7_line := by decide +kernel
theorem uX7_line_X7 : ∀ w ∈ wsX70, w ∈ wsX7_line := by decide +kernel
def fX7_line (σ : Sg) (v1 : Int32) : Option (Sg × Int32) := (fX7_within v1 (1 : Int32) (5 : Int32)).bind fun t1 => if t1 = 0 then some (σ, (-1 : Int32)) else (fX4_rank σ 1).bind fun σ2 => if v1 < (σ2 40 1) then (rd (σ2 41) 6 (v1 - (1 : Int32))).bind fun t3 => (fX2_votesOf σ2 1 t3).bind fun t4 => (rd (σ2 41) 6 v1).bind fun t5 => (fX2_votesOf σ2 1 t5).bind fun t6 => if t4 = t6 then some (σ2, (0 : Int32)) else some (σ2, (1 : Int32)) else some (σ2, (-4 : Int32))
set_option maxHeartbeats 1000000 in
set_option maxRecDepth 20000 in
theorem kX7_line_e {p : Program} {l : Launch} {e : Env} {s : State} {m : MethodId} {args : Array Value} {below : List Frame} {meth : Method} {c : Code} {Z : Sh} (C : Cx p s m args meth c cX7_line 2 wsX7_line RX7 (some .int) Z layX) {σ : Sg} {v1 : Int32} {u : Sg × Int32}  (h : fX7_line σ v1 = some u) : G p l e rX7_line s m args below meth c 2 Z layX (MQ below (QI Z layX u.1 u.2 s.heap.size) args s 0 0 (pA Z layX s.heap.size)) σ 0 [(0, .ref (ad Z 0)), (1, .int v1)] [] := by
  unfold fX7_line at h
  refine g_iload_n (pc := 0) C dX7_line_0 rfl 1 rfl ?_
  refine g_iconst (pc := 1) C (v := (1 : Int32)) dX7_line_1 (by decide) ?_
  refine g_iconst (pc := 2) C (v := (5 : Int32)) dX7_line_2 (by decide) ?_
  obtain ⟨t1, et1, h⟩ := bs h
  refine g_callSi (pc := 3) C (As := [.int v1, .int (1 : Int32), .int (5 : Int32)]) (rest := []) (va_cwS 3 C.2.2.2.2.2.1 gX7_line_X7_within rfl rfl rfl (by decide +kernel) ⟨Nat.le_of_ble_eq_true rfl, Nat.le_of_ble_eq_true rfl⟩) (mX7_within l Z  et1) rfl rfl (Nat.le_of_ble_eq_true rfl) dX7_line_3 ?_
  refine g_if_ne (pc := 6) C (tgt := 11) dX7_line_6 (by decide) h (fun hc6 h => ?_) (fun hc6 h => ?_)
  · refine g_aload_n (pc := 11) C dX7_line_11 rfl 0 rfl ?_
    refine g_getr (pc := 12) C (Cn := RX7) (T := TX7) (N := 11) (ci := 7) (k := 0) (j := 8) uX7_line_X7 (by rfl) rfl (by decide) (by decide +kernel) (q := 40) rfl dX7_line_12 ?_
    refine g_aload_n (pc := 15) C dX7_line_15 rfl 0 rfl ?_
    refine g_getr (pc := 16) C (Cn := RX7) (T := TX7) (N := 11) (ci := 7) (k := 0) (j := 0) uX7_line_X7 (by rfl) rfl (by decide) (by decide +kernel) (q := 1) rfl dX7_line_16 ?_
    obtain ⟨σ2, eσ2, h⟩ := bs h
    refine g_callVv (pc := 19) C (As := [.ref (ad Z 1)]) (rest := []) (k := 40) (by rfl) (by rfl) (cwV 1 C.2.2.2.2.2.1 gX7_line_X4_rank rfl rfl rfl (by decide +kernel) ⟨Nat.le_of_ble_eq_true rfl, Nat.le_of_ble_eq_true rfl⟩) (mX4_rank l Z isR1 eσ2) rfl rfl (Nat.le_of_ble_eq_true rfl) dX7_line_19 ?_
    refine g_iload_n (pc := 22) C dX7_line_22 rfl 1 rfl ?_
    refine g_aload_n (pc := 23) C dX7_line_23 rfl 0 rfl ?_
    refine g_getr (pc := 24) C (Cn := RX7) (T := TX7) (N := 11) (ci := 7) (k := 0) (j := 8) uX7_line_X7 (by rfl) rfl (by decide) (by decide +kernel) (q := 40) rfl dX7_line_24 ?_
    refine g_getiN (pc := 27) C (host := "MoundVotes") (Cn := RX4) (T := TX4) (N := 2) (ci := 4) (k := 40) (j := 1) uX7_line_X4 (by rfl) rfl (by decide) (by decide +kernel) (q := 0) rfl dX7_line_27 ?_
    refine g_icmp_lt (pc := 30) C (tgt := 36) dX7_line_30 (by decide) h (fun hc30 h => ?_) (fun hc30 h => ?_)
    · refine g_aload_n (pc := 36) C dX7_line_36 rfl 0 rfl ?_
      refine g_getr (pc := 37) C (Cn := RX7) (T := TX7) (N := 11) (ci := 7) (k := 0) (j := 0) uX7_line_X7 (by rfl) rfl (by decide) (by decide +kernel) (q := 1) rfl dX7_line_37 ?_
      refine g_aload_n (pc := 40) C dX7_line_40 rfl 0 rfl ?_
      refine g_getr (pc := 41) C (Cn := RX7) (T := TX7) (N := 11) (ci := 7) (k := 0) (j := 8) uX7_line_X7 (by rfl) rfl (by decide) (by decide +kernel) (q := 40) rfl dX7_line_41 ?_
      refine g_getrN (pc := 44) C (host := "MoundVotes") (Cn := RX4) (T := TX4) (N := 2) (ci := 4) (k := 40) (j := 0) uX7_line_X4 (by rfl) rfl (by decide) (by decide +kernel) (q := 41) rfl dX7_line_44 ?_
      refine g_iload_n (pc := 47) C dX7_line_47 rfl 1 rfl ?_
      refine g_iconst (pc := 48) C (v := (1 : Int32)) dX7_line_48 (by decide) ?_
      refine g_isub (pc := 49) C dX7_line_49 ?_
      obtain ⟨t3, et3, h⟩ := bs h
      refine g_iald (pc := 50) C (k := 41) (n := 6) (by rfl) et3 dX7_line_50 ?_
      obtain ⟨t4, et4, h⟩ := bs h
      refine g_callVi (pc := 51) C (As := [.int t3]) (rest := []) (k := 1) (by rfl) (by rfl) (cwV 1 C.2.2.2.2.2.1 gX7_line_X2_votesOf rfl rfl rfl (by decide +kernel) ⟨Nat.le_of_ble_eq_true rfl, Nat.le_of_ble_eq_true rfl⟩) (mX2_votesOf l Z isR1 et4) rfl rfl (Nat.le_of_ble_eq_true rfl) dX7_line_51 ?_
      refine g_aload_n (pc := 54) C dX7_line_54 rfl 0 rfl ?_
      refine g_getr (pc := 55) C (Cn := RX7) (T := TX7) (N := 11) (ci := 7) (k := 0) (j := 0) uX7_line_X7 (by rfl) rfl (by decide) (by decide +kernel) (q := 1) rfl dX7_line_55 ?_
      refine g_aload_n (pc := 58) C dX7_line_58 rfl 0 rfl ?_
      refine g_getr (pc := 59) C (Cn := RX7) (T := TX7) (N := 11) (ci := 7) (k := 0) (j := 8) uX7_line_X7 (by rfl) rfl (by decide) (by decide +kernel) (q := 40) rfl dX7_line_59 ?_
      refine g_getrN (pc := 62) C (host := "MoundVotes") (Cn := RX4) (T := TX4) (N := 2) (ci := 4) (k := 40) (j := 0) uX7_line_X4 (by rfl) rfl (by decide) (by decide +kernel) (q := 41) rfl dX7_line_62 ?_
      refine g_iload_n (pc := 65) C dX7_line_65 rfl 1 rfl ?_
      obtain ⟨t5, et5, h⟩ := bs h
      refine g_iald (pc := 66) C (k := 41) (n := 6) (by rfl) et5 dX7_line_66 ?_
      obtain ⟨t6, et6, h⟩ := bs h
      refine g_callVi (pc := 67) C (As := [.int t5]) (rest := [.int t4]) (k := 1) (by rfl) (by rfl) (cwV 1 C.2.2.2.2.2.1 gX7_line_X2_votesOf rfl rfl rfl (by decide +kernel) ⟨Nat.le_of_ble_eq_true rfl, Nat.le_of_ble_eq_true rfl⟩) (mX2_votesOf l Z isR1 et6) rfl rfl (Nat.le_of_ble_eq_true rfl) dX7_line_67 ?_
      refine g_icmp_eq (pc := 70) C (tgt := 77) dX7_line_70 (by decide) h (fun hc70 h => ?_) (fun hc70 h => ?_)
      · refine g_iconst (pc := 77) C (v := (0 : Int32)) dX7_line_77 (by decide) ?_
        exact g_iret C dX7_line_78 (pfst h) (psnd h)
      · refine g_iconst (pc := 73) C (v := (1 : Int32)) dX7_line_73 (by decide) ?_
        refine g_goto (pc := 74) C (tgt := 78) dX7_line_74 (by decide) ?_
        exact g_iret C dX7_line_78 (pfst h) (psnd h)
    · refine g_bipush (pc := 33) C (v := (-4 : Int32)) dX7_line_33 (by decide) ?_
      exact g_iret C dX7_line_35 (pfst h) (psnd h)
  · refine g_iconst (pc := 9) C (v := (-1 : Int32)) dX7_line_9 (by decide) ?_
    exact g_iret C dX7_line_10 (pfst h) (psnd h)
theorem mX7_line (l : Launch) (Z : Sh) {σ : Sg} {v1 : Int32} {u : Sg × Int32}  (h : fX7_line σ v1 = some u) : MI l Z layX yX7_line wsX7_line rX7_line [.ref (ad Z 0), .int v1] σ u.1 u.2 :=
  MI.of (cc := cX7_line) (maxL := 2) (ret := (some .int)) (by decide) rfl (Nat.le_of_ble_eq_true rfl) (fun p e s m below meth c C => kX7_line_e C  h)

def rX7_bribe : Room := { frames := 5, cells := 0, slots := 0, locals := 114 }
theorem uX7_bribe_X4 : ∀ w ∈ wsX40, w ∈ wsX7_bribe := by decide +kernel
theorem uX7_bribe_X7 : ∀ w ∈ wsX70, w ∈ wsX7_bribe := by decide +kernel
def fX7_bribe (σ : Sg) (v1 : Int32) (v2 : Int32) : Option (Sg × Int32) := (fX7_within v1 (0 : Int32) (6 : Int32)).bind fun t1 => if t1 = 0 then some (σ, (-1 : Int32)) else (fX7_within v2 (0 : Int32) (1 : Int32)).bind fun t2 => if t2 = 0 then some (σ, (-1 : Int32)) else (fX4_rank σ 1).bind fun σ3 => if v1 ≤ (σ3 40 1) then (fX4_first σ3 v1).bind fun t4 => (fX2_everyBorough σ3 1).bind fun t5 => (fX2_seatsIn σ3 1 (t5 &&& (t4 ^^^ (-1 : Int32)))).bind fun t6 => (fX2_cheapestMajority σ3 1 t4 t6).bind fun t7 => (fX7_costOrSet σ3 t7 v2).bind fun t8 => some (σ3, t8) else some (σ3, (-4 : Int32))
set_option maxHeartbeats 1000000 in
set_option maxRecDepth 20000 in
theorem kX7_bribe_e {p : Program} {l : Launch} {e : Env} {s : State} {m : MethodId} {args : Array Value} {below : List Frame} {meth : Method} {c : Code} {Z : Sh} (C : Cx p s m args meth c cX7_bribe 5 wsX7_bribe RX7 (some .int) Z layX) {σ : Sg} {v1 : Int32} {v2 : Int32} {u : Sg × Int32}  (h : fX7_bribe σ v1 v2 = some u) : G p l e rX7_bribe s m args below meth c 5 Z layX (MQ below (QI Z layX u.1 u.2 s.heap.size) args s 0 0 (pA Z layX s.heap.size)) σ 0 [(0, .ref (ad Z 0)), (1, .int v1), (2, .int v2)] [] := by
  unfold fX7_bribe at h
  refine g_iload_n (pc := 0) C dX7_bribe_0 rfl 1 rfl ?_
  refine g_iconst (pc := 1) C (v := (0 : Int32)) dX7_bribe_1 (by decide) ?_
  refine g_bipush (pc := 2) C (v := (6 : Int32)) dX7_bribe_2 (by decide) ?_
  obtain ⟨t1, et1, h⟩ := bs h
  refine g_callSi (pc := 4) C (As := [.int v1, .int (0 : Int32), .int (6 : Int32)]) (rest := []) (va_cwS 3 C.2.2.2.2.2.1 gX7_bribe_X7_within rfl rfl rfl (by decide +kernel) ⟨Nat.le_of_ble_eq_true rfl, Nat.le_of_ble_eq_true rfl⟩) (mX7_within l Z  et1) rfl rfl (Nat.le_of_ble_eq_true rfl) dX7_bribe_4 ?_
  refine g_if_eq (pc := 7) C (tgt := 19) dX7_bribe_7 (by decide) h (fun hc7 h => ?_) (fun hc7 h => ?_)
  · refine g_iconst (pc := 19) C (v := (-1 : Int32)) dX7_bribe_19 (by decide) ?_
    exact g_iret C dX7_bribe_20 (pfst h) (psnd h)
  · refine g_iload_n (pc := 10) C dX7_bribe_10 rfl 2 rfl ?_
    refine g_iconst (pc := 11) C (v := (0 : Int32)) dX7_bribe_11 (by decide) ?_
    refine g_iconst (pc := 12) C (v := (1 : Int32)) dX7_bribe_12 (by decide) ?_
    obtain ⟨t2, et2, h⟩ := bs h
    refine g_callSi (pc := 13) C (As := [.int v2, .int (0 : Int32), .int (1 : Int32)]) (rest := []) (va_cwS 3 C.2.2.2.2.2.1 gX7_bribe_X7_within rfl rfl rfl (by decide +kernel) ⟨Nat.le_of_ble_eq_true rfl, Nat.le_of_ble_eq_true rfl⟩) (mX7_within l Z  et2) rfl rfl (Nat.le_of_ble_eq_true rfl) dX7_bribe_13 ?_
    refine g_if_ne (pc := 16) C (tgt := 21) dX7_bribe_16 (by decide) h (fun hc16 h => ?_) (fun hc16 h => ?_)
    · refine g_aload_n (pc := 21) C dX7_bribe_21 rfl 0 rfl ?_
      refine g_getr (pc := 22) C (Cn := RX7) (T := TX7) (N := 11) (ci := 7) (k := 0) (j := 8) uX7_bribe_X7 (by rfl) rfl (by decide) (by decide +kernel) (q := 40) rfl dX7_bribe_22 ?_
      refine g_aload_n (pc := 25) C dX7_bribe_25 rfl 0 rfl ?_
      refine g_getr (pc := 26) C (Cn := RX7) (T := TX7) (N := 11) (ci := 7) (k := 0) (j := 0) uX7_bribe_X7 (by rfl) rfl (by decide) (by decide +kernel) (q := 1) rfl dX7_bribe_26 ?_
      obtain ⟨σ3, eσ3, h⟩ := bs h
      refine g_callVv (pc := 29) C (As := [.ref (ad Z 1)]) (rest := []) (k := 40) (by rfl) (by rfl) (cwV 1 C.2.2.2.2.2.1 gX7_bribe_X4_rank rfl rfl rfl (by decide +kernel) ⟨Nat.le_of_ble_eq_true rfl, Nat.le_of_ble_eq_true rfl⟩) (mX4_rank l Z isR1 eσ3) rfl rfl (Nat.le_of_ble_eq_true rfl) dX7_bribe_29 ?_
      refine g_iload_n (pc := 32) C dX7_bribe_32 rfl 1 rfl ?_
      refine g_aload_n (pc := 33) C dX7_bribe_33 rfl 0 rfl ?_
      refine g_getr (pc := 34) C (Cn := RX7) (T := TX7) (N := 11) (ci := 7) (k := 0) (j := 8) uX7_bribe_X7 (by rfl) rfl (by decide) (by decide +kernel) (q := 40) rfl dX7_bribe_34 ?_
      refine g_getiN (pc := 37) C (host := "MoundVotes") (Cn := RX4) (T := TX4) (N := 2) (ci := 4) (k := 40) (j := 1) uX7_bribe_X4 (by rfl) rfl (by decide) (by decide +kernel) (q := 0) rfl dX7_bribe_37 ?_
      refine g_icmp_le (pc := 40) C (tgt := 46) dX7_bribe_40 (by decide) h (fun hc40 h => ?_) (fun hc40 h => ?_)
      · refine g_aload_n (pc := 46) C dX7_bribe_46 rfl 0 rfl ?_
        refine g_getr (pc := 47) C (Cn := RX7) (T := TX7) (N := 11) (ci := 7) (k := 0) (j := 8) uX7_bribe_X7 (by rfl) rfl (by decide) (by decide +kernel) (q := 40) rfl dX7_bribe_47 ?_
        refine g_iload_n (pc := 50) C dX7_bribe_50 rfl 1 rfl ?_
        obtain ⟨t4, et4, h⟩ := bs h
        refine g_callVi (pc := 51) C (As := [.int v1]) (rest := []) (k := 40) (by rfl) (by rfl) (cwV 1 C.2.2.2.2.2.1 gX7_bribe_X4_first rfl rfl rfl (by decide +kernel) ⟨Nat.le_of_ble_eq_true rfl, Nat.le_of_ble_eq_true rfl⟩) (mX4_first l Z  et4) rfl rfl (Nat.le_of_ble_eq_true rfl) dX7_bribe_51 ?_
        refine g_istore_n (pc := 54) C (lv2 := [(3, .int t4), (0, .ref (ad Z 0)), (1, .int v1), (2, .int v2)]) dX7_bribe_54 rfl (by decide) rfl ?_
        refine g_aload_n (pc := 55) C dX7_bribe_55 rfl 1 rfl ?_
        refine g_getr (pc := 56) C (Cn := RX7) (T := TX7) (N := 11) (ci := 7) (k := 0) (j := 0) uX7_bribe_X7 (by rfl) rfl (by decide) (by decide +kernel) (q := 1) rfl dX7_bribe_56 ?_
        obtain ⟨t5, et5, h⟩ := bs h
        refine g_callVi (pc := 59) C (As := []) (rest := []) (k := 1) (by rfl) (by rfl) (cwV 0 C.2.2.2.2.2.1 gX7_bribe_X2_everyBorough rfl rfl rfl (by decide +kernel) ⟨Nat.le_of_ble_eq_true rfl, Nat.le_of_ble_eq_true rfl⟩) (mX2_everyBorough l Z isR1 et5) rfl rfl (Nat.le_of_ble_eq_true rfl) dX7_bribe_59 ?_
        refine g_iload_n (pc := 62) C dX7_bribe_62 rfl 0 rfl ?_
        refine g_iconst (pc := 63) C (v := (-1 : Int32)) dX7_bribe_63 (by decide) ?_
        refine g_ixor (pc := 64) C dX7_bribe_64 ?_
        refine g_iand (pc := 65) C dX7_bribe_65 ?_
        refine g_istore (pc := 66) C (lv2 := [(4, .int (t5 &&& (t4 ^^^ (-1 : Int32)))), (3, .int t4), (0, .ref (ad Z 0)), (1, .int v1), (2, .int v2)]) dX7_bribe_66 (by decide) rfl ?_
        refine g_aload_n (pc := 68) C dX7_bribe_68 rfl 2 rfl ?_
        refine g_aload_n (pc := 69) C dX7_bribe_69 rfl 2 rfl ?_
        refine g_getr (pc := 70) C (Cn := RX7) (T := TX7) (N := 11) (ci := 7) (k := 0) (j := 0) uX7_bribe_X7 (by rfl) rfl (by decide) (by decide +kernel) (q := 1) rfl dX7_bribe_70 ?_
        refine g_iload_n (pc := 73) C dX7_bribe_73 rfl 1 rfl ?_
        refine g_aload_n (pc := 74) C dX7_bribe_74 rfl 2 rfl ?_
        refine g_getr (pc := 75) C (Cn := RX7) (T := TX7) (N := 11) (ci := 7) (k := 0) (j := 0) uX7_bribe_X7 (by rfl) rfl (by decide) (by decide +kernel) (q := 1) rfl dX7_bribe_75 ?_
        refine g_iload (pc := 78) C dX7_bribe_78 0 rfl ?_
        obtain ⟨t6, et6, h⟩ := bs h
        refine g_callVi (pc := 80) C (As := [.int (t5 &&& (t4 ^^^ (-1 : Int32)))]) (rest := [.int t4, .ref (ad Z 1), .ref (ad Z 0)]) (k := 1) (by rfl) (by rfl) (cwV 1 C.2.2.2.2.2.1 gX7_bribe_X2_seatsIn rfl rfl rfl (by decide +kernel) ⟨Nat.le_of_ble_eq_true rfl, Nat.le_of_ble_eq_true rfl⟩) (mX2_seatsIn l Z isR1 et6) rfl rfl (Nat.le_of_ble_eq_true rfl) dX7_bribe_80 ?_
        obtain ⟨t7, et7, h⟩ := bs h
        refine g_callVi (pc := 83) C (As := [.int t4, .int t6]) (rest := [.ref (ad Z 0)]) (k := 1) (by rfl) (by rfl) (cwV 2 C.2.2.2.2.2.1 gX7_bribe_X2_cheapestMajority rfl rfl rfl (by decide +kernel) ⟨Nat.le_of_ble_eq_true rfl, Nat.le_of_ble_eq_true rfl⟩) (mX2_cheapestMajority l Z isR1 et7) rfl rfl (Nat.le_of_ble_eq_true rfl) dX7_bribe_83 ?_
        refine g_iload_n (pc := 86) C dX7_bribe_86 rfl 4 rfl ?_
        obtain ⟨t8, et8, h⟩ := bs h
        refine g_callVi (pc := 87) C (As := [.int t7, .int v2]) (rest := []) (k := 0) (by rfl) (by rfl) (cwV 2 C.2.2.2.2.2.1 gX7_bribe_X7_costOrSet rfl rfl rfl (by decide +kernel) ⟨Nat.le_of_ble_eq_true rfl, Nat.le_of_ble_eq_true rfl⟩) (mX7_costOrSet l Z  et8) rfl rfl (Nat.le_of_ble_eq_true rfl) dX7_bribe_87 ?_
        exact g_iret C dX7_bribe_90 (pfst h) (psnd h)
      · refine g_bipush (pc := 43) C (v := (-4 : Int32)) dX7_bribe_43 (by decide) ?_
        exact g_iret C dX7_bribe_45 (pfst h) (psnd h)
    · refine g_iconst (pc := 19) C (v := (-1 : Int32)) dX7_bribe_19 (by decide) ?_
      exact g_iret C dX7_bribe_20 (pfst h) (psnd h)
theorem mX7_bribe (l : Launch) (Z : Sh) {σ : Sg} {v1 : Int32} {v2 : Int32} {u : Sg × Int32}  (h : fX7_bribe σ v1 v2 = some u) : MI l Z layX yX7_bribe wsX7_bribe rX7_bribe [.ref (ad Z 0), .int v1, .int v2] σ u.1 u.2 :=
  MI.of (cc := cX7_bribe) (maxL := 5) (ret := (some .int)) (by decide) rfl (Nat.le_of_ble_eq_true rfl) (fun p e s m below meth c C => kX7_bribe_e C  h)

def rX7_power : Room := { frames := 0, cells := 0, slots := 0, locals := 0 }
def fX7_power_l5 (v0 : Int32) (v1 : Int32)  : Nat → Int64 → Int32 → Option (Int64)
  | 0, _, _ => none
  | n + 1, v2, v4 => if v1 ≤ v4 then some v2 else fX7_power_l5 v0 v1 n (v2 * v0.toInt64) (v4 + 1)
def fX7_power (v0 : Int32) (v1 : Int32) : Option (Int64) := fX7_power_l5 v0 v1 2000 (1 : Int64) (0 : Int32)
set_option maxHeartbeats 1000000 in
set_option maxRecDepth 20000 in
theorem kX7_power_l5 {p : Program} {l : Launch} {e : Env} {s : State} {m : MethodId} {args : Array Value} {below : List Frame} {meth : Method} {c : Code} {Z : Sh} (C : Cx p s m args meth c cX7_power 5 wsX7_power RX7 (some .long) Z layX) {σ : Sg} {v0 : Int32} {v1 : Int32} {u : Int64}   : ∀ (n : Nat) (v2 : Int64) (v4 : Int32), fX7_power_l5 v0 v1 n v2 v4 = some u → G p l e rX7_power s m args below meth c 5 Z layX (MQ below (QL Z layX σ u s.heap.size) args s 0 0 (pA Z layX s.heap.size)) σ 5 [(0, .int v0), (1, .int v1), (2, .long v2), (4, .int v4)] [] := by
  intro n
  induction n with
  | zero => intro v2 v4 h; exact absurd h (by simp [fX7_power_l5])
  | succ n ih =>
    intro v2 v4 h
    rw [fX7_power_l5] at h
    refine g_iload (pc := 5) C dX7_power_5 3 rfl ?_
    refine g_iload_n (pc := 7) C dX7_power_7 rfl 1 rfl ?_
    refine g_icmp_ge (pc := 8) C (tgt := 22) dX7_power_8 (by decide) h (fun hc8 h => ?_) (fun hc8 h => ?_)
    · refine g_lload_n (pc := 22) C dX7_power_22 rfl 2 rfl ?_
      exact g_lret C dX7_power_23 rfl (Option.some.inj h)
    · refine g_lload_n (pc := 11) C dX7_power_11 rfl 2 rfl ?_
      refine g_iload_n (pc := 12) C dX7_power_12 rfl 0 rfl ?_
      refine g_i2l (pc := 13) C dX7_power_13 ?_
      refine g_lmul (pc := 14) C dX7_power_14 ?_
      refine g_lstore_n (pc := 15) C (lv2 := [(2, .long (v2 * v0.toInt64)), (0, .int v0), (1, .int v1), (4, .int v4)]) dX7_power_15 rfl (by decide) rfl ?_
      refine g_iinc (pc := 16) C (j := 3) (v := (v4 + 1)) (lv2 := [(4, .int (v4 + 1)), (2, .long (v2 * v0.toInt64)), (0, .int v0), (1, .int v1)]) dX7_power_16 rfl rfl (by decide) rfl ?_
      refine g_goto (pc := 19) C (tgt := 5) dX7_power_19 (by decide) ?_
      exact g_sub [2, 3, 1, 0] rfl (ih _ _ h)
set_option maxHeartbeats 1000000 in
set_option maxRecDepth 20000 in
theorem kX7_power_e {p : Program} {l : Launch} {e : Env} {s : State} {m : MethodId} {args : Array Value} {below : List Frame} {meth : Method} {c : Code} {Z : Sh} (C : Cx p s m args meth c cX7_power 5 wsX7_power RX7 (some .long) Z layX) {σ : Sg} {v0 : Int32} {v1 : Int32} {u : Int64}  (h : fX7_power v0 v1 = some u) : G p l e rX7_power s m args below meth c 5 Z layX (MQ below (QL Z layX σ u s.heap.size) args s 0 0 (pA Z layX s.heap.size)) σ 0 [(0, .int v0), (1, .int v1)] [] := by
  unfold fX7_power at h
  refine g_lconst (pc := 0) C (v := (1 : Int64)) dX7_power_0 (by decide) ?_
  refine g_lstore_n (pc := 1) C (lv2 := [(2, .long (1 : Int64)), (0, .int v0), (1, .int v1)]) dX7_power_1 rfl (by decide) rfl ?_
  refine g_iconst (pc := 2) C (v := (0 : Int32)) dX7_power_2 (by decide) ?_
  refine g_istore (pc := 3) C (lv2 := [(4, .int (0 : Int32)), (2, .long (1 : Int64)), (0, .int v0), (1, .int v1)]) dX7_power_3 (by decide) rfl ?_
  exact g_sub [2, 3, 1, 0] rfl (kX7_power_l5 C   _ _ _ h)
theorem mX7_power (l : Launch) (Z : Sh) {σ : Sg} {v0 : Int32} {v1 : Int32} {u : Int64}  (h : fX7_power v0 v1 = some u) : ML l Z layX yX7_power wsX7_power rX7_power [.int v0, .int v1] σ σ u :=
  ML.of (cc := cX7_power) (maxL := 5) (ret := (some .long)) (by decide) rfl (Nat.le_of_ble_eq_true rfl) (fun p e s m below meth c C => kX7_power_e C  h)

def rX7_luck : Room := { frames := 2, cells := 0, slots := 0, locals := 56 }
theorem uX7_luck_X2 : ∀ w ∈ wsX20, w ∈ wsX7_luck := by decide +kernel
theorem uX7_luck_X7 : ∀ w ∈ wsX70, w ∈ wsX7_luck := by decide +kernel
def fX7_luck_l59 (σ : Sg) (v1 : Int32) (v2 : Int32) (v3 : Int32)  : Nat → Int32 → Int32 → Int64 → Int32 → Option (Int64)
  | 0, _, _, _, _ => none
  | n + 1, v4, v5, v6, v8 => if v4 < v8 then (fX7_power (10 : Int32) (σ 1 1)).bind fun t1 => (fX7_fraction v6 t1 v3).bind fun t2 => some t2 else (fX2_seatsIn σ 1 (v8 &&& v5)).bind fun t3 => (fX2_seatsIn σ 1 v8).bind fun t4 => if ((2 : Int32) * t3) ≤ t4 then fX7_luck_l59 σ v1 v2 v3 n v4 v5 v6 (v8 + 1) else (fJ6_bitCount_0f7a4 v8).bind fun t5 => (fX7_power ((10 : Int32) - v1) t5).bind fun t6 => (fX7_power v1 ((σ 1 1) - t5)).bind fun t7 => fX7_luck_l59 σ v1 v2 v3 n v4 v5 (v6 + (t6 * t7)) (v8 + 1)
def fX7_luck (σ : Sg) (v1 : Int32) (v2 : Int32) (v3 : Int32) : Option (Int64) := (fX7_within v1 (0 : Int32) (10 : Int32)).bind fun t1 => if t1 = 0 then some (-1 : Int64) else (fX2_hasLords σ 1 v2).bind fun t2 => if t2 = 0 then some (-1 : Int64) else (fX7_within v3 (0 : Int32) (1 : Int32)).bind fun t3 => if t3 = 0 then some (-1 : Int64) else (fX2_everyBorough σ 1).bind fun t4 => (fX2_heldBy σ 1 v2).bind fun t5 => fX7_luck_l59 σ v1 v2 v3 2000 t4 t5 (0 : Int64) (0 : Int32)
set_option maxHeartbeats 1000000 in
set_option maxRecDepth 20000 in
theorem kX7_luck_l59 {p : Program} {l : Launch} {e : Env} {s : State} {m : MethodId} {args : Array Value} {below : List Frame} {meth : Method} {c : Code} {Z : Sh} (C : Cx p s m args meth c cX7_luck 10 wsX7_luck RX7 (some .long) Z layX) {σ : Sg} {v1 : Int32} {v2 : Int32} {v3 : Int32} {u : Int64}   : ∀ (n : Nat) (v4 : Int32) (v5 : Int32) (v6 : Int64) (v8 : Int32), fX7_luck_l59 σ v1 v2 v3 n v4 v5 v6 v8 = some u → G p l e rX7_luck s m args below meth c 10 Z layX (MQ below (QL Z layX σ u s.heap.size) args s 0 0 (pA Z layX s.heap.size)) σ 59 [(0, .ref (ad Z 0)), (1, .int v1), (3, .int v3), (4, .int v4), (5, .int v5), (6, .long v6), (8, .int v8)] [] := by
  intro n
  induction n with
  | zero => intro v4 v5 v6 v8 h; exact absurd h (by simp [fX7_luck_l59])
  | succ n ih =>
    intro v4 v5 v6 v8 h
    rw [fX7_luck_l59] at h
    refine g_iload (pc := 59) C dX7_luck_59 6 rfl ?_
    refine g_iload (pc := 61) C dX7_luck_61 3 rfl ?_
    refine g_icmp_gt (pc := 63) C (tgt := 134) dX7_luck_63 (by decide) h (fun hc63 h => ?_) (fun hc63 h => ?_)
    · refine g_lload (pc := 134) C dX7_luck_134 5 rfl ?_
      refine g_bipush (pc := 136) C (v := (10 : Int32)) dX7_luck_136 (by decide) ?_
      refine g_aload_n (pc := 138) C dX7_luck_138 rfl 0 rfl ?_
      refine g_getr (pc := 139) C (Cn := RX7) (T := TX7) (N := 11) (ci := 7) (k := 0) (j := 0) uX7_luck_X7 (by rfl) rfl (by decide) (by decide +kernel) (q := 1) rfl dX7_luck_139 ?_
      refine g_getiN (pc := 142) C (host := "MoundVotes") (Cn := RX2) (T := TX2) (N := 8) (ci := 2) (k := 1) (j := 1) uX7_luck_X2 (by rfl) rfl (by decide) (by decide +kernel) (q := 0) rfl dX7_luck_142 ?_
      obtain ⟨t1, et1, h⟩ := bs h
      refine g_callSl (pc := 145) C (As := [.int (10 : Int32), .int (σ 1 1)]) (rest := [.long v6]) (va_cwS 2 C.2.2.2.2.2.1 gX7_luck_X7_power rfl rfl rfl (by decide +kernel) ⟨Nat.le_of_ble_eq_true rfl, Nat.le_of_ble_eq_true rfl⟩) (mX7_power l Z  et1) rfl rfl (Nat.le_of_ble_eq_true rfl) dX7_luck_145 ?_
      refine g_iload_n (pc := 148) C dX7_luck_148 rfl 2 rfl ?_
      obtain ⟨t2, et2, h⟩ := bs h
      refine g_callSl (pc := 149) C (As := [.long v6, .long t1, .int v3]) (rest := []) (va_cwS 3 C.2.2.2.2.2.1 gX7_luck_X7_fraction rfl rfl rfl (by decide +kernel) ⟨Nat.le_of_ble_eq_true rfl, Nat.le_of_ble_eq_true rfl⟩) (mX7_fraction l Z  et2) rfl rfl (Nat.le_of_ble_eq_true rfl) dX7_luck_149 ?_
      exact g_lret C dX7_luck_152 rfl (Option.some.inj h)
    · refine g_iconst (pc := 66) C (v := (2 : Int32)) dX7_luck_66 (by decide) ?_
      refine g_aload_n (pc := 67) C dX7_luck_67 rfl 0 rfl ?_
      refine g_getr (pc := 68) C (Cn := RX7) (T := TX7) (N := 11) (ci := 7) (k := 0) (j := 0) uX7_luck_X7 (by rfl) rfl (by decide) (by decide +kernel) (q := 1) rfl dX7_luck_68 ?_
      refine g_iload (pc := 71) C dX7_luck_71 6 rfl ?_
      refine g_iload (pc := 73) C dX7_luck_73 4 rfl ?_
      refine g_iand (pc := 75) C dX7_luck_75 ?_
      obtain ⟨t3, et3, h⟩ := bs h
      refine g_callVi (pc := 76) C (As := [.int (v8 &&& v5)]) (rest := [.int (2 : Int32)]) (k := 1) (by rfl) (by rfl) (cwV 1 C.2.2.2.2.2.1 gX7_luck_X2_seatsIn rfl rfl rfl (by decide +kernel) ⟨Nat.le_of_ble_eq_true rfl, Nat.le_of_ble_eq_true rfl⟩) (mX2_seatsIn l Z isR1 et3) rfl rfl (Nat.le_of_ble_eq_true rfl) dX7_luck_76 ?_
      refine g_imul (pc := 79) C dX7_luck_79 ?_
      refine g_aload_n (pc := 80) C dX7_luck_80 rfl 0 rfl ?_
      refine g_getr (pc := 81) C (Cn := RX7) (T := TX7) (N := 11) (ci := 7) (k := 0) (j := 0) uX7_luck_X7 (by rfl) rfl (by decide) (by decide +kernel) (q := 1) rfl dX7_luck_81 ?_
      refine g_iload (pc := 84) C dX7_luck_84 6 rfl ?_
      obtain ⟨t4, et4, h⟩ := bs h
      refine g_callVi (pc := 86) C (As := [.int v8]) (rest := [.int ((2 : Int32) * t3)]) (k := 1) (by rfl) (by rfl) (cwV 1 C.2.2.2.2.2.1 gX7_luck_X2_seatsIn rfl rfl rfl (by decide +kernel) ⟨Nat.le_of_ble_eq_true rfl, Nat.le_of_ble_eq_true rfl⟩) (mX2_seatsIn l Z isR1 et4) rfl rfl (Nat.le_of_ble_eq_true rfl) dX7_luck_86 ?_
      refine g_icmp_le (pc := 89) C (tgt := 128) dX7_luck_89 (by decide) h (fun hc89 h => ?_) (fun hc89 h => ?_)
      · refine g_iinc (pc := 128) C (j := 6) (v := (v8 + 1)) (lv2 := [(8, .int (v8 + 1)), (0, .ref (ad Z 0)), (1, .int v1), (3, .int v3), (4, .int v4), (5, .int v5), (6, .long v6)]) dX7_luck_128 rfl rfl (by decide) rfl ?_
        refine g_goto (pc := 131) C (tgt := 59) dX7_luck_131 (by decide) ?_
        exact g_sub [1, 2, 3, 4, 5, 6, 0] rfl (ih _ _ _ _ h)
      · refine g_iload (pc := 92) C dX7_luck_92 6 rfl ?_
        obtain ⟨t5, et5, h⟩ := bs h
        refine g_callSi (pc := 94) C (As := [.int v8]) (rest := []) (va_cwS 1 C.2.2.2.2.2.1 gX7_luck_J6_bitCount_0f7a4 rfl rfl rfl (by decide +kernel) ⟨Nat.le_of_ble_eq_true rfl, Nat.le_of_ble_eq_true rfl⟩) (mJ6_bitCount_0f7a4 l Z  et5) rfl rfl (Nat.le_of_ble_eq_true rfl) dX7_luck_94 ?_
        refine g_istore (pc := 97) C (lv2 := [(9, .int t5), (0, .ref (ad Z 0)), (1, .int v1), (3, .int v3), (4, .int v4), (5, .int v5), (6, .long v6), (8, .int v8)]) dX7_luck_97 (by decide) rfl ?_
        refine g_lload (pc := 99) C dX7_luck_99 6 rfl ?_
        refine g_bipush (pc := 101) C (v := (10 : Int32)) dX7_luck_101 (by decide) ?_
        refine g_iload_n (pc := 103) C dX7_luck_103 rfl 2 rfl ?_
        refine g_isub (pc := 104) C dX7_luck_104 ?_
        refine g_iload (pc := 105) C dX7_luck_105 0 rfl ?_
        obtain ⟨t6, et6, h⟩ := bs h
        refine g_callSl (pc := 107) C (As := [.int ((10 : Int32) - v1), .int t5]) (rest := [.long v6]) (va_cwS 2 C.2.2.2.2.2.1 gX7_luck_X7_power rfl rfl rfl (by decide +kernel) ⟨Nat.le_of_ble_eq_true rfl, Nat.le_of_ble_eq_true rfl⟩) (mX7_power l Z  et6) rfl rfl (Nat.le_of_ble_eq_true rfl) dX7_luck_107 ?_
        refine g_iload_n (pc := 110) C dX7_luck_110 rfl 2 rfl ?_
        refine g_aload_n (pc := 111) C dX7_luck_111 rfl 1 rfl ?_
        refine g_getr (pc := 112) C (Cn := RX7) (T := TX7) (N := 11) (ci := 7) (k := 0) (j := 0) uX7_luck_X7 (by rfl) rfl (by decide) (by decide +kernel) (q := 1) rfl dX7_luck_112 ?_
        refine g_getiN (pc := 115) C (host := "MoundVotes") (Cn := RX2) (T := TX2) (N := 8) (ci := 2) (k := 1) (j := 1) uX7_luck_X2 (by rfl) rfl (by decide) (by decide +kernel) (q := 0) rfl dX7_luck_115 ?_
        refine g_iload (pc := 118) C dX7_luck_118 0 rfl ?_
        refine g_isub (pc := 120) C dX7_luck_120 ?_
        obtain ⟨t7, et7, h⟩ := bs h
        refine g_callSl (pc := 121) C (As := [.int v1, .int ((σ 1 1) - t5)]) (rest := [.long t6, .long v6]) (va_cwS 2 C.2.2.2.2.2.1 gX7_luck_X7_power rfl rfl rfl (by decide +kernel) ⟨Nat.le_of_ble_eq_true rfl, Nat.le_of_ble_eq_true rfl⟩) (mX7_power l Z  et7) rfl rfl (Nat.le_of_ble_eq_true rfl) dX7_luck_121 ?_
        refine g_lmul (pc := 124) C dX7_luck_124 ?_
        refine g_ladd (pc := 125) C dX7_luck_125 ?_
        refine g_lstore (pc := 126) C (lv2 := [(6, .long (v6 + (t6 * t7))), (9, .int t5), (0, .ref (ad Z 0)), (1, .int v1), (3, .int v3), (4, .int v4), (5, .int v5), (8, .int v8)]) dX7_luck_126 (by decide) rfl ?_
        refine g_iinc (pc := 128) C (j := 7) (v := (v8 + 1)) (lv2 := [(8, .int (v8 + 1)), (6, .long (v6 + (t6 * t7))), (9, .int t5), (0, .ref (ad Z 0)), (1, .int v1), (3, .int v3), (4, .int v4), (5, .int v5)]) dX7_luck_128 rfl rfl (by decide) rfl ?_
        refine g_goto (pc := 131) C (tgt := 59) dX7_luck_131 (by decide) ?_
        exact g_sub [3, 4, 5, 6, 7, 1, 0] rfl (ih _ _ _ _ h)
set_option maxHeartbeats 1000000 in
set_option maxRecDepth 20000 in
theorem kX7_luck_e {p : Program} {l : Launch} {e : Env} {s : State} {m : MethodId} {args : Array Value} {below : List Frame} {meth : Method} {c : Code} {Z : Sh} (C : Cx p s m args meth c cX7_luck 10 wsX7_luck RX7 (some .long) Z layX) {σ : Sg} {v1 : Int32} {v2 : Int32} {v3 : Int32} {u : Int64}  (h : fX7_luck σ v1 v2 v3 = some u) : G p l e rX7_luck s m args below meth c 10 Z layX (MQ below (QL Z layX σ u s.heap.size) args s 0 0 (pA Z layX s.heap.size)) σ 0 [(0, .ref (ad Z 0)), (1, .int v1), (2, .int v2), (3, .int v3)] [] := by
  unfold fX7_luck at h
  refine g_iload_n (pc := 0) C dX7_luck_0 rfl 1 rfl ?_
  refine g_iconst (pc := 1) C (v := (0 : Int32)) dX7_luck_1 (by decide) ?_
  refine g_bipush (pc := 2) C (v := (10 : Int32)) dX7_luck_2 (by decide) ?_
  obtain ⟨t1, et1, h⟩ := bs h
  refine g_callSi (pc := 4) C (As := [.int v1, .int (0 : Int32), .int (10 : Int32)]) (rest := []) (va_cwS 3 C.2.2.2.2.2.1 gX7_luck_X7_within rfl rfl rfl (by decide +kernel) ⟨Nat.le_of_ble_eq_true rfl, Nat.le_of_ble_eq_true rfl⟩) (mX7_within l Z  et1) rfl rfl (Nat.le_of_ble_eq_true rfl) dX7_luck_4 ?_
  refine g_if_eq (pc := 7) C (tgt := 30) dX7_luck_7 (by decide) h (fun hc7 h => ?_) (fun hc7 h => ?_)
  · refine g_ldc2 (pc := 30) C (v := (-1 : Int64)) (by decide +kernel) dX7_luck_30 ?_
    exact g_lret C dX7_luck_33 rfl (Option.some.inj h)
  · refine g_aload_n (pc := 10) C dX7_luck_10 rfl 0 rfl ?_
    refine g_getr (pc := 11) C (Cn := RX7) (T := TX7) (N := 11) (ci := 7) (k := 0) (j := 0) uX7_luck_X7 (by rfl) rfl (by decide) (by decide +kernel) (q := 1) rfl dX7_luck_11 ?_
    refine g_iload_n (pc := 14) C dX7_luck_14 rfl 2 rfl ?_
    obtain ⟨t2, et2, h⟩ := bs h
    refine g_callVi (pc := 15) C (As := [.int v2]) (rest := []) (k := 1) (by rfl) (by rfl) (cwV 1 C.2.2.2.2.2.1 gX7_luck_X2_hasLords rfl rfl rfl (by decide +kernel) ⟨Nat.le_of_ble_eq_true rfl, Nat.le_of_ble_eq_true rfl⟩) (mX2_hasLords l Z isR1 et2) rfl rfl (Nat.le_of_ble_eq_true rfl) dX7_luck_15 ?_
    refine g_if_eq (pc := 18) C (tgt := 30) dX7_luck_18 (by decide) h (fun hc18 h => ?_) (fun hc18 h => ?_)
    · refine g_ldc2 (pc := 30) C (v := (-1 : Int64)) (by decide +kernel) dX7_luck_30 ?_
      exact g_lret C dX7_luck_33 rfl (Option.some.inj h)
    · refine g_iload_n (pc := 21) C dX7_luck_21 rfl 3 rfl ?_
      refine g_iconst (pc := 22) C (v := (0 : Int32)) dX7_luck_22 (by decide) ?_
      refine g_iconst (pc := 23) C (v := (1 : Int32)) dX7_luck_23 (by decide) ?_
      obtain ⟨t3, et3, h⟩ := bs h
      refine g_callSi (pc := 24) C (As := [.int v3, .int (0 : Int32), .int (1 : Int32)]) (rest := []) (va_cwS 3 C.2.2.2.2.2.1 gX7_luck_X7_within rfl rfl rfl (by decide +kernel) ⟨Nat.le_of_ble_eq_true rfl, Nat.le_of_ble_eq_true rfl⟩) (mX7_within l Z  et3) rfl rfl (Nat.le_of_ble_eq_true rfl) dX7_luck_24 ?_
      refine g_if_ne (pc := 27) C (tgt := 34) dX7_luck_27 (by decide) h (fun hc27 h => ?_) (fun hc27 h => ?_)
      · refine g_aload_n (pc := 34) C dX7_luck_34 rfl 0 rfl ?_
        refine g_getr (pc := 35) C (Cn := RX7) (T := TX7) (N := 11) (ci := 7) (k := 0) (j := 0) uX7_luck_X7 (by rfl) rfl (by decide) (by decide +kernel) (q := 1) rfl dX7_luck_35 ?_
        obtain ⟨t4, et4, h⟩ := bs h
        refine g_callVi (pc := 38) C (As := []) (rest := []) (k := 1) (by rfl) (by rfl) (cwV 0 C.2.2.2.2.2.1 gX7_luck_X2_everyBorough rfl rfl rfl (by decide +kernel) ⟨Nat.le_of_ble_eq_true rfl, Nat.le_of_ble_eq_true rfl⟩) (mX2_everyBorough l Z isR1 et4) rfl rfl (Nat.le_of_ble_eq_true rfl) dX7_luck_38 ?_
        refine g_istore (pc := 41) C (lv2 := [(4, .int t4), (0, .ref (ad Z 0)), (1, .int v1), (2, .int v2), (3, .int v3)]) dX7_luck_41 (by decide) rfl ?_
        refine g_aload_n (pc := 43) C dX7_luck_43 rfl 1 rfl ?_
        refine g_getr (pc := 44) C (Cn := RX7) (T := TX7) (N := 11) (ci := 7) (k := 0) (j := 0) uX7_luck_X7 (by rfl) rfl (by decide) (by decide +kernel) (q := 1) rfl dX7_luck_44 ?_
        refine g_iload_n (pc := 47) C dX7_luck_47 rfl 3 rfl ?_
        obtain ⟨t5, et5, h⟩ := bs h
        refine g_callVi (pc := 48) C (As := [.int v2]) (rest := []) (k := 1) (by rfl) (by rfl) (cwV 1 C.2.2.2.2.2.1 gX7_luck_X2_heldBy rfl rfl rfl (by decide +kernel) ⟨Nat.le_of_ble_eq_true rfl, Nat.le_of_ble_eq_true rfl⟩) (mX2_heldBy l Z isR1 et5) rfl rfl (Nat.le_of_ble_eq_true rfl) dX7_luck_48 ?_
        refine g_istore (pc := 51) C (lv2 := [(5, .int t5), (4, .int t4), (0, .ref (ad Z 0)), (1, .int v1), (2, .int v2), (3, .int v3)]) dX7_luck_51 (by decide) rfl ?_
        refine g_lconst (pc := 53) C (v := (0 : Int64)) dX7_luck_53 (by decide) ?_
        refine g_lstore (pc := 54) C (lv2 := [(6, .long (0 : Int64)), (5, .int t5), (4, .int t4), (0, .ref (ad Z 0)), (1, .int v1), (2, .int v2), (3, .int v3)]) dX7_luck_54 (by decide) rfl ?_
        refine g_iconst (pc := 56) C (v := (0 : Int32)) dX7_luck_56 (by decide) ?_
        refine g_istore (pc := 57) C (lv2 := [(8, .int (0 : Int32)), (6, .long (0 : Int64)), (5, .int t5), (4, .int t4), (0, .ref (ad Z 0)), (1, .int v1), (2, .int v2), (3, .int v3)]) dX7_luck_57 (by decide) rfl ?_
        exact g_sub [4, 5, 7, 3, 2, 1, 0] rfl (kX7_luck_l59 C   _ _ _ _ _ h)
      · refine g_ldc2 (pc := 30) C (v := (-1 : Int64)) (by decide +kernel) dX7_luck_30 ?_
        exact g_lret C dX7_luck_33 rfl (Option.some.inj h)
theorem mX7_luck (l : Launch) (Z : Sh) {σ : Sg} {v1 : Int32} {v2 : Int32} {v3 : Int32} {u : Int64}  (h : fX7_luck σ v1 v2 v3 = some u) : ML l Z layX yX7_luck wsX7_luck rX7_luck [.ref (ad Z 0), .int v1, .int v2, .int v3] σ σ u :=
  ML.of (cc := cX7_luck) (maxL := 10) (ret := (some .long)) (by decide) rfl (Nat.le_of_ble_eq_true rfl) (fun p e s m below meth c C => kX7_luck_e C  h)

def rX7_mean : Room := { frames := 2, cells := 0, slots := 0, locals := 56 }
theorem uX7_mean_X7 : ∀ w ∈ wsX70, w ∈ wsX7_mean := by decide +kernel
def fX7_mean (σ : Sg) (v1 : Int32) (v2 : Int32) (v3 : Int32) : Option (Int64) := (fX7_within v1 (0 : Int32) (10 : Int32)).bind fun t1 => if t1 = 0 then some (-1 : Int64) else (fX2_hasLords σ 1 v2).bind fun t2 => if t2 = 0 then some (-1 : Int64) else (fX7_within v3 (0 : Int32) (1 : Int32)).bind fun t3 => if t3 = 0 then some (-1 : Int64) else (fX2_heldBy σ 1 v2).bind fun t4 => (fX2_seatsIn σ 1 t4).bind fun t5 => (fX7_fraction ((((10 : Int32) - v1) * t5).toInt64) (10 : Int64) v3).bind fun t6 => some t6
set_option maxHeartbeats 1000000 in
set_option maxRecDepth 20000 in
theorem kX7_mean_e {p : Program} {l : Launch} {e : Env} {s : State} {m : MethodId} {args : Array Value} {below : List Frame} {meth : Method} {c : Code} {Z : Sh} (C : Cx p s m args meth c cX7_mean 4 wsX7_mean RX7 (some .long) Z layX) {σ : Sg} {v1 : Int32} {v2 : Int32} {v3 : Int32} {u : Int64}  (h : fX7_mean σ v1 v2 v3 = some u) : G p l e rX7_mean s m args below meth c 4 Z layX (MQ below (QL Z layX σ u s.heap.size) args s 0 0 (pA Z layX s.heap.size)) σ 0 [(0, .ref (ad Z 0)), (1, .int v1), (2, .int v2), (3, .int v3)] [] := by
  unfold fX7_mean at h
  refine g_iload_n (pc := 0) C dX7_mean_0 rfl 1 rfl ?_
  refine g_iconst (pc := 1) C (v := (0 : Int32)) dX7_mean_1 (by decide) ?_
  refine g_bipush (pc := 2) C (v := (10 : Int32)) dX7_mean_2 (by decide) ?_
  obtain ⟨t1, et1, h⟩ := bs h
  refine g_callSi (pc := 4) C (As := [.int v1, .int (0 : Int32), .int (10 : Int32)]) (rest := []) (va_cwS 3 C.2.2.2.2.2.1 gX7_mean_X7_within rfl rfl rfl (by decide +kernel) ⟨Nat.le_of_ble_eq_true rfl, Nat.le_of_ble_eq_true rfl⟩) (mX7_within l Z  et1) rfl rfl (Nat.le_of_ble_eq_true rfl) dX7_mean_4 ?_
  refine g_if_eq (pc := 7) C (tgt := 30) dX7_mean_7 (by decide) h (fun hc7 h => ?_) (fun hc7 h => ?_)
  · refine g_ldc2 (pc := 30) C (v := (-1 : Int64)) (by decide +kernel) dX7_mean_30 ?_
    exact g_lret C dX7_mean_33 rfl (Option.some.inj h)
  · refine g_aload_n (pc := 10) C dX7_mean_10 rfl 0 rfl ?_
    refine g_getr (pc := 11) C (Cn := RX7) (T := TX7) (N := 11) (ci := 7) (k := 0) (j := 0) uX7_mean_X7 (by rfl) rfl (by decide) (by decide +kernel) (q := 1) rfl dX7_mean_11 ?_
    refine g_iload_n (pc := 14) C dX7_mean_14 rfl 2 rfl ?_
    obtain ⟨t2, et2, h⟩ := bs h
    refine g_callVi (pc := 15) C (As := [.int v2]) (rest := []) (k := 1) (by rfl) (by rfl) (cwV 1 C.2.2.2.2.2.1 gX7_mean_X2_hasLords rfl rfl rfl (by decide +kernel) ⟨Nat.le_of_ble_eq_true rfl, Nat.le_of_ble_eq_true rfl⟩) (mX2_hasLords l Z isR1 et2) rfl rfl (Nat.le_of_ble_eq_true rfl) dX7_mean_15 ?_
    refine g_if_eq (pc := 18) C (tgt := 30) dX7_mean_18 (by decide) h (fun hc18 h => ?_) (fun hc18 h => ?_)
    · refine g_ldc2 (pc := 30) C (v := (-1 : Int64)) (by decide +kernel) dX7_mean_30 ?_
      exact g_lret C dX7_mean_33 rfl (Option.some.inj h)
    · refine g_iload_n (pc := 21) C dX7_mean_21 rfl 3 rfl ?_
      refine g_iconst (pc := 22) C (v := (0 : Int32)) dX7_mean_22 (by decide) ?_
      refine g_iconst (pc := 23) C (v := (1 : Int32)) dX7_mean_23 (by decide) ?_
      obtain ⟨t3, et3, h⟩ := bs h
      refine g_callSi (pc := 24) C (As := [.int v3, .int (0 : Int32), .int (1 : Int32)]) (rest := []) (va_cwS 3 C.2.2.2.2.2.1 gX7_mean_X7_within rfl rfl rfl (by decide +kernel) ⟨Nat.le_of_ble_eq_true rfl, Nat.le_of_ble_eq_true rfl⟩) (mX7_within l Z  et3) rfl rfl (Nat.le_of_ble_eq_true rfl) dX7_mean_24 ?_
      refine g_if_ne (pc := 27) C (tgt := 34) dX7_mean_27 (by decide) h (fun hc27 h => ?_) (fun hc27 h => ?_)
      · refine g_bipush (pc := 34) C (v := (10 : Int32)) dX7_mean_34 (by decide) ?_
        refine g_iload_n (pc := 36) C dX7_mean_36 rfl 1 rfl ?_
        refine g_isub (pc := 37) C dX7_mean_37 ?_
        refine g_aload_n (pc := 38) C dX7_mean_38 rfl 0 rfl ?_
        refine g_getr (pc := 39) C (Cn := RX7) (T := TX7) (N := 11) (ci := 7) (k := 0) (j := 0) uX7_mean_X7 (by rfl) rfl (by decide) (by decide +kernel) (q := 1) rfl dX7_mean_39 ?_
        refine g_aload_n (pc := 42) C dX7_mean_42 rfl 0 rfl ?_
        refine g_getr (pc := 43) C (Cn := RX7) (T := TX7) (N := 11) (ci := 7) (k := 0) (j := 0) uX7_mean_X7 (by rfl) rfl (by decide) (by decide +kernel) (q := 1) rfl dX7_mean_43 ?_
        refine g_iload_n (pc := 46) C dX7_mean_46 rfl 2 rfl ?_
        obtain ⟨t4, et4, h⟩ := bs h
        refine g_callVi (pc := 47) C (As := [.int v2]) (rest := [.ref (ad Z 1), .int ((10 : Int32) - v1)]) (k := 1) (by rfl) (by rfl) (cwV 1 C.2.2.2.2.2.1 gX7_mean_X2_heldBy rfl rfl rfl (by decide +kernel) ⟨Nat.le_of_ble_eq_true rfl, Nat.le_of_ble_eq_true rfl⟩) (mX2_heldBy l Z isR1 et4) rfl rfl (Nat.le_of_ble_eq_true rfl) dX7_mean_47 ?_
        obtain ⟨t5, et5, h⟩ := bs h
        refine g_callVi (pc := 50) C (As := [.int t4]) (rest := [.int ((10 : Int32) - v1)]) (k := 1) (by rfl) (by rfl) (cwV 1 C.2.2.2.2.2.1 gX7_mean_X2_seatsIn rfl rfl rfl (by decide +kernel) ⟨Nat.le_of_ble_eq_true rfl, Nat.le_of_ble_eq_true rfl⟩) (mX2_seatsIn l Z isR1 et5) rfl rfl (Nat.le_of_ble_eq_true rfl) dX7_mean_50 ?_
        refine g_imul (pc := 53) C dX7_mean_53 ?_
        refine g_i2l (pc := 54) C dX7_mean_54 ?_
        refine g_ldc2 (pc := 55) C (v := (10 : Int64)) (by decide +kernel) dX7_mean_55 ?_
        refine g_iload_n (pc := 58) C dX7_mean_58 rfl 3 rfl ?_
        obtain ⟨t6, et6, h⟩ := bs h
        refine g_callSl (pc := 59) C (As := [.long ((((10 : Int32) - v1) * t5).toInt64), .long (10 : Int64), .int v3]) (rest := []) (va_cwS 3 C.2.2.2.2.2.1 gX7_mean_X7_fraction rfl rfl rfl (by decide +kernel) ⟨Nat.le_of_ble_eq_true rfl, Nat.le_of_ble_eq_true rfl⟩) (mX7_fraction l Z  et6) rfl rfl (Nat.le_of_ble_eq_true rfl) dX7_mean_59 ?_
        exact g_lret C dX7_mean_62 rfl (Option.some.inj h)
      · refine g_ldc2 (pc := 30) C (v := (-1 : Int64)) (by decide +kernel) dX7_mean_30 ?_
        exact g_lret C dX7_mean_33 rfl (Option.some.inj h)
theorem mX7_mean (l : Launch) (Z : Sh) {σ : Sg} {v1 : Int32} {v2 : Int32} {v3 : Int32} {u : Int64}  (h : fX7_mean σ v1 v2 v3 = some u) : ML l Z layX yX7_mean wsX7_mean rX7_mean [.ref (ad Z 0), .int v1, .int v2, .int v3] σ σ u :=
  ML.of (cc := cX7_mean) (maxL := 4) (ret := (some .long)) (by decide) rfl (Nat.le_of_ble_eq_true rfl) (fun p e s m below meth c C => kX7_mean_e C  h)

def rX7_see : Room := { frames := 2, cells := 0, slots := 0, locals := 41 }
theorem uX7_see_X6 : ∀ w ∈ wsX60, w ∈ wsX7_see := by decide +kernel
theorem uX7_see_X7 : ∀ w ∈ wsX70, w ∈ wsX7_see := by decide +kernel
def fX7_see (σ : Sg) (v1 : Int32) (v2 : Int32) : Option (Sg × Int32) := (fX2_hasLords σ 1 v1).bind fun t1 => if t1 = 0 then some (σ, (-1 : Int32)) else (fX6_add σ v1 v2).bind fun u2 => if u2.2 = 0 then some (u2.1, (-3 : Int32)) else some (u2.1, (u2.1 37 2))
set_option maxHeartbeats 1000000 in
set_option maxRecDepth 20000 in
theorem kX7_see_e {p : Program} {l : Launch} {e : Env} {s : State} {m : MethodId} {args : Array Value} {below : List Frame} {meth : Method} {c : Code} {Z : Sh} (C : Cx p s m args meth c cX7_see 3 wsX7_see RX7 (some .int) Z layX) {σ : Sg} {v1 : Int32} {v2 : Int32} {u : Sg × Int32}  (h : fX7_see σ v1 v2 = some u) : G p l e rX7_see s m args below meth c 3 Z layX (MQ below (QI Z layX u.1 u.2 s.heap.size) args s 0 0 (pA Z layX s.heap.size)) σ 0 [(0, .ref (ad Z 0)), (1, .int v1), (2, .int v2)] [] := by
  unfold fX7_see at h
  refine g_aload_n (pc := 0) C dX7_see_0 rfl 0 rfl ?_
  refine g_getr (pc := 1) C (Cn := RX7) (T := TX7) (N := 11) (ci := 7) (k := 0) (j := 0) uX7_see_X7 (by rfl) rfl (by decide) (by decide +kernel) (q := 1) rfl dX7_see_1 ?_
  refine g_iload_n (pc := 4) C dX7_see_4 rfl 1 rfl ?_
  obtain ⟨t1, et1, h⟩ := bs h
  refine g_callVi (pc := 5) C (As := [.int v1]) (rest := []) (k := 1) (by rfl) (by rfl) (cwV 1 C.2.2.2.2.2.1 gX7_see_X2_hasLords rfl rfl rfl (by decide +kernel) ⟨Nat.le_of_ble_eq_true rfl, Nat.le_of_ble_eq_true rfl⟩) (mX2_hasLords l Z isR1 et1) rfl rfl (Nat.le_of_ble_eq_true rfl) dX7_see_5 ?_
  refine g_if_ne (pc := 8) C (tgt := 13) dX7_see_8 (by decide) h (fun hc8 h => ?_) (fun hc8 h => ?_)
  · refine g_aload_n (pc := 13) C dX7_see_13 rfl 0 rfl ?_
    refine g_getr (pc := 14) C (Cn := RX7) (T := TX7) (N := 11) (ci := 7) (k := 0) (j := 7) uX7_see_X7 (by rfl) rfl (by decide) (by decide +kernel) (q := 37) rfl dX7_see_14 ?_
    refine g_iload_n (pc := 17) C dX7_see_17 rfl 1 rfl ?_
    refine g_iload_n (pc := 18) C dX7_see_18 rfl 2 rfl ?_
    obtain ⟨u2, eu2, h⟩ := bs h
    refine g_callVi (pc := 19) C (As := [.int v1, .int v2]) (rest := []) (k := 37) (by rfl) (by rfl) (cwV 2 C.2.2.2.2.2.1 gX7_see_X6_add rfl rfl rfl (by decide +kernel) ⟨Nat.le_of_ble_eq_true rfl, Nat.le_of_ble_eq_true rfl⟩) (mX6_add l Z  eu2) rfl rfl (Nat.le_of_ble_eq_true rfl) dX7_see_19 ?_
    refine g_if_eq (pc := 22) C (tgt := 35) dX7_see_22 (by decide) h (fun hc22 h => ?_) (fun hc22 h => ?_)
    · refine g_bipush (pc := 35) C (v := (-3 : Int32)) dX7_see_35 (by decide) ?_
      exact g_iret C dX7_see_37 (pfst h) (psnd h)
    · refine g_aload_n (pc := 25) C dX7_see_25 rfl 0 rfl ?_
      refine g_getr (pc := 26) C (Cn := RX7) (T := TX7) (N := 11) (ci := 7) (k := 0) (j := 7) uX7_see_X7 (by rfl) rfl (by decide) (by decide +kernel) (q := 37) rfl dX7_see_26 ?_
      refine g_getiN (pc := 29) C (host := "MoundVotes") (Cn := RX6) (T := TX6) (N := 3) (ci := 6) (k := 37) (j := 2) uX7_see_X6 (by rfl) rfl (by decide) (by decide +kernel) (q := 0) rfl dX7_see_29 ?_
      refine g_goto (pc := 32) C (tgt := 37) dX7_see_32 (by decide) ?_
      exact g_iret C dX7_see_37 (pfst h) (psnd h)
  · refine g_iconst (pc := 11) C (v := (-1 : Int32)) dX7_see_11 (by decide) ?_
    exact g_iret C dX7_see_12 (pfst h) (psnd h)
theorem mX7_see (l : Launch) (Z : Sh) {σ : Sg} {v1 : Int32} {v2 : Int32} {u : Sg × Int32}  (h : fX7_see σ v1 v2 = some u) : MI l Z layX yX7_see wsX7_see rX7_see [.ref (ad Z 0), .int v1, .int v2] σ u.1 u.2 :=
  MI.of (cc := cX7_see) (maxL := 3) (ret := (some .int)) (by decide) rfl (Nat.le_of_ble_eq_true rfl) (fun p e s m below meth c C => kX7_see_e C  h)

def rX7_forget : Room := { frames := 1, cells := 0, slots := 0, locals := 22 }
theorem uX7_forget_X6 : ∀ w ∈ wsX60, w ∈ wsX7_forget := by decide +kernel
theorem uX7_forget_X7 : ∀ w ∈ wsX70, w ∈ wsX7_forget := by decide +kernel
def fX7_forget (σ : Sg) (v1 : Int32) : Option (Sg × Int32) := (fX7_within v1 (0 : Int32) (σ 37 2)).bind fun t1 => if t1 = 0 then some (σ, (-1 : Int32)) else (pf σ 37 2 v1).bind fun σ2 => some (σ2, (σ 37 2))
set_option maxHeartbeats 1000000 in
set_option maxRecDepth 20000 in
theorem kX7_forget_e {p : Program} {l : Launch} {e : Env} {s : State} {m : MethodId} {args : Array Value} {below : List Frame} {meth : Method} {c : Code} {Z : Sh} (C : Cx p s m args meth c cX7_forget 3 wsX7_forget RX7 (some .int) Z layX) {σ : Sg} {v1 : Int32} {u : Sg × Int32}  (h : fX7_forget σ v1 = some u) : G p l e rX7_forget s m args below meth c 3 Z layX (MQ below (QI Z layX u.1 u.2 s.heap.size) args s 0 0 (pA Z layX s.heap.size)) σ 0 [(0, .ref (ad Z 0)), (1, .int v1)] [] := by
  unfold fX7_forget at h
  refine g_iload_n (pc := 0) C dX7_forget_0 rfl 1 rfl ?_
  refine g_iconst (pc := 1) C (v := (0 : Int32)) dX7_forget_1 (by decide) ?_
  refine g_aload_n (pc := 2) C dX7_forget_2 rfl 0 rfl ?_
  refine g_getr (pc := 3) C (Cn := RX7) (T := TX7) (N := 11) (ci := 7) (k := 0) (j := 7) uX7_forget_X7 (by rfl) rfl (by decide) (by decide +kernel) (q := 37) rfl dX7_forget_3 ?_
  refine g_getiN (pc := 6) C (host := "MoundVotes") (Cn := RX6) (T := TX6) (N := 3) (ci := 6) (k := 37) (j := 2) uX7_forget_X6 (by rfl) rfl (by decide) (by decide +kernel) (q := 0) rfl dX7_forget_6 ?_
  obtain ⟨t1, et1, h⟩ := bs h
  refine g_callSi (pc := 9) C (As := [.int v1, .int (0 : Int32), .int (σ 37 2)]) (rest := []) (va_cwS 3 C.2.2.2.2.2.1 gX7_forget_X7_within rfl rfl rfl (by decide +kernel) ⟨Nat.le_of_ble_eq_true rfl, Nat.le_of_ble_eq_true rfl⟩) (mX7_within l Z  et1) rfl rfl (Nat.le_of_ble_eq_true rfl) dX7_forget_9 ?_
  refine g_if_ne (pc := 12) C (tgt := 17) dX7_forget_12 (by decide) h (fun hc12 h => ?_) (fun hc12 h => ?_)
  · refine g_aload_n (pc := 17) C dX7_forget_17 rfl 0 rfl ?_
    refine g_getr (pc := 18) C (Cn := RX7) (T := TX7) (N := 11) (ci := 7) (k := 0) (j := 7) uX7_forget_X7 (by rfl) rfl (by decide) (by decide +kernel) (q := 37) rfl dX7_forget_18 ?_
    refine g_getiN (pc := 21) C (host := "MoundVotes") (Cn := RX6) (T := TX6) (N := 3) (ci := 6) (k := 37) (j := 2) uX7_forget_X6 (by rfl) rfl (by decide) (by decide +kernel) (q := 0) rfl dX7_forget_21 ?_
    refine g_istore_n (pc := 24) C (lv2 := [(2, .int (σ 37 2)), (0, .ref (ad Z 0)), (1, .int v1)]) dX7_forget_24 rfl (by decide) rfl ?_
    refine g_aload_n (pc := 25) C dX7_forget_25 rfl 1 rfl ?_
    refine g_getr (pc := 26) C (Cn := RX7) (T := TX7) (N := 11) (ci := 7) (k := 0) (j := 7) uX7_forget_X7 (by rfl) rfl (by decide) (by decide +kernel) (q := 37) rfl dX7_forget_26 ?_
    refine g_iload_n (pc := 29) C dX7_forget_29 rfl 2 rfl ?_
    obtain ⟨σ2, eσ2, h⟩ := bs h
    refine g_putiN (pc := 30) C (host := "MoundVotes") (Cn := RX6) (T := TX6) (N := 3) (ci := 6) (k := 37) (j := 2) uX7_forget_X6 (by rfl) rfl (by decide) (by decide +kernel) tyX6 tyX6_ok nmX6 rfl (by decide +kernel) rfl eσ2 dX7_forget_30 ?_
    refine g_iload_n (pc := 33) C dX7_forget_33 rfl 0 rfl ?_
    exact g_iret C dX7_forget_34 (pfst h) (psnd h)
  · refine g_iconst (pc := 15) C (v := (-1 : Int32)) dX7_forget_15 (by decide) ?_
    exact g_iret C dX7_forget_16 (pfst h) (psnd h)
theorem mX7_forget (l : Launch) (Z : Sh) {σ : Sg} {v1 : Int32} {u : Sg × Int32}  (h : fX7_forget σ v1 = some u) : MI l Z layX yX7_forget wsX7_forget rX7_forget [.ref (ad Z 0), .int v1] σ u.1 u.2 :=
  MI.of (cc := cX7_forget) (maxL := 3) (ret := (some .int)) (by decide) rfl (Nat.le_of_ble_eq_true rfl) (fun p e s m below meth c C => kX7_forget_e C  h)

def rX7_isCandidate : Room := { frames := 1, cells := 0, slots := 0, locals := 21 }
theorem uX7_isCandidate_X7 : ∀ w ∈ wsX70, w ∈ wsX7_isCandidate := by decide +kernel
def fX7_isCandidate (σ : Sg) (v1 : Int32) : Option (Int32) := (fX2_hasLord σ 1 v1).bind fun t1 => if t1 = 0 then if ((1 : Int32) <<< (v1 &&& 31)) = (16 : Int32) then some (1 : Int32) else some (0 : Int32) else some (1 : Int32)
set_option maxHeartbeats 1000000 in
set_option maxRecDepth 20000 in
theorem kX7_isCandidate_e {p : Program} {l : Launch} {e : Env} {s : State} {m : MethodId} {args : Array Value} {below : List Frame} {meth : Method} {c : Code} {Z : Sh} (C : Cx p s m args meth c cX7_isCandidate 2 wsX7_isCandidate RX7 (some .boolean) Z layX) {σ : Sg} {v1 : Int32} {u : Int32}  (h : fX7_isCandidate σ v1 = some u) : G p l e rX7_isCandidate s m args below meth c 2 Z layX (MQ below (QI Z layX σ u s.heap.size) args s 0 0 (pA Z layX s.heap.size)) σ 0 [(0, .ref (ad Z 0)), (1, .int v1)] [] := by
  unfold fX7_isCandidate at h
  refine g_aload_n (pc := 0) C dX7_isCandidate_0 rfl 0 rfl ?_
  refine g_getr (pc := 1) C (Cn := RX7) (T := TX7) (N := 11) (ci := 7) (k := 0) (j := 0) uX7_isCandidate_X7 (by rfl) rfl (by decide) (by decide +kernel) (q := 1) rfl dX7_isCandidate_1 ?_
  refine g_iload_n (pc := 4) C dX7_isCandidate_4 rfl 1 rfl ?_
  obtain ⟨t1, et1, h⟩ := bs h
  refine g_callVi (pc := 5) C (As := [.int v1]) (rest := []) (k := 1) (by rfl) (by rfl) (cwV 1 C.2.2.2.2.2.1 gX7_isCandidate_X2_hasLord rfl rfl rfl (by decide +kernel) ⟨Nat.le_of_ble_eq_true rfl, Nat.le_of_ble_eq_true rfl⟩) (mX2_hasLord l Z isR1 et1) rfl rfl (Nat.le_of_ble_eq_true rfl) dX7_isCandidate_5 ?_
  refine g_if_ne (pc := 8) C (tgt := 19) dX7_isCandidate_8 (by decide) h (fun hc8 h => ?_) (fun hc8 h => ?_)
  · refine g_iconst (pc := 19) C (v := (1 : Int32)) dX7_isCandidate_19 (by decide) ?_
    refine g_goto (pc := 20) C (tgt := 24) dX7_isCandidate_20 (by decide) ?_
    exact g_zret C dX7_isCandidate_24 rfl (rz1.trans h)
  · refine g_iconst (pc := 11) C (v := (1 : Int32)) dX7_isCandidate_11 (by decide) ?_
    refine g_iload_n (pc := 12) C dX7_isCandidate_12 rfl 1 rfl ?_
    refine g_ishl (pc := 13) C dX7_isCandidate_13 ?_
    refine g_bipush (pc := 14) C (v := (16 : Int32)) dX7_isCandidate_14 (by decide) ?_
    refine g_icmp_ne (pc := 16) C (tgt := 23) dX7_isCandidate_16 (by decide) h (fun hc16 h => ?_) (fun hc16 h => ?_)
    · refine g_iconst (pc := 23) C (v := (0 : Int32)) dX7_isCandidate_23 (by decide) ?_
      exact g_zret C dX7_isCandidate_24 rfl (rz0.trans h)
    · refine g_iconst (pc := 19) C (v := (1 : Int32)) dX7_isCandidate_19 (by decide) ?_
      refine g_goto (pc := 20) C (tgt := 24) dX7_isCandidate_20 (by decide) ?_
      exact g_zret C dX7_isCandidate_24 rfl (rz1.trans h)
theorem mX7_isCandidate (l : Launch) (Z : Sh) {σ : Sg} {v1 : Int32} {u : Int32}  (h : fX7_isCandidate σ v1 = some u) : MI l Z layX yX7_isCandidate wsX7_isCandidate rX7_isCandidate [.ref (ad Z 0), .int v1] σ σ u :=
  MI.of (cc := cX7_isCandidate) (maxL := 2) (ret := (some .boolean)) (by decide) rfl (Nat.le_of_ble_eq_true rfl) (fun p e s m below meth c C => kX7_isCandidate_e C  h)

def rX7_candidate : Room := { frames := 0, cells := 0, slots := 0, locals := 0 }
def fX7_candidate (v0 : Int32) : Option (Int32) := if ((1 : Int32) <<< (v0 &&& 31)) = (16 : Int32) then some (-4 : Int32) else some v0
set_option maxHeartbeats 1000000 in
set_option maxRecDepth 20000 in
theorem kX7_candidate_e {p : Program} {l : Launch} {e : Env} {s : State} {m : MethodId} {args : Array Value} {below : List Frame} {meth : Method} {c : Code} {Z : Sh} (C : Cx p s m args meth c cX7_candidate 1 wsX7_candidate RX7 (some .int) Z layX) {σ : Sg} {v0 : Int32} {u : Int32}  (h : fX7_candidate v0 = some u) : G p l e rX7_candidate s m args below meth c 1 Z layX (MQ below (QI Z layX σ u s.heap.size) args s 0 0 (pA Z layX s.heap.size)) σ 0 [(0, .int v0)] [] := by
  unfold fX7_candidate at h
  refine g_iconst (pc := 0) C (v := (1 : Int32)) dX7_candidate_0 (by decide) ?_
  refine g_iload_n (pc := 1) C dX7_candidate_1 rfl 0 rfl ?_
  refine g_ishl (pc := 2) C dX7_candidate_2 ?_
  refine g_bipush (pc := 3) C (v := (16 : Int32)) dX7_candidate_3 (by decide) ?_
  refine g_icmp_ne (pc := 5) C (tgt := 13) dX7_candidate_5 (by decide) h (fun hc5 h => ?_) (fun hc5 h => ?_)
  · refine g_iload_n (pc := 13) C dX7_candidate_13 rfl 0 rfl ?_
    exact g_iret C dX7_candidate_14 rfl (Option.some.inj h)
  · refine g_bipush (pc := 8) C (v := (-4 : Int32)) dX7_candidate_8 (by decide) ?_
    refine g_goto (pc := 10) C (tgt := 14) dX7_candidate_10 (by decide) ?_
    exact g_iret C dX7_candidate_14 rfl (Option.some.inj h)
theorem mX7_candidate (l : Launch) (Z : Sh) {σ : Sg} {v0 : Int32} {u : Int32}  (h : fX7_candidate v0 = some u) : MI l Z layX yX7_candidate wsX7_candidate rX7_candidate [.int v0] σ σ u :=
  MI.of (cc := cX7_candidate) (maxL := 1) (ret := (some .int)) (by decide) rfl (Nat.le_of_ble_eq_true rfl) (fun p e s m below meth c C => kX7_candidate_e C  h)

def rX7_possibleOwners : Room := { frames := 4, cells := 0, slots := 0, locals := 87 }
theorem uX7_possibleOwners_X2 : ∀ w ∈ wsX20, w ∈ wsX7_possibleOwners := by decide +kernel
theorem uX7_possibleOwners_X7 : ∀ w ∈ wsX70, w ∈ wsX7_possibleOwners := by decide +kernel
def fX7_possibleOwners_l15 (v1 : Int32)  : Nat → Sg → Int32 → Int32 → Option (Sg × Int32)
  | 0, _, _, _ => none
  | n + 1, σ, v2, v3 => if (4 : Int32) < v3 then some (σ, v2) else (fX7_isCandidate σ v3).bind fun t1 => if t1 = 0 then fX7_possibleOwners_l15 v1 n σ v2 (v3 + 1) else (fX7_candidate v3).bind fun t2 => (wr σ 12 6 v1 t2).bind fun σ3 => (fX6_fits σ3 7).bind fun t4 => if t4 = 0 then fX7_possibleOwners_l15 v1 n σ3 v2 (v3 + 1) else fX7_possibleOwners_l15 v1 n σ3 (v2 ||| ((1 : Int32) <<< (v3 &&& 31))) (v3 + 1)
def fX7_possibleOwners (σ : Sg) (v1 : Int32) : Option (Sg × Int32) := (fX2_copyFrom σ 7 1).bind fun σ1 => fX7_possibleOwners_l15 v1 2000 σ1 (0 : Int32) (0 : Int32)
set_option maxHeartbeats 1000000 in
set_option maxRecDepth 20000 in
theorem kX7_possibleOwners_l15 {p : Program} {l : Launch} {e : Env} {s : State} {m : MethodId} {args : Array Value} {below : List Frame} {meth : Method} {c : Code} {Z : Sh} (C : Cx p s m args meth c cX7_possibleOwners 4 wsX7_possibleOwners RX7 (some .int) Z layX) {v1 : Int32} {u : Sg × Int32}   : ∀ (n : Nat) (σ : Sg) (v2 : Int32) (v3 : Int32), fX7_possibleOwners_l15 v1 n σ v2 v3 = some u → G p l e rX7_possibleOwners s m args below meth c 4 Z layX (MQ below (QI Z layX u.1 u.2 s.heap.size) args s 0 0 (pA Z layX s.heap.size)) σ 15 [(0, .ref (ad Z 0)), (1, .int v1), (2, .int v2), (3, .int v3)] [] := by
  intro n
  induction n with
  | zero => intro σ v2 v3 h; exact absurd h (by simp [fX7_possibleOwners_l15])
  | succ n ih =>
    intro σ v2 v3 h
    rw [fX7_possibleOwners_l15] at h
    refine g_iload_n (pc := 15) C dX7_possibleOwners_15 rfl 3 rfl ?_
    refine g_iconst (pc := 16) C (v := (4 : Int32)) dX7_possibleOwners_16 (by decide) ?_
    refine g_icmp_gt (pc := 17) C (tgt := 67) dX7_possibleOwners_17 (by decide) h (fun hc17 h => ?_) (fun hc17 h => ?_)
    · refine g_iload_n (pc := 67) C dX7_possibleOwners_67 rfl 2 rfl ?_
      exact g_iret C dX7_possibleOwners_68 (pfst h) (psnd h)
    · refine g_aload_n (pc := 20) C dX7_possibleOwners_20 rfl 0 rfl ?_
      refine g_iload_n (pc := 21) C dX7_possibleOwners_21 rfl 3 rfl ?_
      obtain ⟨t1, et1, h⟩ := bs h
      refine g_callVi (pc := 22) C (As := [.int v3]) (rest := []) (k := 0) (by rfl) (by rfl) (cwV 1 C.2.2.2.2.2.1 gX7_possibleOwners_X7_isCandidate rfl rfl rfl (by decide +kernel) ⟨Nat.le_of_ble_eq_true rfl, Nat.le_of_ble_eq_true rfl⟩) (mX7_isCandidate l Z  et1) rfl rfl (Nat.le_of_ble_eq_true rfl) dX7_possibleOwners_22 ?_
      refine g_if_eq (pc := 25) C (tgt := 61) dX7_possibleOwners_25 (by decide) h (fun hc25 h => ?_) (fun hc25 h => ?_)
      · refine g_iinc (pc := 61) C (j := 3) (v := (v3 + 1)) (lv2 := [(3, .int (v3 + 1)), (0, .ref (ad Z 0)), (1, .int v1), (2, .int v2)]) dX7_possibleOwners_61 rfl rfl (by decide) rfl ?_
        refine g_goto (pc := 64) C (tgt := 15) dX7_possibleOwners_64 (by decide) ?_
        exact g_sub [1, 2, 3, 0] rfl (ih _ _ _ h)
      · refine g_aload_n (pc := 28) C dX7_possibleOwners_28 rfl 0 rfl ?_
        refine g_getr (pc := 29) C (Cn := RX7) (T := TX7) (N := 11) (ci := 7) (k := 0) (j := 1) uX7_possibleOwners_X7 (by rfl) rfl (by decide) (by decide +kernel) (q := 7) rfl dX7_possibleOwners_29 ?_
        refine g_getrN (pc := 32) C (host := "MoundVotes") (Cn := RX2) (T := TX2) (N := 8) (ci := 2) (k := 7) (j := 7) uX7_possibleOwners_X2 (by rfl) rfl (by decide) (by decide +kernel) (q := 12) rfl dX7_possibleOwners_32 ?_
        refine g_iload_n (pc := 35) C dX7_possibleOwners_35 rfl 1 rfl ?_
        refine g_iload_n (pc := 36) C dX7_possibleOwners_36 rfl 3 rfl ?_
        obtain ⟨t2, et2, h⟩ := bs h
        refine g_callSi (pc := 37) C (As := [.int v3]) (rest := [.int v1, .ref (ad Z 12)]) (va_cwS 1 C.2.2.2.2.2.1 gX7_possibleOwners_X7_candidate rfl rfl rfl (by decide +kernel) ⟨Nat.le_of_ble_eq_true rfl, Nat.le_of_ble_eq_true rfl⟩) (mX7_candidate l Z  et2) rfl rfl (Nat.le_of_ble_eq_true rfl) dX7_possibleOwners_37 ?_
        obtain ⟨σ3, eσ3, h⟩ := bs h
        refine g_iast (pc := 40) C (k := 12) (n := 6) (by rfl) eσ3 dX7_possibleOwners_40 ?_
        refine g_aload_n (pc := 41) C dX7_possibleOwners_41 rfl 0 rfl ?_
        refine g_getr (pc := 42) C (Cn := RX7) (T := TX7) (N := 11) (ci := 7) (k := 0) (j := 7) uX7_possibleOwners_X7 (by rfl) rfl (by decide) (by decide +kernel) (q := 37) rfl dX7_possibleOwners_42 ?_
        refine g_aload_n (pc := 45) C dX7_possibleOwners_45 rfl 0 rfl ?_
        refine g_getr (pc := 46) C (Cn := RX7) (T := TX7) (N := 11) (ci := 7) (k := 0) (j := 1) uX7_possibleOwners_X7 (by rfl) rfl (by decide) (by decide +kernel) (q := 7) rfl dX7_possibleOwners_46 ?_
        obtain ⟨t4, et4, h⟩ := bs h
        refine g_callVi (pc := 49) C (As := [.ref (ad Z 7)]) (rest := []) (k := 37) (by rfl) (by rfl) (cwV 1 C.2.2.2.2.2.1 gX7_possibleOwners_X6_fits rfl rfl rfl (by decide +kernel) ⟨Nat.le_of_ble_eq_true rfl, Nat.le_of_ble_eq_true rfl⟩) (mX6_fits l Z isR7 et4) rfl rfl (Nat.le_of_ble_eq_true rfl) dX7_possibleOwners_49 ?_
        refine g_if_eq (pc := 52) C (tgt := 61) dX7_possibleOwners_52 (by decide) h (fun hc52 h => ?_) (fun hc52 h => ?_)
        · refine g_iinc (pc := 61) C (j := 3) (v := (v3 + 1)) (lv2 := [(3, .int (v3 + 1)), (0, .ref (ad Z 0)), (1, .int v1), (2, .int v2)]) dX7_possibleOwners_61 rfl rfl (by decide) rfl ?_
          refine g_goto (pc := 64) C (tgt := 15) dX7_possibleOwners_64 (by decide) ?_
          exact g_sub [1, 2, 3, 0] rfl (ih _ _ _ h)
        · refine g_iload_n (pc := 55) C dX7_possibleOwners_55 rfl 2 rfl ?_
          refine g_iconst (pc := 56) C (v := (1 : Int32)) dX7_possibleOwners_56 (by decide) ?_
          refine g_iload_n (pc := 57) C dX7_possibleOwners_57 rfl 3 rfl ?_
          refine g_ishl (pc := 58) C dX7_possibleOwners_58 ?_
          refine g_ior (pc := 59) C dX7_possibleOwners_59 ?_
          refine g_istore_n (pc := 60) C (lv2 := [(2, .int (v2 ||| ((1 : Int32) <<< (v3 &&& 31)))), (0, .ref (ad Z 0)), (1, .int v1), (3, .int v3)]) dX7_possibleOwners_60 rfl (by decide) rfl ?_
          refine g_iinc (pc := 61) C (j := 3) (v := (v3 + 1)) (lv2 := [(3, .int (v3 + 1)), (2, .int (v2 ||| ((1 : Int32) <<< (v3 &&& 31)))), (0, .ref (ad Z 0)), (1, .int v1)]) dX7_possibleOwners_61 rfl rfl (by decide) rfl ?_
          refine g_goto (pc := 64) C (tgt := 15) dX7_possibleOwners_64 (by decide) ?_
          exact g_sub [2, 3, 1, 0] rfl (ih _ _ _ h)
set_option maxHeartbeats 1000000 in
set_option maxRecDepth 20000 in
theorem kX7_possibleOwners_e {p : Program} {l : Launch} {e : Env} {s : State} {m : MethodId} {args : Array Value} {below : List Frame} {meth : Method} {c : Code} {Z : Sh} (C : Cx p s m args meth c cX7_possibleOwners 4 wsX7_possibleOwners RX7 (some .int) Z layX) {σ : Sg} {v1 : Int32} {u : Sg × Int32}  (h : fX7_possibleOwners σ v1 = some u) : G p l e rX7_possibleOwners s m args below meth c 4 Z layX (MQ below (QI Z layX u.1 u.2 s.heap.size) args s 0 0 (pA Z layX s.heap.size)) σ 0 [(0, .ref (ad Z 0)), (1, .int v1)] [] := by
  unfold fX7_possibleOwners at h
  refine g_aload_n (pc := 0) C dX7_possibleOwners_0 rfl 0 rfl ?_
  refine g_getr (pc := 1) C (Cn := RX7) (T := TX7) (N := 11) (ci := 7) (k := 0) (j := 1) uX7_possibleOwners_X7 (by rfl) rfl (by decide) (by decide +kernel) (q := 7) rfl dX7_possibleOwners_1 ?_
  refine g_aload_n (pc := 4) C dX7_possibleOwners_4 rfl 0 rfl ?_
  refine g_getr (pc := 5) C (Cn := RX7) (T := TX7) (N := 11) (ci := 7) (k := 0) (j := 0) uX7_possibleOwners_X7 (by rfl) rfl (by decide) (by decide +kernel) (q := 1) rfl dX7_possibleOwners_5 ?_
  obtain ⟨σ1, eσ1, h⟩ := bs h
  refine g_callVv (pc := 8) C (As := [.ref (ad Z 1)]) (rest := []) (k := 7) (by rfl) (by rfl) (cwV 1 C.2.2.2.2.2.1 gX7_possibleOwners_X2_copyFrom rfl rfl rfl (by decide +kernel) ⟨Nat.le_of_ble_eq_true rfl, Nat.le_of_ble_eq_true rfl⟩) (mX2_copyFrom l Z isR7 isR1 eσ1) rfl rfl (Nat.le_of_ble_eq_true rfl) dX7_possibleOwners_8 ?_
  refine g_iconst (pc := 11) C (v := (0 : Int32)) dX7_possibleOwners_11 (by decide) ?_
  refine g_istore_n (pc := 12) C (lv2 := [(2, .int (0 : Int32)), (0, .ref (ad Z 0)), (1, .int v1)]) dX7_possibleOwners_12 rfl (by decide) rfl ?_
  refine g_iconst (pc := 13) C (v := (0 : Int32)) dX7_possibleOwners_13 (by decide) ?_
  refine g_istore_n (pc := 14) C (lv2 := [(3, .int (0 : Int32)), (2, .int (0 : Int32)), (0, .ref (ad Z 0)), (1, .int v1)]) dX7_possibleOwners_14 rfl (by decide) rfl ?_
  exact g_sub [2, 3, 1, 0] rfl (kX7_possibleOwners_l15 C   _ _ _ _ h)
theorem mX7_possibleOwners (l : Launch) (Z : Sh) {σ : Sg} {v1 : Int32} {u : Sg × Int32}  (h : fX7_possibleOwners σ v1 = some u) : MI l Z layX yX7_possibleOwners wsX7_possibleOwners rX7_possibleOwners [.ref (ad Z 0), .int v1] σ u.1 u.2 :=
  MI.of (cc := cX7_possibleOwners) (maxL := 4) (ret := (some .int)) (by decide) rfl (Nat.le_of_ble_eq_true rfl) (fun p e s m below meth c C => kX7_possibleOwners_e C  h)

def rX7_owners : Room := { frames := 5, cells := 0, slots := 0, locals := 110 }
theorem uX7_owners_X7 : ∀ w ∈ wsX70, w ∈ wsX7_owners := by decide +kernel
def fX7_owners (σ : Sg) (v1 : Int32) : Option (Sg × Int32) := (fX2_hasBorough σ 1 v1).bind fun t1 => if t1 = 0 then some (σ, (-1 : Int32)) else (fX7_possibleOwners σ v1).bind fun u2 => some (u2.1, u2.2)
set_option maxHeartbeats 1000000 in
set_option maxRecDepth 20000 in
theorem kX7_owners_e {p : Program} {l : Launch} {e : Env} {s : State} {m : MethodId} {args : Array Value} {below : List Frame} {meth : Method} {c : Code} {Z : Sh} (C : Cx p s m args meth c cX7_owners 2 wsX7_owners RX7 (some .int) Z layX) {σ : Sg} {v1 : Int32} {u : Sg × Int32}  (h : fX7_owners σ v1 = some u) : G p l e rX7_owners s m args below meth c 2 Z layX (MQ below (QI Z layX u.1 u.2 s.heap.size) args s 0 0 (pA Z layX s.heap.size)) σ 0 [(0, .ref (ad Z 0)), (1, .int v1)] [] := by
  unfold fX7_owners at h
  refine g_aload_n (pc := 0) C dX7_owners_0 rfl 0 rfl ?_
  refine g_getr (pc := 1) C (Cn := RX7) (T := TX7) (N := 11) (ci := 7) (k := 0) (j := 0) uX7_owners_X7 (by rfl) rfl (by decide) (by decide +kernel) (q := 1) rfl dX7_owners_1 ?_
  refine g_iload_n (pc := 4) C dX7_owners_4 rfl 1 rfl ?_
  obtain ⟨t1, et1, h⟩ := bs h
  refine g_callVi (pc := 5) C (As := [.int v1]) (rest := []) (k := 1) (by rfl) (by rfl) (cwV 1 C.2.2.2.2.2.1 gX7_owners_X2_hasBorough rfl rfl rfl (by decide +kernel) ⟨Nat.le_of_ble_eq_true rfl, Nat.le_of_ble_eq_true rfl⟩) (mX2_hasBorough l Z isR1 et1) rfl rfl (Nat.le_of_ble_eq_true rfl) dX7_owners_5 ?_
  refine g_if_eq (pc := 8) C (tgt := 19) dX7_owners_8 (by decide) h (fun hc8 h => ?_) (fun hc8 h => ?_)
  · refine g_iconst (pc := 19) C (v := (-1 : Int32)) dX7_owners_19 (by decide) ?_
    exact g_iret C dX7_owners_20 (pfst h) (psnd h)
  · refine g_aload_n (pc := 11) C dX7_owners_11 rfl 0 rfl ?_
    refine g_iload_n (pc := 12) C dX7_owners_12 rfl 1 rfl ?_
    obtain ⟨u2, eu2, h⟩ := bs h
    refine g_callVi (pc := 13) C (As := [.int v1]) (rest := []) (k := 0) (by rfl) (by rfl) (cwV 1 C.2.2.2.2.2.1 gX7_owners_X7_possibleOwners rfl rfl rfl (by decide +kernel) ⟨Nat.le_of_ble_eq_true rfl, Nat.le_of_ble_eq_true rfl⟩) (mX7_possibleOwners l Z  eu2) rfl rfl (Nat.le_of_ble_eq_true rfl) dX7_owners_13 ?_
    refine g_goto (pc := 16) C (tgt := 20) dX7_owners_16 (by decide) ?_
    exact g_iret C dX7_owners_20 (pfst h) (psnd h)
theorem mX7_owners (l : Launch) (Z : Sh) {σ : Sg} {v1 : Int32} {u : Sg × Int32}  (h : fX7_owners σ v1 = some u) : MI l Z layX yX7_owners wsX7_owners rX7_owners [.ref (ad Z 0), .int v1] σ u.1 u.2 :=
  MI.of (cc := cX7_owners) (maxL := 2) (ret := (some .int)) (by decide) rfl (Nat.le_of_ble_eq_true rfl) (fun p e s m below meth c C => kX7_owners_e C  h)

def rX7_seats : Room := { frames := 4, cells := 0, slots := 0, locals := 87 }
theorem uX7_seats_X2 : ∀ w ∈ wsX20, w ∈ wsX7_seats := by decide +kernel
theorem uX7_seats_X7 : ∀ w ∈ wsX70, w ∈ wsX7_seats := by decide +kernel
def fX7_seats_l28 (v1 : Int32)  : Nat → Sg → Int32 → Int32 → Option (Sg × Int32)
  | 0, _, _, _ => none
  | n + 1, σ, v2, v3 => if (3 : Int32) < v3 then some (σ, v2) else (wr σ 11 6 v1 v3).bind fun σ1 => (fX6_fits σ1 7).bind fun t2 => if t2 = 0 then fX7_seats_l28 v1 n σ1 v2 (v3 + 1) else fX7_seats_l28 v1 n σ1 (v2 ||| ((1 : Int32) <<< (v3 &&& 31))) (v3 + 1)
def fX7_seats (σ : Sg) (v1 : Int32) : Option (Sg × Int32) := (fX2_hasBorough σ 1 v1).bind fun t1 => if t1 = 0 then some (σ, (-1 : Int32)) else (fX2_copyFrom σ 7 1).bind fun σ2 => fX7_seats_l28 v1 2000 σ2 (0 : Int32) (0 : Int32)
set_option maxHeartbeats 1000000 in
set_option maxRecDepth 20000 in
theorem kX7_seats_l28 {p : Program} {l : Launch} {e : Env} {s : State} {m : MethodId} {args : Array Value} {below : List Frame} {meth : Method} {c : Code} {Z : Sh} (C : Cx p s m args meth c cX7_seats 4 wsX7_seats RX7 (some .int) Z layX) {v1 : Int32} {u : Sg × Int32}   : ∀ (n : Nat) (σ : Sg) (v2 : Int32) (v3 : Int32), fX7_seats_l28 v1 n σ v2 v3 = some u → G p l e rX7_seats s m args below meth c 4 Z layX (MQ below (QI Z layX u.1 u.2 s.heap.size) args s 0 0 (pA Z layX s.heap.size)) σ 28 [(0, .ref (ad Z 0)), (1, .int v1), (2, .int v2), (3, .int v3)] [] := by
  intro n
  induction n with
  | zero => intro σ v2 v3 h; exact absurd h (by simp [fX7_seats_l28])
  | succ n ih =>
    intro σ v2 v3 h
    rw [fX7_seats_l28] at h
    refine g_iload_n (pc := 28) C dX7_seats_28 rfl 3 rfl ?_
    refine g_iconst (pc := 29) C (v := (3 : Int32)) dX7_seats_29 (by decide) ?_
    refine g_icmp_gt (pc := 30) C (tgt := 69) dX7_seats_30 (by decide) h (fun hc30 h => ?_) (fun hc30 h => ?_)
    · refine g_iload_n (pc := 69) C dX7_seats_69 rfl 2 rfl ?_
      exact g_iret C dX7_seats_70 (pfst h) (psnd h)
    · refine g_aload_n (pc := 33) C dX7_seats_33 rfl 0 rfl ?_
      refine g_getr (pc := 34) C (Cn := RX7) (T := TX7) (N := 11) (ci := 7) (k := 0) (j := 1) uX7_seats_X7 (by rfl) rfl (by decide) (by decide +kernel) (q := 7) rfl dX7_seats_34 ?_
      refine g_getrN (pc := 37) C (host := "MoundVotes") (Cn := RX2) (T := TX2) (N := 8) (ci := 2) (k := 7) (j := 6) uX7_seats_X2 (by rfl) rfl (by decide) (by decide +kernel) (q := 11) rfl dX7_seats_37 ?_
      refine g_iload_n (pc := 40) C dX7_seats_40 rfl 1 rfl ?_
      refine g_iload_n (pc := 41) C dX7_seats_41 rfl 3 rfl ?_
      obtain ⟨σ1, eσ1, h⟩ := bs h
      refine g_iast (pc := 42) C (k := 11) (n := 6) (by rfl) eσ1 dX7_seats_42 ?_
      refine g_aload_n (pc := 43) C dX7_seats_43 rfl 0 rfl ?_
      refine g_getr (pc := 44) C (Cn := RX7) (T := TX7) (N := 11) (ci := 7) (k := 0) (j := 7) uX7_seats_X7 (by rfl) rfl (by decide) (by decide +kernel) (q := 37) rfl dX7_seats_44 ?_
      refine g_aload_n (pc := 47) C dX7_seats_47 rfl 0 rfl ?_
      refine g_getr (pc := 48) C (Cn := RX7) (T := TX7) (N := 11) (ci := 7) (k := 0) (j := 1) uX7_seats_X7 (by rfl) rfl (by decide) (by decide +kernel) (q := 7) rfl dX7_seats_48 ?_
      obtain ⟨t2, et2, h⟩ := bs h
      refine g_callVi (pc := 51) C (As := [.ref (ad Z 7)]) (rest := []) (k := 37) (by rfl) (by rfl) (cwV 1 C.2.2.2.2.2.1 gX7_seats_X6_fits rfl rfl rfl (by decide +kernel) ⟨Nat.le_of_ble_eq_true rfl, Nat.le_of_ble_eq_true rfl⟩) (mX6_fits l Z isR7 et2) rfl rfl (Nat.le_of_ble_eq_true rfl) dX7_seats_51 ?_
      refine g_if_eq (pc := 54) C (tgt := 63) dX7_seats_54 (by decide) h (fun hc54 h => ?_) (fun hc54 h => ?_)
      · refine g_iinc (pc := 63) C (j := 3) (v := (v3 + 1)) (lv2 := [(3, .int (v3 + 1)), (0, .ref (ad Z 0)), (1, .int v1), (2, .int v2)]) dX7_seats_63 rfl rfl (by decide) rfl ?_
        refine g_goto (pc := 66) C (tgt := 28) dX7_seats_66 (by decide) ?_
        exact g_sub [1, 2, 3, 0] rfl (ih _ _ _ h)
      · refine g_iload_n (pc := 57) C dX7_seats_57 rfl 2 rfl ?_
        refine g_iconst (pc := 58) C (v := (1 : Int32)) dX7_seats_58 (by decide) ?_
        refine g_iload_n (pc := 59) C dX7_seats_59 rfl 3 rfl ?_
        refine g_ishl (pc := 60) C dX7_seats_60 ?_
        refine g_ior (pc := 61) C dX7_seats_61 ?_
        refine g_istore_n (pc := 62) C (lv2 := [(2, .int (v2 ||| ((1 : Int32) <<< (v3 &&& 31)))), (0, .ref (ad Z 0)), (1, .int v1), (3, .int v3)]) dX7_seats_62 rfl (by decide) rfl ?_
        refine g_iinc (pc := 63) C (j := 3) (v := (v3 + 1)) (lv2 := [(3, .int (v3 + 1)), (2, .int (v2 ||| ((1 : Int32) <<< (v3 &&& 31)))), (0, .ref (ad Z 0)), (1, .int v1)]) dX7_seats_63 rfl rfl (by decide) rfl ?_
        refine g_goto (pc := 66) C (tgt := 28) dX7_seats_66 (by decide) ?_
        exact g_sub [2, 3, 1, 0] rfl (ih _ _ _ h)
set_option maxHeartbeats 1000000 in
set_option maxRecDepth 20000 in
theorem kX7_seats_e {p : Program} {l : Launch} {e : Env} {s : State} {m : MethodId} {args : Array Value} {below : List Frame} {meth : Method} {c : Code} {Z : Sh} (C : Cx p s m args meth c cX7_seats 4 wsX7_seats RX7 (some .int) Z layX) {σ : Sg} {v1 : Int32} {u : Sg × Int32}  (h : fX7_seats σ v1 = some u) : G p l e rX7_seats s m args below meth c 4 Z layX (MQ below (QI Z layX u.1 u.2 s.heap.size) args s 0 0 (pA Z layX s.heap.size)) σ 0 [(0, .ref (ad Z 0)), (1, .int v1)] [] := by
  unfold fX7_seats at h
  refine g_aload_n (pc := 0) C dX7_seats_0 rfl 0 rfl ?_
  refine g_getr (pc := 1) C (Cn := RX7) (T := TX7) (N := 11) (ci := 7) (k := 0) (j := 0) uX7_seats_X7 (by rfl) rfl (by decide) (by decide +kernel) (q := 1) rfl dX7_seats_1 ?_
  refine g_iload_n (pc := 4) C dX7_seats_4 rfl 1 rfl ?_
  obtain ⟨t1, et1, h⟩ := bs h
  refine g_callVi (pc := 5) C (As := [.int v1]) (rest := []) (k := 1) (by rfl) (by rfl) (cwV 1 C.2.2.2.2.2.1 gX7_seats_X2_hasBorough rfl rfl rfl (by decide +kernel) ⟨Nat.le_of_ble_eq_true rfl, Nat.le_of_ble_eq_true rfl⟩) (mX2_hasBorough l Z isR1 et1) rfl rfl (Nat.le_of_ble_eq_true rfl) dX7_seats_5 ?_
  refine g_if_ne (pc := 8) C (tgt := 13) dX7_seats_8 (by decide) h (fun hc8 h => ?_) (fun hc8 h => ?_)
  · refine g_aload_n (pc := 13) C dX7_seats_13 rfl 0 rfl ?_
    refine g_getr (pc := 14) C (Cn := RX7) (T := TX7) (N := 11) (ci := 7) (k := 0) (j := 1) uX7_seats_X7 (by rfl) rfl (by decide) (by decide +kernel) (q := 7) rfl dX7_seats_14 ?_
    refine g_aload_n (pc := 17) C dX7_seats_17 rfl 0 rfl ?_
    refine g_getr (pc := 18) C (Cn := RX7) (T := TX7) (N := 11) (ci := 7) (k := 0) (j := 0) uX7_seats_X7 (by rfl) rfl (by decide) (by decide +kernel) (q := 1) rfl dX7_seats_18 ?_
    obtain ⟨σ2, eσ2, h⟩ := bs h
    refine g_callVv (pc := 21) C (As := [.ref (ad Z 1)]) (rest := []) (k := 7) (by rfl) (by rfl) (cwV 1 C.2.2.2.2.2.1 gX7_seats_X2_copyFrom rfl rfl rfl (by decide +kernel) ⟨Nat.le_of_ble_eq_true rfl, Nat.le_of_ble_eq_true rfl⟩) (mX2_copyFrom l Z isR7 isR1 eσ2) rfl rfl (Nat.le_of_ble_eq_true rfl) dX7_seats_21 ?_
    refine g_iconst (pc := 24) C (v := (0 : Int32)) dX7_seats_24 (by decide) ?_
    refine g_istore_n (pc := 25) C (lv2 := [(2, .int (0 : Int32)), (0, .ref (ad Z 0)), (1, .int v1)]) dX7_seats_25 rfl (by decide) rfl ?_
    refine g_iconst (pc := 26) C (v := (0 : Int32)) dX7_seats_26 (by decide) ?_
    refine g_istore_n (pc := 27) C (lv2 := [(3, .int (0 : Int32)), (2, .int (0 : Int32)), (0, .ref (ad Z 0)), (1, .int v1)]) dX7_seats_27 rfl (by decide) rfl ?_
    exact g_sub [2, 3, 1, 0] rfl (kX7_seats_l28 C   _ _ _ _ h)
  · refine g_iconst (pc := 11) C (v := (-1 : Int32)) dX7_seats_11 (by decide) ?_
    exact g_iret C dX7_seats_12 (pfst h) (psnd h)
theorem mX7_seats (l : Launch) (Z : Sh) {σ : Sg} {v1 : Int32} {u : Sg × Int32}  (h : fX7_seats σ v1 = some u) : MI l Z layX yX7_seats wsX7_seats rX7_seats [.ref (ad Z 0), .int v1] σ u.1 u.2 :=
  MI.of (cc := cX7_seats) (maxL := 4) (ret := (some .int)) (by decide) rfl (Nat.le_of_ble_eq_true rfl) (fun p e s m below meth c C => kX7_seats_e C  h)
