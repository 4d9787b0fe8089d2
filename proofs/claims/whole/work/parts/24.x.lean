def rX7_borough : Room := { frames := 3, cells := 0, slots := 0, locals := 64 }
theorem uX7_borough_X2 : ∀ w ∈ wsX20, w ∈ wsX7_borough := by decide +kernel
theorem uX7_borough_X7 : ∀ w ∈ wsX70, w ∈ wsX7_borough := by decide +kernel
def fX7_borough (σ : Sg) (v1 : Int32) (v2 : Int32) : Option (Int32) := (fX2_hasBorough σ 1 v1).bind fun t1 => if t1 = 0 then some (-1 : Int32) else if v2 = (0 : Int32) then (rd (σ 3) 6 v1).bind fun t2 => some t2 else if v2 = (1 : Int32) then (rd (σ 4) 6 v1).bind fun t3 => some t3 else if v2 = (2 : Int32) then (rd (σ 5) 6 v1).bind fun t4 => some t4 else if v2 = (3 : Int32) then (rd (σ 6) 6 v1).bind fun t5 => some t5 else if v2 = (4 : Int32) then (fX2_votesOf σ 1 v1).bind fun t6 => some t6 else if v2 = (5 : Int32) then (fX2_costOf σ 1 v1).bind fun t7 => some t7 else some (-1 : Int32)
set_option maxHeartbeats 1000000 in
set_option maxRecDepth 20000 in
theorem kX7_borough_e {p : Program} {l : Launch} {e : Env} {s : State} {m : MethodId} {args : Array Value} {below : List Frame} {meth : Method} {c : Code} {Z : Sh} (C : Cx p s m args meth c cX7_borough 3 wsX7_borough RX7 (some .int) Z layX) {σ : Sg} {v1 : Int32} {v2 : Int32} {u : Int32}  (h : fX7_borough σ v1 v2 = some u) : G p l e rX7_borough s m args below meth c 3 Z layX (MQ below (QI Z layX σ u s.heap.size) args s 0 0 (pA Z layX s.heap.size)) σ 0 [(0, .ref (ad Z 0)), (1, .int v1), (2, .int v2)] [] := by
  unfold fX7_borough at h
  refine g_aload_n (pc := 0) C dX7_borough_0 rfl 0 rfl ?_
  refine g_getr (pc := 1) C (Cn := RX7) (T := TX7) (N := 11) (ci := 7) (k := 0) (j := 0) uX7_borough_X7 (by rfl) rfl (by decide) (by decide +kernel) (q := 1) rfl dX7_borough_1 ?_
  refine g_iload_n (pc := 4) C dX7_borough_4 rfl 1 rfl ?_
  obtain ⟨t1, et1, h⟩ := bs h
  refine g_callVi (pc := 5) C (As := [.int v1]) (rest := []) (k := 1) (by rfl) (by rfl) (cwV 1 C.2.2.2.2.2.1 gX7_borough_X2_hasBorough rfl rfl rfl (by decide +kernel) ⟨Nat.le_of_ble_eq_true rfl, Nat.le_of_ble_eq_true rfl⟩) (mX2_hasBorough l Z isR1 et1) rfl rfl (Nat.le_of_ble_eq_true rfl) dX7_borough_5 ?_
  refine g_if_ne (pc := 8) C (tgt := 13) dX7_borough_8 (by decide) h (fun hc8 h => ?_) (fun hc8 h => ?_)
  · refine g_iload_n (pc := 13) C dX7_borough_13 rfl 2 rfl ?_
    refine g_sw (pc := 14) C (off := 38) (tgt := 52) (0 : Int32) dX7_borough_14 (by decide) (by decide) (by decide) (by decide) h (fun hc14 h => ?_) (fun hn14_0 h => ?_)
    · refine g_aload_n (pc := 52) C dX7_borough_52 rfl 0 rfl ?_
      refine g_getr (pc := 53) C (Cn := RX7) (T := TX7) (N := 11) (ci := 7) (k := 0) (j := 0) uX7_borough_X7 (by rfl) rfl (by decide) (by decide +kernel) (q := 1) rfl dX7_borough_53 ?_
      refine g_getrN (pc := 56) C (host := "MoundVotes") (Cn := RX2) (T := TX2) (N := 8) (ci := 2) (k := 1) (j := 4) uX7_borough_X2 (by rfl) rfl (by decide) (by decide +kernel) (q := 3) rfl dX7_borough_56 ?_
      refine g_iload_n (pc := 59) C dX7_borough_59 rfl 1 rfl ?_
      obtain ⟨t2, et2, h⟩ := bs h
      refine g_iald (pc := 60) C (k := 3) (n := 6) (by rfl) et2 dX7_borough_60 ?_
      exact g_iret C dX7_borough_61 rfl (Option.some.inj h)
    refine g_sw (pc := 14) C (off := 48) (tgt := 62) (1 : Int32) dX7_borough_14 (by decide) (by decide) (by decide) (by decide) h (fun hc14 h => ?_) (fun hn14_1 h => ?_)
    · refine g_aload_n (pc := 62) C dX7_borough_62 rfl 0 rfl ?_
      refine g_getr (pc := 63) C (Cn := RX7) (T := TX7) (N := 11) (ci := 7) (k := 0) (j := 0) uX7_borough_X7 (by rfl) rfl (by decide) (by decide +kernel) (q := 1) rfl dX7_borough_63 ?_
      refine g_getrN (pc := 66) C (host := "MoundVotes") (Cn := RX2) (T := TX2) (N := 8) (ci := 2) (k := 1) (j := 5) uX7_borough_X2 (by rfl) rfl (by decide) (by decide +kernel) (q := 4) rfl dX7_borough_66 ?_
      refine g_iload_n (pc := 69) C dX7_borough_69 rfl 1 rfl ?_
      obtain ⟨t3, et3, h⟩ := bs h
      refine g_iald (pc := 70) C (k := 4) (n := 6) (by rfl) et3 dX7_borough_70 ?_
      exact g_iret C dX7_borough_71 rfl (Option.some.inj h)
    refine g_sw (pc := 14) C (off := 58) (tgt := 72) (2 : Int32) dX7_borough_14 (by decide) (by decide) (by decide) (by decide) h (fun hc14 h => ?_) (fun hn14_2 h => ?_)
    · refine g_aload_n (pc := 72) C dX7_borough_72 rfl 0 rfl ?_
      refine g_getr (pc := 73) C (Cn := RX7) (T := TX7) (N := 11) (ci := 7) (k := 0) (j := 0) uX7_borough_X7 (by rfl) rfl (by decide) (by decide +kernel) (q := 1) rfl dX7_borough_73 ?_
      refine g_getrN (pc := 76) C (host := "MoundVotes") (Cn := RX2) (T := TX2) (N := 8) (ci := 2) (k := 1) (j := 6) uX7_borough_X2 (by rfl) rfl (by decide) (by decide +kernel) (q := 5) rfl dX7_borough_76 ?_
      refine g_iload_n (pc := 79) C dX7_borough_79 rfl 1 rfl ?_
      obtain ⟨t4, et4, h⟩ := bs h
      refine g_iald (pc := 80) C (k := 5) (n := 6) (by rfl) et4 dX7_borough_80 ?_
      exact g_iret C dX7_borough_81 rfl (Option.some.inj h)
    refine g_sw (pc := 14) C (off := 68) (tgt := 82) (3 : Int32) dX7_borough_14 (by decide) (by decide) (by decide) (by decide) h (fun hc14 h => ?_) (fun hn14_3 h => ?_)
    · refine g_aload_n (pc := 82) C dX7_borough_82 rfl 0 rfl ?_
      refine g_getr (pc := 83) C (Cn := RX7) (T := TX7) (N := 11) (ci := 7) (k := 0) (j := 0) uX7_borough_X7 (by rfl) rfl (by decide) (by decide +kernel) (q := 1) rfl dX7_borough_83 ?_
      refine g_getrN (pc := 86) C (host := "MoundVotes") (Cn := RX2) (T := TX2) (N := 8) (ci := 2) (k := 1) (j := 7) uX7_borough_X2 (by rfl) rfl (by decide) (by decide +kernel) (q := 6) rfl dX7_borough_86 ?_
      refine g_iload_n (pc := 89) C dX7_borough_89 rfl 1 rfl ?_
      obtain ⟨t5, et5, h⟩ := bs h
      refine g_iald (pc := 90) C (k := 6) (n := 6) (by rfl) et5 dX7_borough_90 ?_
      exact g_iret C dX7_borough_91 rfl (Option.some.inj h)
    refine g_sw (pc := 14) C (off := 78) (tgt := 92) (4 : Int32) dX7_borough_14 (by decide) (by decide) (by decide) (by decide) h (fun hc14 h => ?_) (fun hn14_4 h => ?_)
    · refine g_aload_n (pc := 92) C dX7_borough_92 rfl 0 rfl ?_
      refine g_getr (pc := 93) C (Cn := RX7) (T := TX7) (N := 11) (ci := 7) (k := 0) (j := 0) uX7_borough_X7 (by rfl) rfl (by decide) (by decide +kernel) (q := 1) rfl dX7_borough_93 ?_
      refine g_iload_n (pc := 96) C dX7_borough_96 rfl 1 rfl ?_
      obtain ⟨t6, et6, h⟩ := bs h
      refine g_callVi (pc := 97) C (As := [.int v1]) (rest := []) (k := 1) (by rfl) (by rfl) (cwV 1 C.2.2.2.2.2.1 gX7_borough_X2_votesOf rfl rfl rfl (by decide +kernel) ⟨Nat.le_of_ble_eq_true rfl, Nat.le_of_ble_eq_true rfl⟩) (mX2_votesOf l Z isR1 et6) rfl rfl (Nat.le_of_ble_eq_true rfl) dX7_borough_97 ?_
      exact g_iret C dX7_borough_100 rfl (Option.some.inj h)
    refine g_sw (pc := 14) C (off := 87) (tgt := 101) (5 : Int32) dX7_borough_14 (by decide) (by decide) (by decide) (by decide) h (fun hc14 h => ?_) (fun hn14_5 h => ?_)
    · refine g_aload_n (pc := 101) C dX7_borough_101 rfl 0 rfl ?_
      refine g_getr (pc := 102) C (Cn := RX7) (T := TX7) (N := 11) (ci := 7) (k := 0) (j := 0) uX7_borough_X7 (by rfl) rfl (by decide) (by decide +kernel) (q := 1) rfl dX7_borough_102 ?_
      refine g_iload_n (pc := 105) C dX7_borough_105 rfl 1 rfl ?_
      obtain ⟨t7, et7, h⟩ := bs h
      refine g_callVi (pc := 106) C (As := [.int v1]) (rest := []) (k := 1) (by rfl) (by rfl) (cwV 1 C.2.2.2.2.2.1 gX7_borough_X2_costOf rfl rfl rfl (by decide +kernel) ⟨Nat.le_of_ble_eq_true rfl, Nat.le_of_ble_eq_true rfl⟩) (mX2_costOf l Z isR1 et7) rfl rfl (Nat.le_of_ble_eq_true rfl) dX7_borough_106 ?_
      exact g_iret C dX7_borough_109 rfl (Option.some.inj h)
    refine g_swd (pc := 14) C (tgt := 110) dX7_borough_14 (by have z0 := ne_ti hn14_0; have z1 := ne_ti hn14_1; have z2 := ne_ti hn14_2; have z3 := ne_ti hn14_3; have z4 := ne_ti hn14_4; have z5 := ne_ti hn14_5; simp at z0 z1 z2 z3 z4 z5; omega) (by decide) ?_
    refine g_iconst (pc := 110) C (v := (-1 : Int32)) dX7_borough_110 (by decide) ?_
    exact g_iret C dX7_borough_111 rfl (Option.some.inj h)
  · refine g_iconst (pc := 11) C (v := (-1 : Int32)) dX7_borough_11 (by decide) ?_
    exact g_iret C dX7_borough_12 rfl (Option.some.inj h)
theorem mX7_borough (l : Launch) (Z : Sh) {σ : Sg} {v1 : Int32} {v2 : Int32} {u : Int32}  (h : fX7_borough σ v1 v2 = some u) : MI l Z layX yX7_borough wsX7_borough rX7_borough [.ref (ad Z 0), .int v1, .int v2] σ σ u :=
  MI.of (cc := cX7_borough) (maxL := 3) (ret := (some .int)) (by decide) rfl (Nat.le_of_ble_eq_true rfl) (fun p e s m below meth c C => kX7_borough_e C  h)

def rX7_swap : Room := { frames := 1, cells := 0, slots := 0, locals := 22 }
def fX7_swap (σ : Sg) (q : Nat) (nq : Nat) (v1 : Int32) (v2 : Int32) : Option (Sg × Int32) := (fX7_within v1 (0 : Int32) ((Int32.ofNat nq) - (1 : Int32))).bind fun t1 => if t1 = 0 then some (σ, (-1 : Int32)) else (rd (σ q) nq v1).bind fun t2 => (wr σ q nq v1 v2).bind fun σ3 => some (σ3, t2)
set_option maxHeartbeats 1000000 in
set_option maxRecDepth 20000 in
theorem kX7_swap_e {p : Program} {l : Launch} {e : Env} {s : State} {m : MethodId} {args : Array Value} {below : List Frame} {meth : Method} {c : Code} {Z : Sh} (C : Cx p s m args meth c cX7_swap 4 wsX7_swap RX7 (some .int) Z layX) {σ : Sg} {q : Nat} {nq : Nat} {v1 : Int32} {v2 : Int32} {u : Sg × Int32} (h_q : layX[q]? = some (.inr (.inl (1, nq)))) (h : fX7_swap σ q nq v1 v2 = some u) : G p l e rX7_swap s m args below meth c 4 Z layX (MQ below (QI Z layX u.1 u.2 s.heap.size) args s 0 0 (pA Z layX s.heap.size)) σ 0 [(0, .ref (ad Z q)), (1, .int v1), (2, .int v2)] [] := by
  unfold fX7_swap at h
  refine g_iload_n (pc := 0) C dX7_swap_0 rfl 1 rfl ?_
  refine g_iconst (pc := 1) C (v := (0 : Int32)) dX7_swap_1 (by decide) ?_
  refine g_aload_n (pc := 2) C dX7_swap_2 rfl 0 rfl ?_
  refine g_alen (pc := 3) C (k := q) (t := 1) (v := (Int32.ofNat nq)) h_q rfl rfl dX7_swap_3 ?_
  refine g_iconst (pc := 4) C (v := (1 : Int32)) dX7_swap_4 (by decide) ?_
  refine g_isub (pc := 5) C dX7_swap_5 ?_
  obtain ⟨t1, et1, h⟩ := bs h
  refine g_callSi (pc := 6) C (As := [.int v1, .int (0 : Int32), .int ((Int32.ofNat nq) - (1 : Int32))]) (rest := []) (va_cwS 3 C.2.2.2.2.2.1 gX7_swap_X7_within rfl rfl rfl (by decide +kernel) ⟨Nat.le_of_ble_eq_true rfl, Nat.le_of_ble_eq_true rfl⟩) (mX7_within l Z  et1) rfl rfl (Nat.le_of_ble_eq_true rfl) dX7_swap_6 ?_
  refine g_if_ne (pc := 9) C (tgt := 14) dX7_swap_9 (by decide) h (fun hc9 h => ?_) (fun hc9 h => ?_)
  · refine g_aload_n (pc := 14) C dX7_swap_14 rfl 0 rfl ?_
    refine g_iload_n (pc := 15) C dX7_swap_15 rfl 1 rfl ?_
    obtain ⟨t2, et2, h⟩ := bs h
    refine g_iald (pc := 16) C (k := q) (n := nq) h_q et2 dX7_swap_16 ?_
    refine g_istore_n (pc := 17) C (lv2 := [(3, .int t2), (0, .ref (ad Z q)), (1, .int v1), (2, .int v2)]) dX7_swap_17 rfl (by decide) rfl ?_
    refine g_aload_n (pc := 18) C dX7_swap_18 rfl 1 rfl ?_
    refine g_iload_n (pc := 19) C dX7_swap_19 rfl 2 rfl ?_
    refine g_iload_n (pc := 20) C dX7_swap_20 rfl 3 rfl ?_
    obtain ⟨σ3, eσ3, h⟩ := bs h
    refine g_iast (pc := 21) C (k := q) (n := nq) h_q eσ3 dX7_swap_21 ?_
    refine g_iload_n (pc := 22) C dX7_swap_22 rfl 0 rfl ?_
    exact g_iret C dX7_swap_23 (pfst h) (psnd h)
  · refine g_iconst (pc := 12) C (v := (-1 : Int32)) dX7_swap_12 (by decide) ?_
    exact g_iret C dX7_swap_13 (pfst h) (psnd h)
theorem mX7_swap (l : Launch) (Z : Sh) {σ : Sg} {q : Nat} {nq : Nat} {v1 : Int32} {v2 : Int32} {u : Sg × Int32} (h_q : layX[q]? = some (.inr (.inl (1, nq)))) (h : fX7_swap σ q nq v1 v2 = some u) : MI l Z layX yX7_swap wsX7_swap rX7_swap [.ref (ad Z q), .int v1, .int v2] σ u.1 u.2 :=
  MI.of (cc := cX7_swap) (maxL := 4) (ret := (some .int)) (by decide) rfl (Nat.le_of_ble_eq_true rfl) (fun p e s m below meth c C => kX7_swap_e C h_q h)

def rX7_alter : Room := { frames := 2, cells := 0, slots := 0, locals := 45 }
theorem uX7_alter_X2 : ∀ w ∈ wsX20, w ∈ wsX7_alter := by decide +kernel
theorem uX7_alter_X7 : ∀ w ∈ wsX70, w ∈ wsX7_alter := by decide +kernel
def fX7_alter (σ : Sg) (v1 : Int32) (v2 : Int32) (v3 : Int32) : Option (Sg × Int32) := (fX2_hasBorough σ 1 v1).bind fun t1 => if t1 = 0 then some (σ, (-1 : Int32)) else if v2 = (0 : Int32) then (fX7_within v3 (0 : Int32) (3 : Int32)).bind fun t2 => if t2 = 0 then some (σ, (-1 : Int32)) else (fX7_swap σ 3 6 v1 v3).bind fun u3 => some (u3.1, u3.2) else if v2 = (1 : Int32) then (fX7_within v3 (1 : Int32) (9 : Int32)).bind fun t4 => if t4 = 0 then some (σ, (-1 : Int32)) else (fX7_swap σ 4 6 v1 v3).bind fun u5 => some (u5.1, u5.2) else if v2 = (2 : Int32) then (fX7_within v3 (0 : Int32) (3 : Int32)).bind fun t6 => if t6 = 0 then some (σ, (-1 : Int32)) else (fX7_swap σ 5 6 v1 v3).bind fun u7 => some (u7.1, u7.2) else some (σ, (-1 : Int32))
set_option maxHeartbeats 1000000 in
set_option maxRecDepth 20000 in
theorem kX7_alter_e {p : Program} {l : Launch} {e : Env} {s : State} {m : MethodId} {args : Array Value} {below : List Frame} {meth : Method} {c : Code} {Z : Sh} (C : Cx p s m args meth c cX7_alter 4 wsX7_alter RX7 (some .int) Z layX) {σ : Sg} {v1 : Int32} {v2 : Int32} {v3 : Int32} {u : Sg × Int32}  (h : fX7_alter σ v1 v2 v3 = some u) : G p l e rX7_alter s m args below meth c 4 Z layX (MQ below (QI Z layX u.1 u.2 s.heap.size) args s 0 0 (pA Z layX s.heap.size)) σ 0 [(0, .ref (ad Z 0)), (1, .int v1), (2, .int v2), (3, .int v3)] [] := by
  unfold fX7_alter at h
  refine g_aload_n (pc := 0) C dX7_alter_0 rfl 0 rfl ?_
  refine g_getr (pc := 1) C (Cn := RX7) (T := TX7) (N := 11) (ci := 7) (k := 0) (j := 0) uX7_alter_X7 (by rfl) rfl (by decide) (by decide +kernel) (q := 1) rfl dX7_alter_1 ?_
  refine g_iload_n (pc := 4) C dX7_alter_4 rfl 1 rfl ?_
  obtain ⟨t1, et1, h⟩ := bs h
  refine g_callVi (pc := 5) C (As := [.int v1]) (rest := []) (k := 1) (by rfl) (by rfl) (cwV 1 C.2.2.2.2.2.1 gX7_alter_X2_hasBorough rfl rfl rfl (by decide +kernel) ⟨Nat.le_of_ble_eq_true rfl, Nat.le_of_ble_eq_true rfl⟩) (mX2_hasBorough l Z isR1 et1) rfl rfl (Nat.le_of_ble_eq_true rfl) dX7_alter_5 ?_
  refine g_if_ne (pc := 8) C (tgt := 13) dX7_alter_8 (by decide) h (fun hc8 h => ?_) (fun hc8 h => ?_)
  · refine g_iload_n (pc := 13) C dX7_alter_13 rfl 2 rfl ?_
    refine g_sw (pc := 14) C (off := 26) (tgt := 40) (0 : Int32) dX7_alter_14 (by decide) (by decide) (by decide) (by decide) h (fun hc14 h => ?_) (fun hn14_0 h => ?_)
    · refine g_iload_n (pc := 40) C dX7_alter_40 rfl 3 rfl ?_
      refine g_iconst (pc := 41) C (v := (0 : Int32)) dX7_alter_41 (by decide) ?_
      refine g_iconst (pc := 42) C (v := (3 : Int32)) dX7_alter_42 (by decide) ?_
      obtain ⟨t2, et2, h⟩ := bs h
      refine g_callSi (pc := 43) C (As := [.int v3, .int (0 : Int32), .int (3 : Int32)]) (rest := []) (va_cwS 3 C.2.2.2.2.2.1 gX7_alter_X7_within rfl rfl rfl (by decide +kernel) ⟨Nat.le_of_ble_eq_true rfl, Nat.le_of_ble_eq_true rfl⟩) (mX7_within l Z  et2) rfl rfl (Nat.le_of_ble_eq_true rfl) dX7_alter_43 ?_
      refine g_if_eq (pc := 46) C (tgt := 64) dX7_alter_46 (by decide) h (fun hc46 h => ?_) (fun hc46 h => ?_)
      · refine g_iconst (pc := 64) C (v := (-1 : Int32)) dX7_alter_64 (by decide) ?_
        exact g_iret C dX7_alter_65 (pfst h) (psnd h)
      · refine g_aload_n (pc := 49) C dX7_alter_49 rfl 0 rfl ?_
        refine g_getr (pc := 50) C (Cn := RX7) (T := TX7) (N := 11) (ci := 7) (k := 0) (j := 0) uX7_alter_X7 (by rfl) rfl (by decide) (by decide +kernel) (q := 1) rfl dX7_alter_50 ?_
        refine g_getrN (pc := 53) C (host := "MoundVotes") (Cn := RX2) (T := TX2) (N := 8) (ci := 2) (k := 1) (j := 4) uX7_alter_X2 (by rfl) rfl (by decide) (by decide +kernel) (q := 3) rfl dX7_alter_53 ?_
        refine g_iload_n (pc := 56) C dX7_alter_56 rfl 1 rfl ?_
        refine g_iload_n (pc := 57) C dX7_alter_57 rfl 3 rfl ?_
        obtain ⟨u3, eu3, h⟩ := bs h
        refine g_callSi (pc := 58) C (As := [.ref (ad Z 3), .int v1, .int v3]) (rest := []) (va_cwS 3 C.2.2.2.2.2.1 gX7_alter_X7_swap rfl rfl rfl (by decide +kernel) ⟨Nat.le_of_ble_eq_true rfl, Nat.le_of_ble_eq_true rfl⟩) (mX7_swap l Z (by rfl) eu3) rfl rfl (Nat.le_of_ble_eq_true rfl) dX7_alter_58 ?_
        refine g_goto (pc := 61) C (tgt := 65) dX7_alter_61 (by decide) ?_
        exact g_iret C dX7_alter_65 (pfst h) (psnd h)
    refine g_sw (pc := 14) C (off := 52) (tgt := 66) (1 : Int32) dX7_alter_14 (by decide) (by decide) (by decide) (by decide) h (fun hc14 h => ?_) (fun hn14_1 h => ?_)
    · refine g_iload_n (pc := 66) C dX7_alter_66 rfl 3 rfl ?_
      refine g_iconst (pc := 67) C (v := (1 : Int32)) dX7_alter_67 (by decide) ?_
      refine g_bipush (pc := 68) C (v := (9 : Int32)) dX7_alter_68 (by decide) ?_
      obtain ⟨t4, et4, h⟩ := bs h
      refine g_callSi (pc := 70) C (As := [.int v3, .int (1 : Int32), .int (9 : Int32)]) (rest := []) (va_cwS 3 C.2.2.2.2.2.1 gX7_alter_X7_within rfl rfl rfl (by decide +kernel) ⟨Nat.le_of_ble_eq_true rfl, Nat.le_of_ble_eq_true rfl⟩) (mX7_within l Z  et4) rfl rfl (Nat.le_of_ble_eq_true rfl) dX7_alter_70 ?_
      refine g_if_eq (pc := 73) C (tgt := 91) dX7_alter_73 (by decide) h (fun hc73 h => ?_) (fun hc73 h => ?_)
      · refine g_iconst (pc := 91) C (v := (-1 : Int32)) dX7_alter_91 (by decide) ?_
        exact g_iret C dX7_alter_92 (pfst h) (psnd h)
      · refine g_aload_n (pc := 76) C dX7_alter_76 rfl 0 rfl ?_
        refine g_getr (pc := 77) C (Cn := RX7) (T := TX7) (N := 11) (ci := 7) (k := 0) (j := 0) uX7_alter_X7 (by rfl) rfl (by decide) (by decide +kernel) (q := 1) rfl dX7_alter_77 ?_
        refine g_getrN (pc := 80) C (host := "MoundVotes") (Cn := RX2) (T := TX2) (N := 8) (ci := 2) (k := 1) (j := 5) uX7_alter_X2 (by rfl) rfl (by decide) (by decide +kernel) (q := 4) rfl dX7_alter_80 ?_
        refine g_iload_n (pc := 83) C dX7_alter_83 rfl 1 rfl ?_
        refine g_iload_n (pc := 84) C dX7_alter_84 rfl 3 rfl ?_
        obtain ⟨u5, eu5, h⟩ := bs h
        refine g_callSi (pc := 85) C (As := [.ref (ad Z 4), .int v1, .int v3]) (rest := []) (va_cwS 3 C.2.2.2.2.2.1 gX7_alter_X7_swap rfl rfl rfl (by decide +kernel) ⟨Nat.le_of_ble_eq_true rfl, Nat.le_of_ble_eq_true rfl⟩) (mX7_swap l Z (by rfl) eu5) rfl rfl (Nat.le_of_ble_eq_true rfl) dX7_alter_85 ?_
        refine g_goto (pc := 88) C (tgt := 92) dX7_alter_88 (by decide) ?_
        exact g_iret C dX7_alter_92 (pfst h) (psnd h)
    refine g_sw (pc := 14) C (off := 79) (tgt := 93) (2 : Int32) dX7_alter_14 (by decide) (by decide) (by decide) (by decide) h (fun hc14 h => ?_) (fun hn14_2 h => ?_)
    · refine g_iload_n (pc := 93) C dX7_alter_93 rfl 3 rfl ?_
      refine g_iconst (pc := 94) C (v := (0 : Int32)) dX7_alter_94 (by decide) ?_
      refine g_iconst (pc := 95) C (v := (3 : Int32)) dX7_alter_95 (by decide) ?_
      obtain ⟨t6, et6, h⟩ := bs h
      refine g_callSi (pc := 96) C (As := [.int v3, .int (0 : Int32), .int (3 : Int32)]) (rest := []) (va_cwS 3 C.2.2.2.2.2.1 gX7_alter_X7_within rfl rfl rfl (by decide +kernel) ⟨Nat.le_of_ble_eq_true rfl, Nat.le_of_ble_eq_true rfl⟩) (mX7_within l Z  et6) rfl rfl (Nat.le_of_ble_eq_true rfl) dX7_alter_96 ?_
      refine g_if_eq (pc := 99) C (tgt := 117) dX7_alter_99 (by decide) h (fun hc99 h => ?_) (fun hc99 h => ?_)
      · refine g_iconst (pc := 117) C (v := (-1 : Int32)) dX7_alter_117 (by decide) ?_
        exact g_iret C dX7_alter_118 (pfst h) (psnd h)
      · refine g_aload_n (pc := 102) C dX7_alter_102 rfl 0 rfl ?_
        refine g_getr (pc := 103) C (Cn := RX7) (T := TX7) (N := 11) (ci := 7) (k := 0) (j := 0) uX7_alter_X7 (by rfl) rfl (by decide) (by decide +kernel) (q := 1) rfl dX7_alter_103 ?_
        refine g_getrN (pc := 106) C (host := "MoundVotes") (Cn := RX2) (T := TX2) (N := 8) (ci := 2) (k := 1) (j := 6) uX7_alter_X2 (by rfl) rfl (by decide) (by decide +kernel) (q := 5) rfl dX7_alter_106 ?_
        refine g_iload_n (pc := 109) C dX7_alter_109 rfl 1 rfl ?_
        refine g_iload_n (pc := 110) C dX7_alter_110 rfl 3 rfl ?_
        obtain ⟨u7, eu7, h⟩ := bs h
        refine g_callSi (pc := 111) C (As := [.ref (ad Z 5), .int v1, .int v3]) (rest := []) (va_cwS 3 C.2.2.2.2.2.1 gX7_alter_X7_swap rfl rfl rfl (by decide +kernel) ⟨Nat.le_of_ble_eq_true rfl, Nat.le_of_ble_eq_true rfl⟩) (mX7_swap l Z (by rfl) eu7) rfl rfl (Nat.le_of_ble_eq_true rfl) dX7_alter_111 ?_
        refine g_goto (pc := 114) C (tgt := 118) dX7_alter_114 (by decide) ?_
        exact g_iret C dX7_alter_118 (pfst h) (psnd h)
    refine g_swd (pc := 14) C (tgt := 119) dX7_alter_14 (by have z0 := ne_ti hn14_0; have z1 := ne_ti hn14_1; have z2 := ne_ti hn14_2; simp at z0 z1 z2; omega) (by decide) ?_
    refine g_iconst (pc := 119) C (v := (-1 : Int32)) dX7_alter_119 (by decide) ?_
    exact g_iret C dX7_alter_120 (pfst h) (psnd h)
  · refine g_iconst (pc := 11) C (v := (-1 : Int32)) dX7_alter_11 (by decide) ?_
    exact g_iret C dX7_alter_12 (pfst h) (psnd h)
theorem mX7_alter (l : Launch) (Z : Sh) {σ : Sg} {v1 : Int32} {v2 : Int32} {v3 : Int32} {u : Sg × Int32}  (h : fX7_alter σ v1 v2 v3 = some u) : MI l Z layX yX7_alter wsX7_alter rX7_alter [.ref (ad Z 0), .int v1, .int v2, .int v3] σ u.1 u.2 :=
  MI.of (cc := cX7_alter) (maxL := 4) (ret := (some .int)) (by decide) rfl (Nat.le_of_ble_eq_true rfl) (fun p e s m below meth c C => kX7_alter_e C  h)

def rX7_give : Room := { frames := 2, cells := 0, slots := 0, locals := 45 }
theorem uX7_give_X2 : ∀ w ∈ wsX20, w ∈ wsX7_give := by decide +kernel
theorem uX7_give_X7 : ∀ w ∈ wsX70, w ∈ wsX7_give := by decide +kernel
def fX7_give_b30 (v1 : Int32) (v2 : Int32)  (σ : Sg) : Option (Sg × Int32) := (fX7_swap σ 6 6 v1 v2).bind fun u1 => some (u1.1, u1.2)
def fX7_give (σ : Sg) (v1 : Int32) (v2 : Int32) : Option (Sg × Int32) := (fX2_hasBorough σ 1 v1).bind fun t1 => if t1 = 0 then some (σ, (-1 : Int32)) else if v2 = (-4 : Int32) then fX7_give_b30 v1 v2 σ else (fX2_hasLord σ 1 v2).bind fun t2 => if t2 = 0 then some (σ, (-1 : Int32)) else fX7_give_b30 v1 v2 σ
set_option maxHeartbeats 1000000 in
set_option maxRecDepth 20000 in
theorem kX7_give_b30 {p : Program} {l : Launch} {e : Env} {s : State} {m : MethodId} {args : Array Value} {below : List Frame} {meth : Method} {c : Code} {Z : Sh} (C : Cx p s m args meth c cX7_give 3 wsX7_give RX7 (some .int) Z layX) {v1 : Int32} {v2 : Int32} {u : Sg × Int32}   {σ : Sg} (h : fX7_give_b30 v1 v2 σ = some u) : G p l e rX7_give s m args below meth c 3 Z layX (MQ below (QI Z layX u.1 u.2 s.heap.size) args s 0 0 (pA Z layX s.heap.size)) σ 30 [(0, .ref (ad Z 0)), (1, .int v1), (2, .int v2)] [] := by
  unfold fX7_give_b30 at h
  refine g_aload_n (pc := 30) C dX7_give_30 rfl 0 rfl ?_
  refine g_getr (pc := 31) C (Cn := RX7) (T := TX7) (N := 11) (ci := 7) (k := 0) (j := 0) uX7_give_X7 (by rfl) rfl (by decide) (by decide +kernel) (q := 1) rfl dX7_give_31 ?_
  refine g_getrN (pc := 34) C (host := "MoundVotes") (Cn := RX2) (T := TX2) (N := 8) (ci := 2) (k := 1) (j := 7) uX7_give_X2 (by rfl) rfl (by decide) (by decide +kernel) (q := 6) rfl dX7_give_34 ?_
  refine g_iload_n (pc := 37) C dX7_give_37 rfl 1 rfl ?_
  refine g_iload_n (pc := 38) C dX7_give_38 rfl 2 rfl ?_
  obtain ⟨u1, eu1, h⟩ := bs h
  refine g_callSi (pc := 39) C (As := [.ref (ad Z 6), .int v1, .int v2]) (rest := []) (va_cwS 3 C.2.2.2.2.2.1 gX7_give_X7_swap rfl rfl rfl (by decide +kernel) ⟨Nat.le_of_ble_eq_true rfl, Nat.le_of_ble_eq_true rfl⟩) (mX7_swap l Z (by rfl) eu1) rfl rfl (Nat.le_of_ble_eq_true rfl) dX7_give_39 ?_
  exact g_iret C dX7_give_42 (pfst h) (psnd h)
set_option maxHeartbeats 1000000 in
set_option maxRecDepth 20000 in
theorem kX7_give_e {p : Program} {l : Launch} {e : Env} {s : State} {m : MethodId} {args : Array Value} {below : List Frame} {meth : Method} {c : Code} {Z : Sh} (C : Cx p s m args meth c cX7_give 3 wsX7_give RX7 (some .int) Z layX) {σ : Sg} {v1 : Int32} {v2 : Int32} {u : Sg × Int32}  (h : fX7_give σ v1 v2 = some u) : G p l e rX7_give s m args below meth c 3 Z layX (MQ below (QI Z layX u.1 u.2 s.heap.size) args s 0 0 (pA Z layX s.heap.size)) σ 0 [(0, .ref (ad Z 0)), (1, .int v1), (2, .int v2)] [] := by
  unfold fX7_give at h
  refine g_aload_n (pc := 0) C dX7_give_0 rfl 0 rfl ?_
  refine g_getr (pc := 1) C (Cn := RX7) (T := TX7) (N := 11) (ci := 7) (k := 0) (j := 0) uX7_give_X7 (by rfl) rfl (by decide) (by decide +kernel) (q := 1) rfl dX7_give_1 ?_
  refine g_iload_n (pc := 4) C dX7_give_4 rfl 1 rfl ?_
  obtain ⟨t1, et1, h⟩ := bs h
  refine g_callVi (pc := 5) C (As := [.int v1]) (rest := []) (k := 1) (by rfl) (by rfl) (cwV 1 C.2.2.2.2.2.1 gX7_give_X2_hasBorough rfl rfl rfl (by decide +kernel) ⟨Nat.le_of_ble_eq_true rfl, Nat.le_of_ble_eq_true rfl⟩) (mX2_hasBorough l Z isR1 et1) rfl rfl (Nat.le_of_ble_eq_true rfl) dX7_give_5 ?_
  refine g_if_eq (pc := 8) C (tgt := 28) dX7_give_8 (by decide) h (fun hc8 h => ?_) (fun hc8 h => ?_)
  · refine g_iconst (pc := 28) C (v := (-1 : Int32)) dX7_give_28 (by decide) ?_
    exact g_iret C dX7_give_29 (pfst h) (psnd h)
  · refine g_iload_n (pc := 11) C dX7_give_11 rfl 2 rfl ?_
    refine g_bipush (pc := 12) C (v := (-4 : Int32)) dX7_give_12 (by decide) ?_
    refine g_icmp_eq (pc := 14) C (tgt := 30) dX7_give_14 (by decide) h (fun hc14 h => ?_) (fun hc14 h => ?_)
    · exact g_sub [0, 1, 2] rfl (kX7_give_b30 C    h)
    · refine g_aload_n (pc := 17) C dX7_give_17 rfl 0 rfl ?_
      refine g_getr (pc := 18) C (Cn := RX7) (T := TX7) (N := 11) (ci := 7) (k := 0) (j := 0) uX7_give_X7 (by rfl) rfl (by decide) (by decide +kernel) (q := 1) rfl dX7_give_18 ?_
      refine g_iload_n (pc := 21) C dX7_give_21 rfl 2 rfl ?_
      obtain ⟨t2, et2, h⟩ := bs h
      refine g_callVi (pc := 22) C (As := [.int v2]) (rest := []) (k := 1) (by rfl) (by rfl) (cwV 1 C.2.2.2.2.2.1 gX7_give_X2_hasLord rfl rfl rfl (by decide +kernel) ⟨Nat.le_of_ble_eq_true rfl, Nat.le_of_ble_eq_true rfl⟩) (mX2_hasLord l Z isR1 et2) rfl rfl (Nat.le_of_ble_eq_true rfl) dX7_give_22 ?_
      refine g_if_ne (pc := 25) C (tgt := 30) dX7_give_25 (by decide) h (fun hc25 h => ?_) (fun hc25 h => ?_)
      · exact g_sub [0, 1, 2] rfl (kX7_give_b30 C    h)
      · refine g_iconst (pc := 28) C (v := (-1 : Int32)) dX7_give_28 (by decide) ?_
        exact g_iret C dX7_give_29 (pfst h) (psnd h)
theorem mX7_give (l : Launch) (Z : Sh) {σ : Sg} {v1 : Int32} {v2 : Int32} {u : Sg × Int32}  (h : fX7_give σ v1 v2 = some u) : MI l Z layX yX7_give wsX7_give rX7_give [.ref (ad Z 0), .int v1, .int v2] σ u.1 u.2 :=
  MI.of (cc := cX7_give) (maxL := 3) (ret := (some .int)) (by decide) rfl (Nat.le_of_ble_eq_true rfl) (fun p e s m below meth c C => kX7_give_e C  h)

def rX7_purse : Room := { frames := 2, cells := 0, slots := 0, locals := 45 }
theorem uX7_purse_X2 : ∀ w ∈ wsX20, w ∈ wsX7_purse := by decide +kernel
theorem uX7_purse_X7 : ∀ w ∈ wsX70, w ∈ wsX7_purse := by decide +kernel
def fX7_purse (σ : Sg) (v1 : Int32) (v2 : Int32) : Option (Sg × Int32) := (fX2_hasLord σ 1 v1).bind fun t1 => if t1 = 0 then some (σ, (-1 : Int32)) else (fX7_within v2 (0 : Int32) (99 : Int32)).bind fun t2 => if t2 = 0 then some (σ, (-1 : Int32)) else (fX7_swap σ 2 4 v1 v2).bind fun u3 => some (u3.1, u3.2)
set_option maxHeartbeats 1000000 in
set_option maxRecDepth 20000 in
theorem kX7_purse_e {p : Program} {l : Launch} {e : Env} {s : State} {m : MethodId} {args : Array Value} {below : List Frame} {meth : Method} {c : Code} {Z : Sh} (C : Cx p s m args meth c cX7_purse 3 wsX7_purse RX7 (some .int) Z layX) {σ : Sg} {v1 : Int32} {v2 : Int32} {u : Sg × Int32}  (h : fX7_purse σ v1 v2 = some u) : G p l e rX7_purse s m args below meth c 3 Z layX (MQ below (QI Z layX u.1 u.2 s.heap.size) args s 0 0 (pA Z layX s.heap.size)) σ 0 [(0, .ref (ad Z 0)), (1, .int v1), (2, .int v2)] [] := by
  unfold fX7_purse at h
  refine g_aload_n (pc := 0) C dX7_purse_0 rfl 0 rfl ?_
  refine g_getr (pc := 1) C (Cn := RX7) (T := TX7) (N := 11) (ci := 7) (k := 0) (j := 0) uX7_purse_X7 (by rfl) rfl (by decide) (by decide +kernel) (q := 1) rfl dX7_purse_1 ?_
  refine g_iload_n (pc := 4) C dX7_purse_4 rfl 1 rfl ?_
  obtain ⟨t1, et1, h⟩ := bs h
  refine g_callVi (pc := 5) C (As := [.int v1]) (rest := []) (k := 1) (by rfl) (by rfl) (cwV 1 C.2.2.2.2.2.1 gX7_purse_X2_hasLord rfl rfl rfl (by decide +kernel) ⟨Nat.le_of_ble_eq_true rfl, Nat.le_of_ble_eq_true rfl⟩) (mX2_hasLord l Z isR1 et1) rfl rfl (Nat.le_of_ble_eq_true rfl) dX7_purse_5 ?_
  refine g_if_eq (pc := 8) C (tgt := 21) dX7_purse_8 (by decide) h (fun hc8 h => ?_) (fun hc8 h => ?_)
  · refine g_iconst (pc := 21) C (v := (-1 : Int32)) dX7_purse_21 (by decide) ?_
    exact g_iret C dX7_purse_22 (pfst h) (psnd h)
  · refine g_iload_n (pc := 11) C dX7_purse_11 rfl 2 rfl ?_
    refine g_iconst (pc := 12) C (v := (0 : Int32)) dX7_purse_12 (by decide) ?_
    refine g_bipush (pc := 13) C (v := (99 : Int32)) dX7_purse_13 (by decide) ?_
    obtain ⟨t2, et2, h⟩ := bs h
    refine g_callSi (pc := 15) C (As := [.int v2, .int (0 : Int32), .int (99 : Int32)]) (rest := []) (va_cwS 3 C.2.2.2.2.2.1 gX7_purse_X7_within rfl rfl rfl (by decide +kernel) ⟨Nat.le_of_ble_eq_true rfl, Nat.le_of_ble_eq_true rfl⟩) (mX7_within l Z  et2) rfl rfl (Nat.le_of_ble_eq_true rfl) dX7_purse_15 ?_
    refine g_if_ne (pc := 18) C (tgt := 23) dX7_purse_18 (by decide) h (fun hc18 h => ?_) (fun hc18 h => ?_)
    · refine g_aload_n (pc := 23) C dX7_purse_23 rfl 0 rfl ?_
      refine g_getr (pc := 24) C (Cn := RX7) (T := TX7) (N := 11) (ci := 7) (k := 0) (j := 0) uX7_purse_X7 (by rfl) rfl (by decide) (by decide +kernel) (q := 1) rfl dX7_purse_24 ?_
      refine g_getrN (pc := 27) C (host := "MoundVotes") (Cn := RX2) (T := TX2) (N := 8) (ci := 2) (k := 1) (j := 3) uX7_purse_X2 (by rfl) rfl (by decide) (by decide +kernel) (q := 2) rfl dX7_purse_27 ?_
      refine g_iload_n (pc := 30) C dX7_purse_30 rfl 1 rfl ?_
      refine g_iload_n (pc := 31) C dX7_purse_31 rfl 2 rfl ?_
      obtain ⟨u3, eu3, h⟩ := bs h
      refine g_callSi (pc := 32) C (As := [.ref (ad Z 2), .int v1, .int v2]) (rest := []) (va_cwS 3 C.2.2.2.2.2.1 gX7_purse_X7_swap rfl rfl rfl (by decide +kernel) ⟨Nat.le_of_ble_eq_true rfl, Nat.le_of_ble_eq_true rfl⟩) (mX7_swap l Z (by rfl) eu3) rfl rfl (Nat.le_of_ble_eq_true rfl) dX7_purse_32 ?_
      exact g_iret C dX7_purse_35 (pfst h) (psnd h)
    · refine g_iconst (pc := 21) C (v := (-1 : Int32)) dX7_purse_21 (by decide) ?_
      exact g_iret C dX7_purse_22 (pfst h) (psnd h)
theorem mX7_purse (l : Launch) (Z : Sh) {σ : Sg} {v1 : Int32} {v2 : Int32} {u : Sg × Int32}  (h : fX7_purse σ v1 v2 = some u) : MI l Z layX yX7_purse wsX7_purse rX7_purse [.ref (ad Z 0), .int v1, .int v2] σ u.1 u.2 :=
  MI.of (cc := cX7_purse) (maxL := 3) (ret := (some .int)) (by decide) rfl (Nat.le_of_ble_eq_true rfl) (fun p e s m below meth c C => kX7_purse_e C  h)

def rX7_price : Room := { frames := 1, cells := 0, slots := 0, locals := 22 }
theorem uX7_price_X2 : ∀ w ∈ wsX20, w ∈ wsX7_price := by decide +kernel
theorem uX7_price_X7 : ∀ w ∈ wsX70, w ∈ wsX7_price := by decide +kernel
def fX7_price (σ : Sg) (v1 : Int32) : Option (Sg × Int32) := (fX7_within v1 (0 : Int32) (9 : Int32)).bind fun t1 => if t1 = 0 then some (σ, (-1 : Int32)) else (pf σ 1 2 v1).bind fun σ2 => some (σ2, (σ 1 2))
set_option maxHeartbeats 1000000 in
set_option maxRecDepth 20000 in
theorem kX7_price_e {p : Program} {l : Launch} {e : Env} {s : State} {m : MethodId} {args : Array Value} {below : List Frame} {meth : Method} {c : Code} {Z : Sh} (C : Cx p s m args meth c cX7_price 3 wsX7_price RX7 (some .int) Z layX) {σ : Sg} {v1 : Int32} {u : Sg × Int32}  (h : fX7_price σ v1 = some u) : G p l e rX7_price s m args below meth c 3 Z layX (MQ below (QI Z layX u.1 u.2 s.heap.size) args s 0 0 (pA Z layX s.heap.size)) σ 0 [(0, .ref (ad Z 0)), (1, .int v1)] [] := by
  unfold fX7_price at h
  refine g_iload_n (pc := 0) C dX7_price_0 rfl 1 rfl ?_
  refine g_iconst (pc := 1) C (v := (0 : Int32)) dX7_price_1 (by decide) ?_
  refine g_bipush (pc := 2) C (v := (9 : Int32)) dX7_price_2 (by decide) ?_
  obtain ⟨t1, et1, h⟩ := bs h
  refine g_callSi (pc := 4) C (As := [.int v1, .int (0 : Int32), .int (9 : Int32)]) (rest := []) (va_cwS 3 C.2.2.2.2.2.1 gX7_price_X7_within rfl rfl rfl (by decide +kernel) ⟨Nat.le_of_ble_eq_true rfl, Nat.le_of_ble_eq_true rfl⟩) (mX7_within l Z  et1) rfl rfl (Nat.le_of_ble_eq_true rfl) dX7_price_4 ?_
  refine g_if_ne (pc := 7) C (tgt := 12) dX7_price_7 (by decide) h (fun hc7 h => ?_) (fun hc7 h => ?_)
  · refine g_aload_n (pc := 12) C dX7_price_12 rfl 0 rfl ?_
    refine g_getr (pc := 13) C (Cn := RX7) (T := TX7) (N := 11) (ci := 7) (k := 0) (j := 0) uX7_price_X7 (by rfl) rfl (by decide) (by decide +kernel) (q := 1) rfl dX7_price_13 ?_
    refine g_getiN (pc := 16) C (host := "MoundVotes") (Cn := RX2) (T := TX2) (N := 8) (ci := 2) (k := 1) (j := 2) uX7_price_X2 (by rfl) rfl (by decide) (by decide +kernel) (q := 0) rfl dX7_price_16 ?_
    refine g_istore_n (pc := 19) C (lv2 := [(2, .int (σ 1 2)), (0, .ref (ad Z 0)), (1, .int v1)]) dX7_price_19 rfl (by decide) rfl ?_
    refine g_aload_n (pc := 20) C dX7_price_20 rfl 1 rfl ?_
    refine g_getr (pc := 21) C (Cn := RX7) (T := TX7) (N := 11) (ci := 7) (k := 0) (j := 0) uX7_price_X7 (by rfl) rfl (by decide) (by decide +kernel) (q := 1) rfl dX7_price_21 ?_
    refine g_iload_n (pc := 24) C dX7_price_24 rfl 2 rfl ?_
    obtain ⟨σ2, eσ2, h⟩ := bs h
    refine g_putiN (pc := 25) C (host := "MoundVotes") (Cn := RX2) (T := TX2) (N := 8) (ci := 2) (k := 1) (j := 2) uX7_price_X2 (by rfl) rfl (by decide) (by decide +kernel) tyX2 tyX2_ok nmX2 rfl (by decide +kernel) rfl eσ2 dX7_price_25 ?_
    refine g_iload_n (pc := 28) C dX7_price_28 rfl 0 rfl ?_
    exact g_iret C dX7_price_29 (pfst h) (psnd h)
  · refine g_iconst (pc := 10) C (v := (-1 : Int32)) dX7_price_10 (by decide) ?_
    exact g_iret C dX7_price_11 (pfst h) (psnd h)
theorem mX7_price (l : Launch) (Z : Sh) {σ : Sg} {v1 : Int32} {u : Sg × Int32}  (h : fX7_price σ v1 = some u) : MI l Z layX yX7_price wsX7_price rX7_price [.ref (ad Z 0), .int v1] σ u.1 u.2 :=
  MI.of (cc := cX7_price) (maxL := 3) (ret := (some .int)) (by decide) rfl (Nat.le_of_ble_eq_true rfl) (fun p e s m below meth c C => kX7_price_e C  h)

def rX7_buy : Room := { frames := 5, cells := 0, slots := 0, locals := 110 }
theorem uX7_buy_X2 : ∀ w ∈ wsX20, w ∈ wsX7_buy := by decide +kernel
theorem uX7_buy_X7 : ∀ w ∈ wsX70, w ∈ wsX7_buy := by decide +kernel
def fX7_buy (σ : Sg) (v1 : Int32) (v2 : Int32) : Option (Sg × Int32) := (fX2_hasLord σ 1 v1).bind fun t1 => if t1 = 0 then some (σ, (-1 : Int32)) else (fX2_hasBorough σ 1 v2).bind fun t2 => if t2 = 0 then some (σ, (-1 : Int32)) else (fX2_sell σ 1 v1 v2).bind fun u3 => if u3.2 = 0 then some (u3.1, (-2 : Int32)) else (rd (u3.1 2) 4 v1).bind fun t4 => some (u3.1, t4)
set_option maxHeartbeats 1000000 in
set_option maxRecDepth 20000 in
theorem kX7_buy_e {p : Program} {l : Launch} {e : Env} {s : State} {m : MethodId} {args : Array Value} {below : List Frame} {meth : Method} {c : Code} {Z : Sh} (C : Cx p s m args meth c cX7_buy 3 wsX7_buy RX7 (some .int) Z layX) {σ : Sg} {v1 : Int32} {v2 : Int32} {u : Sg × Int32}  (h : fX7_buy σ v1 v2 = some u) : G p l e rX7_buy s m args below meth c 3 Z layX (MQ below (QI Z layX u.1 u.2 s.heap.size) args s 0 0 (pA Z layX s.heap.size)) σ 0 [(0, .ref (ad Z 0)), (1, .int v1), (2, .int v2)] [] := by
  unfold fX7_buy at h
  refine g_aload_n (pc := 0) C dX7_buy_0 rfl 0 rfl ?_
  refine g_getr (pc := 1) C (Cn := RX7) (T := TX7) (N := 11) (ci := 7) (k := 0) (j := 0) uX7_buy_X7 (by rfl) rfl (by decide) (by decide +kernel) (q := 1) rfl dX7_buy_1 ?_
  refine g_iload_n (pc := 4) C dX7_buy_4 rfl 1 rfl ?_
  obtain ⟨t1, et1, h⟩ := bs h
  refine g_callVi (pc := 5) C (As := [.int v1]) (rest := []) (k := 1) (by rfl) (by rfl) (cwV 1 C.2.2.2.2.2.1 gX7_buy_X2_hasLord rfl rfl rfl (by decide +kernel) ⟨Nat.le_of_ble_eq_true rfl, Nat.le_of_ble_eq_true rfl⟩) (mX2_hasLord l Z isR1 et1) rfl rfl (Nat.le_of_ble_eq_true rfl) dX7_buy_5 ?_
  refine g_if_eq (pc := 8) C (tgt := 22) dX7_buy_8 (by decide) h (fun hc8 h => ?_) (fun hc8 h => ?_)
  · refine g_iconst (pc := 22) C (v := (-1 : Int32)) dX7_buy_22 (by decide) ?_
    exact g_iret C dX7_buy_23 (pfst h) (psnd h)
  · refine g_aload_n (pc := 11) C dX7_buy_11 rfl 0 rfl ?_
    refine g_getr (pc := 12) C (Cn := RX7) (T := TX7) (N := 11) (ci := 7) (k := 0) (j := 0) uX7_buy_X7 (by rfl) rfl (by decide) (by decide +kernel) (q := 1) rfl dX7_buy_12 ?_
    refine g_iload_n (pc := 15) C dX7_buy_15 rfl 2 rfl ?_
    obtain ⟨t2, et2, h⟩ := bs h
    refine g_callVi (pc := 16) C (As := [.int v2]) (rest := []) (k := 1) (by rfl) (by rfl) (cwV 1 C.2.2.2.2.2.1 gX7_buy_X2_hasBorough rfl rfl rfl (by decide +kernel) ⟨Nat.le_of_ble_eq_true rfl, Nat.le_of_ble_eq_true rfl⟩) (mX2_hasBorough l Z isR1 et2) rfl rfl (Nat.le_of_ble_eq_true rfl) dX7_buy_16 ?_
    refine g_if_ne (pc := 19) C (tgt := 24) dX7_buy_19 (by decide) h (fun hc19 h => ?_) (fun hc19 h => ?_)
    · refine g_aload_n (pc := 24) C dX7_buy_24 rfl 0 rfl ?_
      refine g_getr (pc := 25) C (Cn := RX7) (T := TX7) (N := 11) (ci := 7) (k := 0) (j := 0) uX7_buy_X7 (by rfl) rfl (by decide) (by decide +kernel) (q := 1) rfl dX7_buy_25 ?_
      refine g_iload_n (pc := 28) C dX7_buy_28 rfl 1 rfl ?_
      refine g_iload_n (pc := 29) C dX7_buy_29 rfl 2 rfl ?_
      obtain ⟨u3, eu3, h⟩ := bs h
      refine g_callVi (pc := 30) C (As := [.int v1, .int v2]) (rest := []) (k := 1) (by rfl) (by rfl) (cwV 2 C.2.2.2.2.2.1 gX7_buy_X2_sell rfl rfl rfl (by decide +kernel) ⟨Nat.le_of_ble_eq_true rfl, Nat.le_of_ble_eq_true rfl⟩) (mX2_sell l Z isR1 eu3) rfl rfl (Nat.le_of_ble_eq_true rfl) dX7_buy_30 ?_
      refine g_if_eq (pc := 33) C (tgt := 48) dX7_buy_33 (by decide) h (fun hc33 h => ?_) (fun hc33 h => ?_)
      · refine g_bipush (pc := 48) C (v := (-2 : Int32)) dX7_buy_48 (by decide) ?_
        exact g_iret C dX7_buy_50 (pfst h) (psnd h)
      · refine g_aload_n (pc := 36) C dX7_buy_36 rfl 0 rfl ?_
        refine g_getr (pc := 37) C (Cn := RX7) (T := TX7) (N := 11) (ci := 7) (k := 0) (j := 0) uX7_buy_X7 (by rfl) rfl (by decide) (by decide +kernel) (q := 1) rfl dX7_buy_37 ?_
        refine g_getrN (pc := 40) C (host := "MoundVotes") (Cn := RX2) (T := TX2) (N := 8) (ci := 2) (k := 1) (j := 3) uX7_buy_X2 (by rfl) rfl (by decide) (by decide +kernel) (q := 2) rfl dX7_buy_40 ?_
        refine g_iload_n (pc := 43) C dX7_buy_43 rfl 1 rfl ?_
        obtain ⟨t4, et4, h⟩ := bs h
        refine g_iald (pc := 44) C (k := 2) (n := 4) (by rfl) et4 dX7_buy_44 ?_
        refine g_goto (pc := 45) C (tgt := 50) dX7_buy_45 (by decide) ?_
        exact g_iret C dX7_buy_50 (pfst h) (psnd h)
    · refine g_iconst (pc := 22) C (v := (-1 : Int32)) dX7_buy_22 (by decide) ?_
      exact g_iret C dX7_buy_23 (pfst h) (psnd h)
theorem mX7_buy (l : Launch) (Z : Sh) {σ : Sg} {v1 : Int32} {v2 : Int32} {u : Sg × Int32}  (h : fX7_buy σ v1 v2 = some u) : MI l Z layX yX7_buy wsX7_buy rX7_buy [.ref (ad Z 0), .int v1, .int v2] σ u.1 u.2 :=
  MI.of (cc := cX7_buy) (maxL := 3) (ret := (some .int)) (by decide) rfl (Nat.le_of_ble_eq_true rfl) (fun p e s m below meth c C => kX7_buy_e C  h)

def rX7_take : Room := { frames := 4, cells := 0, slots := 0, locals := 88 }
theorem uX7_take_X2 : ∀ w ∈ wsX20, w ∈ wsX7_take := by decide +kernel
theorem uX7_take_X4 : ∀ w ∈ wsX40, w ∈ wsX7_take := by decide +kernel
theorem uX7_take_X7 : ∀ w ∈ wsX70, w ∈ wsX7_take := by decide +kernel
def fX7_take_l48 (v1 : Int32)  : Nat → Sg → Int32 → Int32 → Option (Sg × Int32)
  | 0, _, _, _ => none
  | n + 1, σ, v2, v3 => if (σ 1 1) ≤ v3 then some (σ, v2) else (fX7_holds v2 v3).bind fun t1 => if t1 = 0 then fX7_take_l48 v1 n σ v2 (v3 + 1) else (wr σ 5 6 v3 (0 : Int32)).bind fun σ2 => fX7_take_l48 v1 n σ2 v2 (v3 + 1)
def fX7_take (σ : Sg) (v1 : Int32) : Option (Sg × Int32) := (fX7_within v1 (0 : Int32) (6 : Int32)).bind fun t1 => if t1 = 0 then some (σ, (-1 : Int32)) else (fX4_rank σ 1).bind fun σ2 => if v1 ≤ (σ2 40 1) then (fX4_first σ2 v1).bind fun t3 => fX7_take_l48 v1 2000 σ2 t3 (0 : Int32) else some (σ2, (-4 : Int32))
set_option maxHeartbeats 1000000 in
set_option maxRecDepth 20000 in
theorem kX7_take_l48 {p : Program} {l : Launch} {e : Env} {s : State} {m : MethodId} {args : Array Value} {below : List Frame} {meth : Method} {c : Code} {Z : Sh} (C : Cx p s m args meth c cX7_take 4 wsX7_take RX7 (some .int) Z layX) {v1 : Int32} {u : Sg × Int32}   : ∀ (n : Nat) (σ : Sg) (v2 : Int32) (v3 : Int32), fX7_take_l48 v1 n σ v2 v3 = some u → G p l e rX7_take s m args below meth c 4 Z layX (MQ below (QI Z layX u.1 u.2 s.heap.size) args s 0 0 (pA Z layX s.heap.size)) σ 48 [(0, .ref (ad Z 0)), (2, .int v2), (3, .int v3)] [] := by
  intro n
  induction n with
  | zero => intro σ v2 v3 h; exact absurd h (by simp [fX7_take_l48])
  | succ n ih =>
    intro σ v2 v3 h
    rw [fX7_take_l48] at h
    refine g_iload_n (pc := 48) C dX7_take_48 rfl 2 rfl ?_
    refine g_aload_n (pc := 49) C dX7_take_49 rfl 0 rfl ?_
    refine g_getr (pc := 50) C (Cn := RX7) (T := TX7) (N := 11) (ci := 7) (k := 0) (j := 0) uX7_take_X7 (by rfl) rfl (by decide) (by decide +kernel) (q := 1) rfl dX7_take_50 ?_
    refine g_getiN (pc := 53) C (host := "MoundVotes") (Cn := RX2) (T := TX2) (N := 8) (ci := 2) (k := 1) (j := 1) uX7_take_X2 (by rfl) rfl (by decide) (by decide +kernel) (q := 0) rfl dX7_take_53 ?_
    refine g_icmp_ge (pc := 56) C (tgt := 83) dX7_take_56 (by decide) h (fun hc56 h => ?_) (fun hc56 h => ?_)
    · refine g_iload_n (pc := 83) C dX7_take_83 rfl 1 rfl ?_
      exact g_iret C dX7_take_84 (pfst h) (psnd h)
    · refine g_iload_n (pc := 59) C dX7_take_59 rfl 1 rfl ?_
      refine g_iload_n (pc := 60) C dX7_take_60 rfl 2 rfl ?_
      obtain ⟨t1, et1, h⟩ := bs h
      refine g_callSi (pc := 61) C (As := [.int v2, .int v3]) (rest := []) (va_cwS 2 C.2.2.2.2.2.1 gX7_take_X7_holds rfl rfl rfl (by decide +kernel) ⟨Nat.le_of_ble_eq_true rfl, Nat.le_of_ble_eq_true rfl⟩) (mX7_holds l Z  et1) rfl rfl (Nat.le_of_ble_eq_true rfl) dX7_take_61 ?_
      refine g_if_eq (pc := 64) C (tgt := 77) dX7_take_64 (by decide) h (fun hc64 h => ?_) (fun hc64 h => ?_)
      · refine g_iinc (pc := 77) C (j := 2) (v := (v3 + 1)) (lv2 := [(3, .int (v3 + 1)), (0, .ref (ad Z 0)), (2, .int v2)]) dX7_take_77 rfl rfl (by decide) rfl ?_
        refine g_goto (pc := 80) C (tgt := 48) dX7_take_80 (by decide) ?_
        exact g_sub [1, 2, 0] rfl (ih _ _ _ h)
      · refine g_aload_n (pc := 67) C dX7_take_67 rfl 0 rfl ?_
        refine g_getr (pc := 68) C (Cn := RX7) (T := TX7) (N := 11) (ci := 7) (k := 0) (j := 0) uX7_take_X7 (by rfl) rfl (by decide) (by decide +kernel) (q := 1) rfl dX7_take_68 ?_
        refine g_getrN (pc := 71) C (host := "MoundVotes") (Cn := RX2) (T := TX2) (N := 8) (ci := 2) (k := 1) (j := 6) uX7_take_X2 (by rfl) rfl (by decide) (by decide +kernel) (q := 5) rfl dX7_take_71 ?_
        refine g_iload_n (pc := 74) C dX7_take_74 rfl 2 rfl ?_
        refine g_iconst (pc := 75) C (v := (0 : Int32)) dX7_take_75 (by decide) ?_
        obtain ⟨σ2, eσ2, h⟩ := bs h
        refine g_iast (pc := 76) C (k := 5) (n := 6) (by rfl) eσ2 dX7_take_76 ?_
        refine g_iinc (pc := 77) C (j := 2) (v := (v3 + 1)) (lv2 := [(3, .int (v3 + 1)), (0, .ref (ad Z 0)), (2, .int v2)]) dX7_take_77 rfl rfl (by decide) rfl ?_
        refine g_goto (pc := 80) C (tgt := 48) dX7_take_80 (by decide) ?_
        exact g_sub [1, 2, 0] rfl (ih _ _ _ h)
set_option maxHeartbeats 1000000 in
set_option maxRecDepth 20000 in
theorem kX7_take_e {p : Program} {l : Launch} {e : Env} {s : State} {m : MethodId} {args : Array Value} {below : List Frame} {meth : Method} {c : Code} {Z : Sh} (C : Cx p s m args meth c cX7_take 4 wsX7_take RX7 (some .int) Z layX) {σ : Sg} {v1 : Int32} {u : Sg × Int32}  (h : fX7_take σ v1 = some u) : G p l e rX7_take s m args below meth c 4 Z layX (MQ below (QI Z layX u.1 u.2 s.heap.size) args s 0 0 (pA Z layX s.heap.size)) σ 0 [(0, .ref (ad Z 0)), (1, .int v1)] [] := by
  unfold fX7_take at h
  refine g_iload_n (pc := 0) C dX7_take_0 rfl 1 rfl ?_
  refine g_iconst (pc := 1) C (v := (0 : Int32)) dX7_take_1 (by decide) ?_
  refine g_bipush (pc := 2) C (v := (6 : Int32)) dX7_take_2 (by decide) ?_
  obtain ⟨t1, et1, h⟩ := bs h
  refine g_callSi (pc := 4) C (As := [.int v1, .int (0 : Int32), .int (6 : Int32)]) (rest := []) (va_cwS 3 C.2.2.2.2.2.1 gX7_take_X7_within rfl rfl rfl (by decide +kernel) ⟨Nat.le_of_ble_eq_true rfl, Nat.le_of_ble_eq_true rfl⟩) (mX7_within l Z  et1) rfl rfl (Nat.le_of_ble_eq_true rfl) dX7_take_4 ?_
  refine g_if_ne (pc := 7) C (tgt := 12) dX7_take_7 (by decide) h (fun hc7 h => ?_) (fun hc7 h => ?_)
  · refine g_aload_n (pc := 12) C dX7_take_12 rfl 0 rfl ?_
    refine g_getr (pc := 13) C (Cn := RX7) (T := TX7) (N := 11) (ci := 7) (k := 0) (j := 8) uX7_take_X7 (by rfl) rfl (by decide) (by decide +kernel) (q := 40) rfl dX7_take_13 ?_
    refine g_aload_n (pc := 16) C dX7_take_16 rfl 0 rfl ?_
    refine g_getr (pc := 17) C (Cn := RX7) (T := TX7) (N := 11) (ci := 7) (k := 0) (j := 0) uX7_take_X7 (by rfl) rfl (by decide) (by decide +kernel) (q := 1) rfl dX7_take_17 ?_
    obtain ⟨σ2, eσ2, h⟩ := bs h
    refine g_callVv (pc := 20) C (As := [.ref (ad Z 1)]) (rest := []) (k := 40) (by rfl) (by rfl) (cwV 1 C.2.2.2.2.2.1 gX7_take_X4_rank rfl rfl rfl (by decide +kernel) ⟨Nat.le_of_ble_eq_true rfl, Nat.le_of_ble_eq_true rfl⟩) (mX4_rank l Z isR1 eσ2) rfl rfl (Nat.le_of_ble_eq_true rfl) dX7_take_20 ?_
    refine g_iload_n (pc := 23) C dX7_take_23 rfl 1 rfl ?_
    refine g_aload_n (pc := 24) C dX7_take_24 rfl 0 rfl ?_
    refine g_getr (pc := 25) C (Cn := RX7) (T := TX7) (N := 11) (ci := 7) (k := 0) (j := 8) uX7_take_X7 (by rfl) rfl (by decide) (by decide +kernel) (q := 40) rfl dX7_take_25 ?_
    refine g_getiN (pc := 28) C (host := "MoundVotes") (Cn := RX4) (T := TX4) (N := 2) (ci := 4) (k := 40) (j := 1) uX7_take_X4 (by rfl) rfl (by decide) (by decide +kernel) (q := 0) rfl dX7_take_28 ?_
    refine g_icmp_le (pc := 31) C (tgt := 37) dX7_take_31 (by decide) h (fun hc31 h => ?_) (fun hc31 h => ?_)
    · refine g_aload_n (pc := 37) C dX7_take_37 rfl 0 rfl ?_
      refine g_getr (pc := 38) C (Cn := RX7) (T := TX7) (N := 11) (ci := 7) (k := 0) (j := 8) uX7_take_X7 (by rfl) rfl (by decide) (by decide +kernel) (q := 40) rfl dX7_take_38 ?_
      refine g_iload_n (pc := 41) C dX7_take_41 rfl 1 rfl ?_
      obtain ⟨t3, et3, h⟩ := bs h
      refine g_callVi (pc := 42) C (As := [.int v1]) (rest := []) (k := 40) (by rfl) (by rfl) (cwV 1 C.2.2.2.2.2.1 gX7_take_X4_first rfl rfl rfl (by decide +kernel) ⟨Nat.le_of_ble_eq_true rfl, Nat.le_of_ble_eq_true rfl⟩) (mX4_first l Z  et3) rfl rfl (Nat.le_of_ble_eq_true rfl) dX7_take_42 ?_
      refine g_istore_n (pc := 45) C (lv2 := [(2, .int t3), (0, .ref (ad Z 0)), (1, .int v1)]) dX7_take_45 rfl (by decide) rfl ?_
      refine g_iconst (pc := 46) C (v := (0 : Int32)) dX7_take_46 (by decide) ?_
      refine g_istore_n (pc := 47) C (lv2 := [(3, .int (0 : Int32)), (2, .int t3), (0, .ref (ad Z 0)), (1, .int v1)]) dX7_take_47 rfl (by decide) rfl ?_
      exact g_sub [2, 1, 0] rfl (kX7_take_l48 C   _ _ _ _ h)
    · refine g_bipush (pc := 34) C (v := (-4 : Int32)) dX7_take_34 (by decide) ?_
      exact g_iret C dX7_take_36 (pfst h) (psnd h)
  · refine g_iconst (pc := 10) C (v := (-1 : Int32)) dX7_take_10 (by decide) ?_
    exact g_iret C dX7_take_11 (pfst h) (psnd h)
theorem mX7_take (l : Launch) (Z : Sh) {σ : Sg} {v1 : Int32} {u : Sg × Int32}  (h : fX7_take σ v1 = some u) : MI l Z layX yX7_take wsX7_take rX7_take [.ref (ad Z 0), .int v1] σ u.1 u.2 :=
  MI.of (cc := cX7_take) (maxL := 4) (ret := (some .int)) (by decide) rfl (Nat.le_of_ble_eq_true rfl) (fun p e s m below meth c C => kX7_take_e C  h)

def rX7_swings : Room := { frames := 3, cells := 0, slots := 0, locals := 68 }
theorem uX7_swings_X7 : ∀ w ∈ wsX70, w ∈ wsX7_swings := by decide +kernel
def fX7_swings (σ : Sg) (v1 : Int32) : Option (Sg × Int32) := (fX2_hasLord σ 1 v1).bind fun t1 => if t1 = 0 then some (σ, (-1 : Int32)) else (fX0_gather σ 1).bind fun σ2 => (fX0_swingsOf σ2 v1).bind fun u3 => some (u3.1, u3.2)
set_option maxHeartbeats 1000000 in
set_option maxRecDepth 20000 in
theorem kX7_swings_e {p : Program} {l : Launch} {e : Env} {s : State} {m : MethodId} {args : Array Value} {below : List Frame} {meth : Method} {c : Code} {Z : Sh} (C : Cx p s m args meth c cX7_swings 2 wsX7_swings RX7 (some .int) Z layX) {σ : Sg} {v1 : Int32} {u : Sg × Int32}  (h : fX7_swings σ v1 = some u) : G p l e rX7_swings s m args below meth c 2 Z layX (MQ below (QI Z layX u.1 u.2 s.heap.size) args s 0 0 (pA Z layX s.heap.size)) σ 0 [(0, .ref (ad Z 0)), (1, .int v1)] [] := by
  unfold fX7_swings at h
  refine g_aload_n (pc := 0) C dX7_swings_0 rfl 0 rfl ?_
  refine g_getr (pc := 1) C (Cn := RX7) (T := TX7) (N := 11) (ci := 7) (k := 0) (j := 0) uX7_swings_X7 (by rfl) rfl (by decide) (by decide +kernel) (q := 1) rfl dX7_swings_1 ?_
  refine g_iload_n (pc := 4) C dX7_swings_4 rfl 1 rfl ?_
  obtain ⟨t1, et1, h⟩ := bs h
  refine g_callVi (pc := 5) C (As := [.int v1]) (rest := []) (k := 1) (by rfl) (by rfl) (cwV 1 C.2.2.2.2.2.1 gX7_swings_X2_hasLord rfl rfl rfl (by decide +kernel) ⟨Nat.le_of_ble_eq_true rfl, Nat.le_of_ble_eq_true rfl⟩) (mX2_hasLord l Z isR1 et1) rfl rfl (Nat.le_of_ble_eq_true rfl) dX7_swings_5 ?_
  refine g_if_ne (pc := 8) C (tgt := 13) dX7_swings_8 (by decide) h (fun hc8 h => ?_) (fun hc8 h => ?_)
  · refine g_aload_n (pc := 13) C dX7_swings_13 rfl 0 rfl ?_
    refine g_getr (pc := 14) C (Cn := RX7) (T := TX7) (N := 11) (ci := 7) (k := 0) (j := 6) uX7_swings_X7 (by rfl) rfl (by decide) (by decide +kernel) (q := 34) rfl dX7_swings_14 ?_
    refine g_aload_n (pc := 17) C dX7_swings_17 rfl 0 rfl ?_
    refine g_getr (pc := 18) C (Cn := RX7) (T := TX7) (N := 11) (ci := 7) (k := 0) (j := 0) uX7_swings_X7 (by rfl) rfl (by decide) (by decide +kernel) (q := 1) rfl dX7_swings_18 ?_
    obtain ⟨σ2, eσ2, h⟩ := bs h
    refine g_callVv (pc := 21) C (As := [.ref (ad Z 1)]) (rest := []) (k := 34) (by rfl) (by rfl) (cwV 1 C.2.2.2.2.2.1 gX7_swings_X0_gather rfl rfl rfl (by decide +kernel) ⟨Nat.le_of_ble_eq_true rfl, Nat.le_of_ble_eq_true rfl⟩) (mX0_gather l Z isR1 eσ2) rfl rfl (Nat.le_of_ble_eq_true rfl) dX7_swings_21 ?_
    refine g_aload_n (pc := 24) C dX7_swings_24 rfl 0 rfl ?_
    refine g_getr (pc := 25) C (Cn := RX7) (T := TX7) (N := 11) (ci := 7) (k := 0) (j := 6) uX7_swings_X7 (by rfl) rfl (by decide) (by decide +kernel) (q := 34) rfl dX7_swings_25 ?_
    refine g_iload_n (pc := 28) C dX7_swings_28 rfl 1 rfl ?_
    obtain ⟨u3, eu3, h⟩ := bs h
    refine g_callVi (pc := 29) C (As := [.int v1]) (rest := []) (k := 34) (by rfl) (by rfl) (cwV 1 C.2.2.2.2.2.1 gX7_swings_X0_swingsOf rfl rfl rfl (by decide +kernel) ⟨Nat.le_of_ble_eq_true rfl, Nat.le_of_ble_eq_true rfl⟩) (mX0_swingsOf l Z  eu3) rfl rfl (Nat.le_of_ble_eq_true rfl) dX7_swings_29 ?_
    exact g_iret C dX7_swings_32 (pfst h) (psnd h)
  · refine g_iconst (pc := 11) C (v := (-1 : Int32)) dX7_swings_11 (by decide) ?_
    exact g_iret C dX7_swings_12 (pfst h) (psnd h)
theorem mX7_swings (l : Launch) (Z : Sh) {σ : Sg} {v1 : Int32} {u : Sg × Int32}  (h : fX7_swings σ v1 = some u) : MI l Z layX yX7_swings wsX7_swings rX7_swings [.ref (ad Z 0), .int v1] σ u.1 u.2 :=
  MI.of (cc := cX7_swings) (maxL := 2) (ret := (some .int)) (by decide) rfl (Nat.le_of_ble_eq_true rfl) (fun p e s m below meth c C => kX7_swings_e C  h)

def rX7_commonDivisor : Room := { frames := 0, cells := 0, slots := 0, locals := 0 }
def fX7_commonDivisor_l9 (v0 : Int64) (v2 : Int64)  : Nat → Int64 → Int64 → Int32 → Option (Int64)
  | 0, _, _, _ => none
  | n + 1, v4, v6, v8 => if (100 : Int32) ≤ v8 then some v4 else if (lg_cmp v6 (0 : Int64)) = 0 then some v4 else (rmL v4 v6).bind fun t1 => fX7_commonDivisor_l9 v0 v2 n v6 t1 (v8 + 1)
def fX7_commonDivisor (v0 : Int64) (v2 : Int64) : Option (Int64) := fX7_commonDivisor_l9 v0 v2 2000 v0 v2 (0 : Int32)
set_option maxHeartbeats 1000000 in
set_option maxRecDepth 20000 in
theorem kX7_commonDivisor_l9 {p : Program} {l : Launch} {e : Env} {s : State} {m : MethodId} {args : Array Value} {below : List Frame} {meth : Method} {c : Code} {Z : Sh} (C : Cx p s m args meth c cX7_commonDivisor 11 wsX7_commonDivisor RX7 (some .long) Z layX) {σ : Sg} {v0 : Int64} {v2 : Int64} {u : Int64}   : ∀ (n : Nat) (v4 : Int64) (v6 : Int64) (v8 : Int32), fX7_commonDivisor_l9 v0 v2 n v4 v6 v8 = some u → G p l e rX7_commonDivisor s m args below meth c 11 Z layX (MQ below (QL Z layX σ u s.heap.size) args s 0 0 (pA Z layX s.heap.size)) σ 9 [(4, .long v4), (6, .long v6), (8, .int v8)] [] := by
  intro n
  induction n with
  | zero => intro v4 v6 v8 h; exact absurd h (by simp [fX7_commonDivisor_l9])
  | succ n ih =>
    intro v4 v6 v8 h
    rw [fX7_commonDivisor_l9] at h
    refine g_iload (pc := 9) C dX7_commonDivisor_9 2 rfl ?_
    refine g_bipush (pc := 11) C (v := (100 : Int32)) dX7_commonDivisor_11 (by decide) ?_
    refine g_icmp_ge (pc := 13) C (tgt := 44) dX7_commonDivisor_13 (by decide) h (fun hc13 h => ?_) (fun hc13 h => ?_)
    · refine g_lload (pc := 44) C dX7_commonDivisor_44 0 rfl ?_
      exact g_lret C dX7_commonDivisor_46 rfl (Option.some.inj h)
    · refine g_lload (pc := 16) C dX7_commonDivisor_16 1 rfl ?_
      refine g_lconst (pc := 18) C (v := (0 : Int64)) dX7_commonDivisor_18 (by decide) ?_
      refine g_lcmp (pc := 19) C dX7_commonDivisor_19 ?_
      refine g_if_eq (pc := 20) C (tgt := 44) dX7_commonDivisor_20 (by decide) h (fun hc20 h => ?_) (fun hc20 h => ?_)
      · refine g_lload (pc := 44) C dX7_commonDivisor_44 0 rfl ?_
        exact g_lret C dX7_commonDivisor_46 rfl (Option.some.inj h)
      · refine g_lload (pc := 23) C dX7_commonDivisor_23 0 rfl ?_
        refine g_lload (pc := 25) C dX7_commonDivisor_25 1 rfl ?_
        obtain ⟨t1, et1, h⟩ := bs h
        refine g_lrem (pc := 27) C dX7_commonDivisor_27 et1 ?_
        refine g_lstore (pc := 28) C (lv2 := [(9, .long t1), (4, .long v4), (6, .long v6), (8, .int v8)]) dX7_commonDivisor_28 (by decide) rfl ?_
        refine g_lload (pc := 30) C dX7_commonDivisor_30 2 rfl ?_
        refine g_lstore (pc := 32) C (lv2 := [(4, .long v6), (9, .long t1), (6, .long v6), (8, .int v8)]) dX7_commonDivisor_32 (by decide) rfl ?_
        refine g_lload (pc := 34) C dX7_commonDivisor_34 1 rfl ?_
        refine g_lstore (pc := 36) C (lv2 := [(6, .long t1), (4, .long v6), (9, .long t1), (8, .int v8)]) dX7_commonDivisor_36 (by decide) rfl ?_
        refine g_iinc (pc := 38) C (j := 3) (v := (v8 + 1)) (lv2 := [(8, .int (v8 + 1)), (6, .long t1), (4, .long v6), (9, .long t1)]) dX7_commonDivisor_38 rfl rfl (by decide) rfl ?_
        refine g_goto (pc := 41) C (tgt := 9) dX7_commonDivisor_41 (by decide) ?_
        exact g_sub [2, 1, 0] rfl (ih _ _ _ h)
set_option maxHeartbeats 1000000 in
set_option maxRecDepth 20000 in
theorem kX7_commonDivisor_e {p : Program} {l : Launch} {e : Env} {s : State} {m : MethodId} {args : Array Value} {below : List Frame} {meth : Method} {c : Code} {Z : Sh} (C : Cx p s m args meth c cX7_commonDivisor 11 wsX7_commonDivisor RX7 (some .long) Z layX) {σ : Sg} {v0 : Int64} {v2 : Int64} {u : Int64}  (h : fX7_commonDivisor v0 v2 = some u) : G p l e rX7_commonDivisor s m args below meth c 11 Z layX (MQ below (QL Z layX σ u s.heap.size) args s 0 0 (pA Z layX s.heap.size)) σ 0 [(0, .long v0), (2, .long v2)] [] := by
  unfold fX7_commonDivisor at h
  refine g_lload_n (pc := 0) C dX7_commonDivisor_0 rfl 0 rfl ?_
  refine g_lstore (pc := 1) C (lv2 := [(4, .long v0), (0, .long v0), (2, .long v2)]) dX7_commonDivisor_1 (by decide) rfl ?_
  refine g_lload_n (pc := 3) C dX7_commonDivisor_3 rfl 2 rfl ?_
  refine g_lstore (pc := 4) C (lv2 := [(6, .long v2), (4, .long v0), (0, .long v0), (2, .long v2)]) dX7_commonDivisor_4 (by decide) rfl ?_
  refine g_iconst (pc := 6) C (v := (0 : Int32)) dX7_commonDivisor_6 (by decide) ?_
  refine g_istore (pc := 7) C (lv2 := [(8, .int (0 : Int32)), (6, .long v2), (4, .long v0), (0, .long v0), (2, .long v2)]) dX7_commonDivisor_7 (by decide) rfl ?_
  exact g_sub [2, 1, 0] rfl (kX7_commonDivisor_l9 C   _ _ _ _ h)
theorem mX7_commonDivisor (l : Launch) (Z : Sh) {σ : Sg} {v0 : Int64} {v2 : Int64} {u : Int64}  (h : fX7_commonDivisor v0 v2 = some u) : ML l Z layX yX7_commonDivisor wsX7_commonDivisor rX7_commonDivisor [.long v0, .long v2] σ σ u :=
  ML.of (cc := cX7_commonDivisor) (maxL := 11) (ret := (some .long)) (by decide) rfl (Nat.le_of_ble_eq_true rfl) (fun p e s m below meth c C => kX7_commonDivisor_e C  h)

def rX7_fraction : Room := { frames := 1, cells := 0, slots := 0, locals := 30 }
def fX7_fraction (v0 : Int64) (v2 : Int64) (v4 : Int32) : Option (Int64) := (fX7_commonDivisor v0 v2).bind fun t1 => if 0 < (lg_cmp t1 (0 : Int64)) then if v4 = 0 then (dvL v0 t1).bind fun t3 => some t3 else (dvL v2 t1).bind fun t2 => some t2 else some (0 : Int64)
set_option maxHeartbeats 1000000 in
set_option maxRecDepth 20000 in
theorem kX7_fraction_e {p : Program} {l : Launch} {e : Env} {s : State} {m : MethodId} {args : Array Value} {below : List Frame} {meth : Method} {c : Code} {Z : Sh} (C : Cx p s m args meth c cX7_fraction 7 wsX7_fraction RX7 (some .long) Z layX) {σ : Sg} {v0 : Int64} {v2 : Int64} {v4 : Int32} {u : Int64}  (h : fX7_fraction v0 v2 v4 = some u) : G p l e rX7_fraction s m args below meth c 7 Z layX (MQ below (QL Z layX σ u s.heap.size) args s 0 0 (pA Z layX s.heap.size)) σ 0 [(0, .long v0), (2, .long v2), (4, .int v4)] [] := by
  unfold fX7_fraction at h
  refine g_lload_n (pc := 0) C dX7_fraction_0 rfl 0 rfl ?_
  refine g_lload_n (pc := 1) C dX7_fraction_1 rfl 1 rfl ?_
  obtain ⟨t1, et1, h⟩ := bs h
  refine g_callSl (pc := 2) C (As := [.long v0, .long v2]) (rest := []) (va_cwS 2 C.2.2.2.2.2.1 gX7_fraction_X7_commonDivisor rfl rfl rfl (by decide +kernel) ⟨Nat.le_of_ble_eq_true rfl, Nat.le_of_ble_eq_true rfl⟩) (mX7_commonDivisor l Z  et1) rfl rfl (Nat.le_of_ble_eq_true rfl) dX7_fraction_2 ?_
  refine g_lstore (pc := 5) C (lv2 := [(5, .long t1), (0, .long v0), (2, .long v2), (4, .int v4)]) dX7_fraction_5 (by decide) rfl ?_
  refine g_lload (pc := 7) C dX7_fraction_7 0 rfl ?_
  refine g_lconst (pc := 9) C (v := (0 : Int64)) dX7_fraction_9 (by decide) ?_
  refine g_lcmp (pc := 10) C dX7_fraction_10 ?_
  refine g_if_gt (pc := 11) C (tgt := 18) dX7_fraction_11 (by decide) h (fun hc11 h => ?_) (fun hc11 h => ?_)
  · refine g_iload (pc := 18) C dX7_fraction_18 3 rfl ?_
    refine g_if_ne (pc := 20) C (tgt := 27) dX7_fraction_20 (by decide) h (fun hc20 h => ?_) (fun hc20 h => ?_)
    · refine g_lload_n (pc := 27) C dX7_fraction_27 rfl 2 rfl ?_
      refine g_lload (pc := 28) C dX7_fraction_28 0 rfl ?_
      obtain ⟨t2, et2, h⟩ := bs h
      refine g_ldiv (pc := 30) C dX7_fraction_30 et2 ?_
      exact g_lret C dX7_fraction_31 rfl (Option.some.inj h)
    · refine g_lload_n (pc := 23) C dX7_fraction_23 rfl 1 rfl ?_
      refine g_goto (pc := 24) C (tgt := 28) dX7_fraction_24 (by decide) ?_
      refine g_lload (pc := 28) C dX7_fraction_28 0 rfl ?_
      obtain ⟨t3, et3, h⟩ := bs h
      refine g_ldiv (pc := 30) C dX7_fraction_30 et3 ?_
      exact g_lret C dX7_fraction_31 rfl (Option.some.inj h)
  · refine g_lconst (pc := 14) C (v := (0 : Int64)) dX7_fraction_14 (by decide) ?_
    refine g_goto (pc := 15) C (tgt := 31) dX7_fraction_15 (by decide) ?_
    exact g_lret C dX7_fraction_31 rfl (Option.some.inj h)
theorem mX7_fraction (l : Launch) (Z : Sh) {σ : Sg} {v0 : Int64} {v2 : Int64} {v4 : Int32} {u : Int64}  (h : fX7_fraction v0 v2 v4 = some u) : ML l Z layX yX7_fraction wsX7_fraction rX7_fraction [.long v0, .long v2, .int v4] σ σ u :=
  ML.of (cc := cX7_fraction) (maxL := 7) (ret := (some .long)) (by decide) rfl (Nat.le_of_ble_eq_true rfl) (fun p e s m below meth c C => kX7_fraction_e C  h)

def rJ6_bitCount_0f7a4 : Room := { frames := 0, cells := 0, slots := 0, locals := 0 }
def fJ6_bitCount_0f7a4 (v0 : Int32) : Option (Int32) := some ((((((((v0 - (((v0.toUInt32 >>> ((1 : Int32).toUInt32 &&& Int32.toUInt32 31)).toInt32) &&& (1431655765 : Int32))) &&& (858993459 : Int32)) + ((((v0 - (((v0.toUInt32 >>> ((1 : Int32).toUInt32 &&& Int32.toUInt32 31)).toInt32) &&& (1431655765 : Int32))).toUInt32 >>> ((2 : Int32).toUInt32 &&& Int32.toUInt32 31)).toInt32) &&& (858993459 : Int32))) + (((((v0 - (((v0.toUInt32 >>> ((1 : Int32).toUInt32 &&& Int32.toUInt32 31)).toInt32) &&& (1431655765 : Int32))) &&& (858993459 : Int32)) + ((((v0 - (((v0.toUInt32 >>> ((1 : Int32).toUInt32 &&& Int32.toUInt32 31)).toInt32) &&& (1431655765 : Int32))).toUInt32 >>> ((2 : Int32).toUInt32 &&& Int32.toUInt32 31)).toInt32) &&& (858993459 : Int32))).toUInt32 >>> ((4 : Int32).toUInt32 &&& Int32.toUInt32 31)).toInt32)) &&& (252645135 : Int32)) + (((((((v0 - (((v0.toUInt32 >>> ((1 : Int32).toUInt32 &&& Int32.toUInt32 31)).toInt32) &&& (1431655765 : Int32))) &&& (858993459 : Int32)) + ((((v0 - (((v0.toUInt32 >>> ((1 : Int32).toUInt32 &&& Int32.toUInt32 31)).toInt32) &&& (1431655765 : Int32))).toUInt32 >>> ((2 : Int32).toUInt32 &&& Int32.toUInt32 31)).toInt32) &&& (858993459 : Int32))) + (((((v0 - (((v0.toUInt32 >>> ((1 : Int32).toUInt32 &&& Int32.toUInt32 31)).toInt32) &&& (1431655765 : Int32))) &&& (858993459 : Int32)) + ((((v0 - (((v0.toUInt32 >>> ((1 : Int32).toUInt32 &&& Int32.toUInt32 31)).toInt32) &&& (1431655765 : Int32))).toUInt32 >>> ((2 : Int32).toUInt32 &&& Int32.toUInt32 31)).toInt32) &&& (858993459 : Int32))).toUInt32 >>> ((4 : Int32).toUInt32 &&& Int32.toUInt32 31)).toInt32)) &&& (252645135 : Int32)).toUInt32 >>> ((8 : Int32).toUInt32 &&& Int32.toUInt32 31)).toInt32)) + ((((((((v0 - (((v0.toUInt32 >>> ((1 : Int32).toUInt32 &&& Int32.toUInt32 31)).toInt32) &&& (1431655765 : Int32))) &&& (858993459 : Int32)) + ((((v0 - (((v0.toUInt32 >>> ((1 : Int32).toUInt32 &&& Int32.toUInt32 31)).toInt32) &&& (1431655765 : Int32))).toUInt32 >>> ((2 : Int32).toUInt32 &&& Int32.toUInt32 31)).toInt32) &&& (858993459 : Int32))) + (((((v0 - (((v0.toUInt32 >>> ((1 : Int32).toUInt32 &&& Int32.toUInt32 31)).toInt32) &&& (1431655765 : Int32))) &&& (858993459 : Int32)) + ((((v0 - (((v0.toUInt32 >>> ((1 : Int32).toUInt32 &&& Int32.toUInt32 31)).toInt32) &&& (1431655765 : Int32))).toUInt32 >>> ((2 : Int32).toUInt32 &&& Int32.toUInt32 31)).toInt32) &&& (858993459 : Int32))).toUInt32 >>> ((4 : Int32).toUInt32 &&& Int32.toUInt32 31)).toInt32)) &&& (252645135 : Int32)) + (((((((v0 - (((v0.toUInt32 >>> ((1 : Int32).toUInt32 &&& Int32.toUInt32 31)).toInt32) &&& (1431655765 : Int32))) &&& (858993459 : Int32)) + ((((v0 - (((v0.toUInt32 >>> ((1 : Int32).toUInt32 &&& Int32.toUInt32 31)).toInt32) &&& (1431655765 : Int32))).toUInt32 >>> ((2 : Int32).toUInt32 &&& Int32.toUInt32 31)).toInt32) &&& (858993459 : Int32))) + (((((v0 - (((v0.toUInt32 >>> ((1 : Int32).toUInt32 &&& Int32.toUInt32 31)).toInt32) &&& (1431655765 : Int32))) &&& (858993459 : Int32)) + ((((v0 - (((v0.toUInt32 >>> ((1 : Int32).toUInt32 &&& Int32.toUInt32 31)).toInt32) &&& (1431655765 : Int32))).toUInt32 >>> ((2 : Int32).toUInt32 &&& Int32.toUInt32 31)).toInt32) &&& (858993459 : Int32))).toUInt32 >>> ((4 : Int32).toUInt32 &&& Int32.toUInt32 31)).toInt32)) &&& (252645135 : Int32)).toUInt32 >>> ((8 : Int32).toUInt32 &&& Int32.toUInt32 31)).toInt32)).toUInt32 >>> ((16 : Int32).toUInt32 &&& Int32.toUInt32 31)).toInt32)) &&& (63 : Int32))
set_option maxHeartbeats 1000000 in
set_option maxRecDepth 20000 in
theorem kJ6_bitCount_0f7a4_e {p : Program} {l : Launch} {e : Env} {s : State} {m : MethodId} {args : Array Value} {below : List Frame} {meth : Method} {c : Code} {Z : Sh} (C : Cx p s m args meth c cJ6_bitCount_0f7a4 1 wsJ6_bitCount_0f7a4 RJ6 (some .int) Z layX) {σ : Sg} {v0 : Int32} {u : Int32}  (h : fJ6_bitCount_0f7a4 v0 = some u) : G p l e rJ6_bitCount_0f7a4 s m args below meth c 1 Z layX (MQ below (QI Z layX σ u s.heap.size) args s 0 0 (pA Z layX s.heap.size)) σ 0 [(0, .int v0)] [] := by
  unfold fJ6_bitCount_0f7a4 at h
  refine g_iload_n (pc := 0) C dJ6_bitCount_0f7a4_0 rfl 0 rfl ?_
  refine g_iload_n (pc := 1) C dJ6_bitCount_0f7a4_1 rfl 0 rfl ?_
  refine g_iconst (pc := 2) C (v := (1 : Int32)) dJ6_bitCount_0f7a4_2 (by decide) ?_
  refine g_iushr (pc := 3) C dJ6_bitCount_0f7a4_3 ?_
  refine g_ldcw (pc := 4) C (v := (1431655765 : Int32)) (by decide +kernel) dJ6_bitCount_0f7a4_4 ?_
  refine g_iand (pc := 7) C dJ6_bitCount_0f7a4_7 ?_
  refine g_isub (pc := 8) C dJ6_bitCount_0f7a4_8 ?_
  refine g_istore_n (pc := 9) C (lv2 := [(0, .int (v0 - (((v0.toUInt32 >>> ((1 : Int32).toUInt32 &&& Int32.toUInt32 31)).toInt32) &&& (1431655765 : Int32))))]) dJ6_bitCount_0f7a4_9 rfl (by decide) rfl ?_
  refine g_iload_n (pc := 10) C dJ6_bitCount_0f7a4_10 rfl 0 rfl ?_
  refine g_ldcw (pc := 11) C (v := (858993459 : Int32)) (by decide +kernel) dJ6_bitCount_0f7a4_11 ?_
  refine g_iand (pc := 14) C dJ6_bitCount_0f7a4_14 ?_
  refine g_iload_n (pc := 15) C dJ6_bitCount_0f7a4_15 rfl 0 rfl ?_
  refine g_iconst (pc := 16) C (v := (2 : Int32)) dJ6_bitCount_0f7a4_16 (by decide) ?_
  refine g_iushr (pc := 17) C dJ6_bitCount_0f7a4_17 ?_
  refine g_ldcw (pc := 18) C (v := (858993459 : Int32)) (by decide +kernel) dJ6_bitCount_0f7a4_18 ?_
  refine g_iand (pc := 21) C dJ6_bitCount_0f7a4_21 ?_
  refine g_iadd (pc := 22) C dJ6_bitCount_0f7a4_22 ?_
  refine g_istore_n (pc := 23) C (lv2 := [(0, .int (((v0 - (((v0.toUInt32 >>> ((1 : Int32).toUInt32 &&& Int32.toUInt32 31)).toInt32) &&& (1431655765 : Int32))) &&& (858993459 : Int32)) + ((((v0 - (((v0.toUInt32 >>> ((1 : Int32).toUInt32 &&& Int32.toUInt32 31)).toInt32) &&& (1431655765 : Int32))).toUInt32 >>> ((2 : Int32).toUInt32 &&& Int32.toUInt32 31)).toInt32) &&& (858993459 : Int32))))]) dJ6_bitCount_0f7a4_23 rfl (by decide) rfl ?_
  refine g_iload_n (pc := 24) C dJ6_bitCount_0f7a4_24 rfl 0 rfl ?_
  refine g_iload_n (pc := 25) C dJ6_bitCount_0f7a4_25 rfl 0 rfl ?_
  refine g_iconst (pc := 26) C (v := (4 : Int32)) dJ6_bitCount_0f7a4_26 (by decide) ?_
  refine g_iushr (pc := 27) C dJ6_bitCount_0f7a4_27 ?_
  refine g_iadd (pc := 28) C dJ6_bitCount_0f7a4_28 ?_
  refine g_ldcw (pc := 29) C (v := (252645135 : Int32)) (by decide +kernel) dJ6_bitCount_0f7a4_29 ?_
  refine g_iand (pc := 32) C dJ6_bitCount_0f7a4_32 ?_
  refine g_istore_n (pc := 33) C (lv2 := [(0, .int (((((v0 - (((v0.toUInt32 >>> ((1 : Int32).toUInt32 &&& Int32.toUInt32 31)).toInt32) &&& (1431655765 : Int32))) &&& (858993459 : Int32)) + ((((v0 - (((v0.toUInt32 >>> ((1 : Int32).toUInt32 &&& Int32.toUInt32 31)).toInt32) &&& (1431655765 : Int32))).toUInt32 >>> ((2 : Int32).toUInt32 &&& Int32.toUInt32 31)).toInt32) &&& (858993459 : Int32))) + (((((v0 - (((v0.toUInt32 >>> ((1 : Int32).toUInt32 &&& Int32.toUInt32 31)).toInt32) &&& (1431655765 : Int32))) &&& (858993459 : Int32)) + ((((v0 - (((v0.toUInt32 >>> ((1 : Int32).toUInt32 &&& Int32.toUInt32 31)).toInt32) &&& (1431655765 : Int32))).toUInt32 >>> ((2 : Int32).toUInt32 &&& Int32.toUInt32 31)).toInt32) &&& (858993459 : Int32))).toUInt32 >>> ((4 : Int32).toUInt32 &&& Int32.toUInt32 31)).toInt32)) &&& (252645135 : Int32)))]) dJ6_bitCount_0f7a4_33 rfl (by decide) rfl ?_
  refine g_iload_n (pc := 34) C dJ6_bitCount_0f7a4_34 rfl 0 rfl ?_
  refine g_iload_n (pc := 35) C dJ6_bitCount_0f7a4_35 rfl 0 rfl ?_
  refine g_bipush (pc := 36) C (v := (8 : Int32)) dJ6_bitCount_0f7a4_36 (by decide) ?_
  refine g_iushr (pc := 38) C dJ6_bitCount_0f7a4_38 ?_
  refine g_iadd (pc := 39) C dJ6_bitCount_0f7a4_39 ?_
  refine g_istore_n (pc := 40) C (lv2 := [(0, .int ((((((v0 - (((v0.toUInt32 >>> ((1 : Int32).toUInt32 &&& Int32.toUInt32 31)).toInt32) &&& (1431655765 : Int32))) &&& (858993459 : Int32)) + ((((v0 - (((v0.toUInt32 >>> ((1 : Int32).toUInt32 &&& Int32.toUInt32 31)).toInt32) &&& (1431655765 : Int32))).toUInt32 >>> ((2 : Int32).toUInt32 &&& Int32.toUInt32 31)).toInt32) &&& (858993459 : Int32))) + (((((v0 - (((v0.toUInt32 >>> ((1 : Int32).toUInt32 &&& Int32.toUInt32 31)).toInt32) &&& (1431655765 : Int32))) &&& (858993459 : Int32)) + ((((v0 - (((v0.toUInt32 >>> ((1 : Int32).toUInt32 &&& Int32.toUInt32 31)).toInt32) &&& (1431655765 : Int32))).toUInt32 >>> ((2 : Int32).toUInt32 &&& Int32.toUInt32 31)).toInt32) &&& (858993459 : Int32))).toUInt32 >>> ((4 : Int32).toUInt32 &&& Int32.toUInt32 31)).toInt32)) &&& (252645135 : Int32)) + (((((((v0 - (((v0.toUInt32 >>> ((1 : Int32).toUInt32 &&& Int32.toUInt32 31)).toInt32) &&& (1431655765 : Int32))) &&& (858993459 : Int32)) + ((((v0 - (((v0.toUInt32 >>> ((1 : Int32).toUInt32 &&& Int32.toUInt32 31)).toInt32) &&& (1431655765 : Int32))).toUInt32 >>> ((2 : Int32).toUInt32 &&& Int32.toUInt32 31)).toInt32) &&& (858993459 : Int32))) + (((((v0 - (((v0.toUInt32 >>> ((1 : Int32).toUInt32 &&& Int32.toUInt32 31)).toInt32) &&& (1431655765 : Int32))) &&& (858993459 : Int32)) + ((((v0 - (((v0.toUInt32 >>> ((1 : Int32).toUInt32 &&& Int32.toUInt32 31)).toInt32) &&& (1431655765 : Int32))).toUInt32 >>> ((2 : Int32).toUInt32 &&& Int32.toUInt32 31)).toInt32) &&& (858993459 : Int32))).toUInt32 >>> ((4 : Int32).toUInt32 &&& Int32.toUInt32 31)).toInt32)) &&& (252645135 : Int32)).toUInt32 >>> ((8 : Int32).toUInt32 &&& Int32.toUInt32 31)).toInt32)))]) dJ6_bitCount_0f7a4_40 rfl (by decide) rfl ?_
  refine g_iload_n (pc := 41) C dJ6_bitCount_0f7a4_41 rfl 0 rfl ?_
  refine g_iload_n (pc := 42) C dJ6_bitCount_0f7a4_42 rfl 0 rfl ?_
  refine g_bipush (pc := 43) C (v := (16 : Int32)) dJ6_bitCount_0f7a4_43 (by decide) ?_
  refine g_iushr (pc := 45) C dJ6_bitCount_0f7a4_45 ?_
  refine g_iadd (pc := 46) C dJ6_bitCount_0f7a4_46 ?_
  refine g_istore_n (pc := 47) C (lv2 := [(0, .int (((((((v0 - (((v0.toUInt32 >>> ((1 : Int32).toUInt32 &&& Int32.toUInt32 31)).toInt32) &&& (1431655765 : Int32))) &&& (858993459 : Int32)) + ((((v0 - (((v0.toUInt32 >>> ((1 : Int32).toUInt32 &&& Int32.toUInt32 31)).toInt32) &&& (1431655765 : Int32))).toUInt32 >>> ((2 : Int32).toUInt32 &&& Int32.toUInt32 31)).toInt32) &&& (858993459 : Int32))) + (((((v0 - (((v0.toUInt32 >>> ((1 : Int32).toUInt32 &&& Int32.toUInt32 31)).toInt32) &&& (1431655765 : Int32))) &&& (858993459 : Int32)) + ((((v0 - (((v0.toUInt32 >>> ((1 : Int32).toUInt32 &&& Int32.toUInt32 31)).toInt32) &&& (1431655765 : Int32))).toUInt32 >>> ((2 : Int32).toUInt32 &&& Int32.toUInt32 31)).toInt32) &&& (858993459 : Int32))).toUInt32 >>> ((4 : Int32).toUInt32 &&& Int32.toUInt32 31)).toInt32)) &&& (252645135 : Int32)) + (((((((v0 - (((v0.toUInt32 >>> ((1 : Int32).toUInt32 &&& Int32.toUInt32 31)).toInt32) &&& (1431655765 : Int32))) &&& (858993459 : Int32)) + ((((v0 - (((v0.toUInt32 >>> ((1 : Int32).toUInt32 &&& Int32.toUInt32 31)).toInt32) &&& (1431655765 : Int32))).toUInt32 >>> ((2 : Int32).toUInt32 &&& Int32.toUInt32 31)).toInt32) &&& (858993459 : Int32))) + (((((v0 - (((v0.toUInt32 >>> ((1 : Int32).toUInt32 &&& Int32.toUInt32 31)).toInt32) &&& (1431655765 : Int32))) &&& (858993459 : Int32)) + ((((v0 - (((v0.toUInt32 >>> ((1 : Int32).toUInt32 &&& Int32.toUInt32 31)).toInt32) &&& (1431655765 : Int32))).toUInt32 >>> ((2 : Int32).toUInt32 &&& Int32.toUInt32 31)).toInt32) &&& (858993459 : Int32))).toUInt32 >>> ((4 : Int32).toUInt32 &&& Int32.toUInt32 31)).toInt32)) &&& (252645135 : Int32)).toUInt32 >>> ((8 : Int32).toUInt32 &&& Int32.toUInt32 31)).toInt32)) + ((((((((v0 - (((v0.toUInt32 >>> ((1 : Int32).toUInt32 &&& Int32.toUInt32 31)).toInt32) &&& (1431655765 : Int32))) &&& (858993459 : Int32)) + ((((v0 - (((v0.toUInt32 >>> ((1 : Int32).toUInt32 &&& Int32.toUInt32 31)).toInt32) &&& (1431655765 : Int32))).toUInt32 >>> ((2 : Int32).toUInt32 &&& Int32.toUInt32 31)).toInt32) &&& (858993459 : Int32))) + (((((v0 - (((v0.toUInt32 >>> ((1 : Int32).toUInt32 &&& Int32.toUInt32 31)).toInt32) &&& (1431655765 : Int32))) &&& (858993459 : Int32)) + ((((v0 - (((v0.toUInt32 >>> ((1 : Int32).toUInt32 &&& Int32.toUInt32 31)).toInt32) &&& (1431655765 : Int32))).toUInt32 >>> ((2 : Int32).toUInt32 &&& Int32.toUInt32 31)).toInt32) &&& (858993459 : Int32))).toUInt32 >>> ((4 : Int32).toUInt32 &&& Int32.toUInt32 31)).toInt32)) &&& (252645135 : Int32)) + (((((((v0 - (((v0.toUInt32 >>> ((1 : Int32).toUInt32 &&& Int32.toUInt32 31)).toInt32) &&& (1431655765 : Int32))) &&& (858993459 : Int32)) + ((((v0 - (((v0.toUInt32 >>> ((1 : Int32).toUInt32 &&& Int32.toUInt32 31)).toInt32) &&& (1431655765 : Int32))).toUInt32 >>> ((2 : Int32).toUInt32 &&& Int32.toUInt32 31)).toInt32) &&& (858993459 : Int32))) + (((((v0 - (((v0.toUInt32 >>> ((1 : Int32).toUInt32 &&& Int32.toUInt32 31)).toInt32) &&& (1431655765 : Int32))) &&& (858993459 : Int32)) + ((((v0 - (((v0.toUInt32 >>> ((1 : Int32).toUInt32 &&& Int32.toUInt32 31)).toInt32) &&& (1431655765 : Int32))).toUInt32 >>> ((2 : Int32).toUInt32 &&& Int32.toUInt32 31)).toInt32) &&& (858993459 : Int32))).toUInt32 >>> ((4 : Int32).toUInt32 &&& Int32.toUInt32 31)).toInt32)) &&& (252645135 : Int32)).toUInt32 >>> ((8 : Int32).toUInt32 &&& Int32.toUInt32 31)).toInt32)).toUInt32 >>> ((16 : Int32).toUInt32 &&& Int32.toUInt32 31)).toInt32)))]) dJ6_bitCount_0f7a4_47 rfl (by decide) rfl ?_
  refine g_iload_n (pc := 48) C dJ6_bitCount_0f7a4_48 rfl 0 rfl ?_
  refine g_bipush (pc := 49) C (v := (63 : Int32)) dJ6_bitCount_0f7a4_49 (by decide) ?_
  refine g_iand (pc := 51) C dJ6_bitCount_0f7a4_51 ?_
  exact g_iret C dJ6_bitCount_0f7a4_52 rfl (Option.some.inj h)
theorem mJ6_bitCount_0f7a4 (l : Launch) (Z : Sh) {σ : Sg} {v0 : Int32} {u : Int32}  (h : fJ6_bitCount_0f7a4 v0 = some u) : MI l Z layX yJ6_bitCount_0f7a4 wsJ6_bitCount_0f7a4 rJ6_bitCount_0f7a4 [.int v0] σ σ u :=
  MI.of (cc := cJ6_bitCount_0f7a4) (maxL := 1) (ret := (some .int)) (by decide) rfl (Nat.le_of_ble_eq_true rfl) (fun p e s m below meth c C => kJ6_bitCount_0f7a4_e C  h)

def rX7_costOrSet : Room := { frames := 4, cells := 0, slots := 0, locals := 87 }
theorem uX7_costOrSet_X7 : ∀ w ∈ wsX70, w ∈ wsX7_costOrSet := by decide +kernel
def fX7_costOrSet (σ : Sg) (v1 : Int32) (v2 : Int32) : Option (Int32) := if v1 = (-4 : Int32) then some v1 else if v2 = (1 : Int32) then some v1 else (fX2_costOfAll σ 1 v1).bind fun t1 => some t1
set_option maxHeartbeats 1000000 in
set_option maxRecDepth 20000 in
theorem kX7_costOrSet_e {p : Program} {l : Launch} {e : Env} {s : State} {m : MethodId} {args : Array Value} {below : List Frame} {meth : Method} {c : Code} {Z : Sh} (C : Cx p s m args meth c cX7_costOrSet 3 wsX7_costOrSet RX7 (some .int) Z layX) {σ : Sg} {v1 : Int32} {v2 : Int32} {u : Int32}  (h : fX7_costOrSet σ v1 v2 = some u) : G p l e rX7_costOrSet s m args below meth c 3 Z layX (MQ below (QI Z layX σ u s.heap.size) args s 0 0 (pA Z layX s.heap.size)) σ 0 [(0, .ref (ad Z 0)), (1, .int v1), (2, .int v2)] [] := by
  unfold fX7_costOrSet at h
  refine g_iload_n (pc := 0) C dX7_costOrSet_0 rfl 1 rfl ?_
  refine g_bipush (pc := 1) C (v := (-4 : Int32)) dX7_costOrSet_1 (by decide) ?_
  refine g_icmp_eq (pc := 3) C (tgt := 11) dX7_costOrSet_3 (by decide) h (fun hc3 h => ?_) (fun hc3 h => ?_)
  · refine g_iload_n (pc := 11) C dX7_costOrSet_11 rfl 1 rfl ?_
    refine g_goto (pc := 12) C (tgt := 23) dX7_costOrSet_12 (by decide) ?_
    exact g_iret C dX7_costOrSet_23 rfl (Option.some.inj h)
  · refine g_iload_n (pc := 6) C dX7_costOrSet_6 rfl 2 rfl ?_
    refine g_iconst (pc := 7) C (v := (1 : Int32)) dX7_costOrSet_7 (by decide) ?_
    refine g_icmp_ne (pc := 8) C (tgt := 15) dX7_costOrSet_8 (by decide) h (fun hc8 h => ?_) (fun hc8 h => ?_)
    · refine g_aload_n (pc := 15) C dX7_costOrSet_15 rfl 0 rfl ?_
      refine g_getr (pc := 16) C (Cn := RX7) (T := TX7) (N := 11) (ci := 7) (k := 0) (j := 0) uX7_costOrSet_X7 (by rfl) rfl (by decide) (by decide +kernel) (q := 1) rfl dX7_costOrSet_16 ?_
      refine g_iload_n (pc := 19) C dX7_costOrSet_19 rfl 1 rfl ?_
      obtain ⟨t1, et1, h⟩ := bs h
      refine g_callVi (pc := 20) C (As := [.int v1]) (rest := []) (k := 1) (by rfl) (by rfl) (cwV 1 C.2.2.2.2.2.1 gX7_costOrSet_X2_costOfAll rfl rfl rfl (by decide +kernel) ⟨Nat.le_of_ble_eq_true rfl, Nat.le_of_ble_eq_true rfl⟩) (mX2_costOfAll l Z isR1 et1) rfl rfl (Nat.le_of_ble_eq_true rfl) dX7_costOrSet_20 ?_
      exact g_iret C dX7_costOrSet_23 rfl (Option.some.inj h)
    · refine g_iload_n (pc := 11) C dX7_costOrSet_11 rfl 1 rfl ?_
      refine g_goto (pc := 12) C (tgt := 23) dX7_costOrSet_12 (by decide) ?_
      exact g_iret C dX7_costOrSet_23 rfl (Option.some.inj h)
theorem mX7_costOrSet (l : Launch) (Z : Sh) {σ : Sg} {v1 : Int32} {v2 : Int32} {u : Int32}  (h : fX7_costOrSet σ v1 v2 = some u) : MI l Z layX yX7_costOrSet wsX7_costOrSet rX7_costOrSet [.ref (ad Z 0), .int v1, .int v2] σ σ u :=
  MI.of (cc := cX7_costOrSet) (maxL := 3) (ret := (some .int)) (by decide) rfl (Nat.le_of_ble_eq_true rfl) (fun p e s m below meth c C => kX7_costOrSet_e C  h)
