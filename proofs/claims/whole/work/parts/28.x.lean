def rX7_count : Room := { frames := 3, cells := 0, slots := 0, locals := 65 }
theorem uX7_count_X2 : ∀ w ∈ wsX20, w ∈ wsX7_count := by decide +kernel
theorem uX7_count_X3 : ∀ w ∈ wsX30, w ∈ wsX7_count := by decide +kernel
theorem uX7_count_X5 : ∀ w ∈ wsX50, w ∈ wsX7_count := by decide +kernel
theorem uX7_count_X6 : ∀ w ∈ wsX60, w ∈ wsX7_count := by decide +kernel
theorem uX7_count_X7 : ∀ w ∈ wsX70, w ∈ wsX7_count := by decide +kernel
def fX7_count_b62 (σ : Sg) (v1 : Int32)  (s0 : Int32) : Option (Int32) := (rd (σ 43) 2 (1 : Int32)).bind fun t1 => if t1 = 0 then some (s0 + (0 : Int32)) else some (s0 + (1 : Int32))
def fX7_count (σ : Sg) (v1 : Int32) : Option (Int32) := if v1 = (0 : Int32) then some (σ 37 2) else if v1 = (1 : Int32) then (rd (σ 43) 2 (0 : Int32)).bind fun t1 => if t1 = 0 then fX7_count_b62 σ v1 (0 : Int32) else fX7_count_b62 σ v1 (1 : Int32) else if v1 = (2 : Int32) then some (σ 32 1) else if v1 = (3 : Int32) then (rx [45, 47, 49, 51] (0 : Int32)).bind fun q2 => some (σ q2 2) else if v1 = (4 : Int32) then (fX2_allVotes σ 1).bind fun t3 => some t3 else if v1 = (5 : Int32) then (fX2_ownerless σ 1).bind fun t4 => (fJ6_bitCount_0f7a4 t4).bind fun t5 => some ((σ 1 0) + t5) else some (-1 : Int32)
set_option maxHeartbeats 1000000 in
set_option maxRecDepth 20000 in
theorem kX7_count_b62 {p : Program} {l : Launch} {e : Env} {s : State} {m : MethodId} {args : Array Value} {below : List Frame} {meth : Method} {c : Code} {Z : Sh} (C : Cx p s m args meth c cX7_count 2 wsX7_count RX7 (some .int) Z layX) {σ : Sg} {v1 : Int32} {u : Int32}   {s0 : Int32} (h : fX7_count_b62 σ v1 s0 = some u) : G p l e rX7_count s m args below meth c 2 Z layX (MQ below (QI Z layX σ u s.heap.size) args s 0 0 (pA Z layX s.heap.size)) σ 62 [(0, .ref (ad Z 0))] [.int s0] := by
  unfold fX7_count_b62 at h
  refine g_aload_n (pc := 62) C dX7_count_62 rfl 0 rfl ?_
  refine g_getr (pc := 63) C (Cn := RX7) (T := TX7) (N := 11) (ci := 7) (k := 0) (j := 3) uX7_count_X7 (by rfl) rfl (by decide) (by decide +kernel) (q := 43) rfl dX7_count_63 ?_
  refine g_iconst (pc := 66) C (v := (1 : Int32)) dX7_count_66 (by decide) ?_
  obtain ⟨t1, et1, h⟩ := bs h
  refine g_zald (pc := 67) C (k := 43) (n := 2) (by rfl) et1 dX7_count_67 ?_
  refine g_if_eq (pc := 68) C (tgt := 75) dX7_count_68 (by decide) h (fun hc68 h => ?_) (fun hc68 h => ?_)
  · refine g_iconst (pc := 75) C (v := (0 : Int32)) dX7_count_75 (by decide) ?_
    refine g_iadd (pc := 76) C dX7_count_76 ?_
    exact g_iret C dX7_count_77 rfl (Option.some.inj h)
  · refine g_iconst (pc := 71) C (v := (1 : Int32)) dX7_count_71 (by decide) ?_
    refine g_goto (pc := 72) C (tgt := 76) dX7_count_72 (by decide) ?_
    refine g_iadd (pc := 76) C dX7_count_76 ?_
    exact g_iret C dX7_count_77 rfl (Option.some.inj h)
set_option maxHeartbeats 1000000 in
set_option maxRecDepth 20000 in
theorem kX7_count_e {p : Program} {l : Launch} {e : Env} {s : State} {m : MethodId} {args : Array Value} {below : List Frame} {meth : Method} {c : Code} {Z : Sh} (C : Cx p s m args meth c cX7_count 2 wsX7_count RX7 (some .int) Z layX) {σ : Sg} {v1 : Int32} {u : Int32}  (h : fX7_count σ v1 = some u) : G p l e rX7_count s m args below meth c 2 Z layX (MQ below (QI Z layX σ u s.heap.size) args s 0 0 (pA Z layX s.heap.size)) σ 0 [(0, .ref (ad Z 0)), (1, .int v1)] [] := by
  unfold fX7_count at h
  refine g_iload_n (pc := 0) C dX7_count_0 rfl 1 rfl ?_
  refine g_sw (pc := 1) C (off := 39) (tgt := 40) (0 : Int32) dX7_count_1 (by decide) (by decide) (by decide) (by decide) h (fun hc1 h => ?_) (fun hn1_0 h => ?_)
  · refine g_aload_n (pc := 40) C dX7_count_40 rfl 0 rfl ?_
    refine g_getr (pc := 41) C (Cn := RX7) (T := TX7) (N := 11) (ci := 7) (k := 0) (j := 7) uX7_count_X7 (by rfl) rfl (by decide) (by decide +kernel) (q := 37) rfl dX7_count_41 ?_
    refine g_getiN (pc := 44) C (host := "MoundVotes") (Cn := RX6) (T := TX6) (N := 3) (ci := 6) (k := 37) (j := 2) uX7_count_X6 (by rfl) rfl (by decide) (by decide +kernel) (q := 0) rfl dX7_count_44 ?_
    exact g_iret C dX7_count_47 rfl (Option.some.inj h)
  refine g_sw (pc := 1) C (off := 47) (tgt := 48) (1 : Int32) dX7_count_1 (by decide) (by decide) (by decide) (by decide) h (fun hc1 h => ?_) (fun hn1_1 h => ?_)
  · refine g_aload_n (pc := 48) C dX7_count_48 rfl 0 rfl ?_
    refine g_getr (pc := 49) C (Cn := RX7) (T := TX7) (N := 11) (ci := 7) (k := 0) (j := 3) uX7_count_X7 (by rfl) rfl (by decide) (by decide +kernel) (q := 43) rfl dX7_count_49 ?_
    refine g_iconst (pc := 52) C (v := (0 : Int32)) dX7_count_52 (by decide) ?_
    obtain ⟨t1, et1, h⟩ := bs h
    refine g_zald (pc := 53) C (k := 43) (n := 2) (by rfl) et1 dX7_count_53 ?_
    refine g_if_eq (pc := 54) C (tgt := 61) dX7_count_54 (by decide) h (fun hc54 h => ?_) (fun hc54 h => ?_)
    · refine g_iconst (pc := 61) C (v := (0 : Int32)) dX7_count_61 (by decide) ?_
      exact g_sub [0] rfl (kX7_count_b62 C    h)
    · refine g_iconst (pc := 57) C (v := (1 : Int32)) dX7_count_57 (by decide) ?_
      refine g_goto (pc := 58) C (tgt := 62) dX7_count_58 (by decide) ?_
      exact g_sub [0] rfl (kX7_count_b62 C    h)
  refine g_sw (pc := 1) C (off := 77) (tgt := 78) (2 : Int32) dX7_count_1 (by decide) (by decide) (by decide) (by decide) h (fun hc1 h => ?_) (fun hn1_2 h => ?_)
  · refine g_aload_n (pc := 78) C dX7_count_78 rfl 0 rfl ?_
    refine g_getr (pc := 79) C (Cn := RX7) (T := TX7) (N := 11) (ci := 7) (k := 0) (j := 5) uX7_count_X7 (by rfl) rfl (by decide) (by decide +kernel) (q := 32) rfl dX7_count_79 ?_
    refine g_getiN (pc := 82) C (host := "MoundVotes") (Cn := RX5) (T := TX5) (N := 2) (ci := 5) (k := 32) (j := 1) uX7_count_X5 (by rfl) rfl (by decide) (by decide +kernel) (q := 0) rfl dX7_count_82 ?_
    exact g_iret C dX7_count_85 rfl (Option.some.inj h)
  refine g_sw (pc := 1) C (off := 85) (tgt := 86) (3 : Int32) dX7_count_1 (by decide) (by decide) (by decide) (by decide) h (fun hc1 h => ?_) (fun hn1_3 h => ?_)
  · refine g_aload_n (pc := 86) C dX7_count_86 rfl 0 rfl ?_
    refine g_getr (pc := 87) C (Cn := RX7) (T := TX7) (N := 11) (ci := 7) (k := 0) (j := 9) uX7_count_X7 (by rfl) rfl (by decide) (by decide +kernel) (q := 44) rfl dX7_count_87 ?_
    refine g_iconst (pc := 90) C (v := (0 : Int32)) dX7_count_90 (by decide) ?_
    obtain ⟨q2, eq2, h⟩ := bs h
    have h_q2 := rxS eq2
    refine g_aald (pc := 91) C (k := 44) (t := 4) (by rfl) rfl eq2 dX7_count_91 ?_
    refine g_getiN (pc := 92) C (host := "MoundVotes") (Cn := RX3) (T := TX3) (N := 3) (ci := 3) (k := q2) (j := 2) uX7_count_X3 h_q2.1 rfl (by decide) (by decide +kernel) (q := 0) rfl dX7_count_92 ?_
    exact g_iret C dX7_count_95 rfl (Option.some.inj h)
  refine g_sw (pc := 1) C (off := 95) (tgt := 96) (4 : Int32) dX7_count_1 (by decide) (by decide) (by decide) (by decide) h (fun hc1 h => ?_) (fun hn1_4 h => ?_)
  · refine g_aload_n (pc := 96) C dX7_count_96 rfl 0 rfl ?_
    refine g_getr (pc := 97) C (Cn := RX7) (T := TX7) (N := 11) (ci := 7) (k := 0) (j := 0) uX7_count_X7 (by rfl) rfl (by decide) (by decide +kernel) (q := 1) rfl dX7_count_97 ?_
    obtain ⟨t3, et3, h⟩ := bs h
    refine g_callVi (pc := 100) C (As := []) (rest := []) (k := 1) (by rfl) (by rfl) (cwV 0 C.2.2.2.2.2.1 gX7_count_X2_allVotes rfl rfl rfl (by decide +kernel) ⟨Nat.le_of_ble_eq_true rfl, Nat.le_of_ble_eq_true rfl⟩) (mX2_allVotes l Z isR1 et3) rfl rfl (Nat.le_of_ble_eq_true rfl) dX7_count_100 ?_
    exact g_iret C dX7_count_103 rfl (Option.some.inj h)
  refine g_sw (pc := 1) C (off := 103) (tgt := 104) (5 : Int32) dX7_count_1 (by decide) (by decide) (by decide) (by decide) h (fun hc1 h => ?_) (fun hn1_5 h => ?_)
  · refine g_aload_n (pc := 104) C dX7_count_104 rfl 0 rfl ?_
    refine g_getr (pc := 105) C (Cn := RX7) (T := TX7) (N := 11) (ci := 7) (k := 0) (j := 0) uX7_count_X7 (by rfl) rfl (by decide) (by decide +kernel) (q := 1) rfl dX7_count_105 ?_
    refine g_getiN (pc := 108) C (host := "MoundVotes") (Cn := RX2) (T := TX2) (N := 8) (ci := 2) (k := 1) (j := 0) uX7_count_X2 (by rfl) rfl (by decide) (by decide +kernel) (q := 0) rfl dX7_count_108 ?_
    refine g_aload_n (pc := 111) C dX7_count_111 rfl 0 rfl ?_
    refine g_getr (pc := 112) C (Cn := RX7) (T := TX7) (N := 11) (ci := 7) (k := 0) (j := 0) uX7_count_X7 (by rfl) rfl (by decide) (by decide +kernel) (q := 1) rfl dX7_count_112 ?_
    obtain ⟨t4, et4, h⟩ := bs h
    refine g_callVi (pc := 115) C (As := []) (rest := [.int (σ 1 0)]) (k := 1) (by rfl) (by rfl) (cwV 0 C.2.2.2.2.2.1 gX7_count_X2_ownerless rfl rfl rfl (by decide +kernel) ⟨Nat.le_of_ble_eq_true rfl, Nat.le_of_ble_eq_true rfl⟩) (mX2_ownerless l Z isR1 et4) rfl rfl (Nat.le_of_ble_eq_true rfl) dX7_count_115 ?_
    obtain ⟨t5, et5, h⟩ := bs h
    refine g_callSi (pc := 118) C (As := [.int t4]) (rest := [.int (σ 1 0)]) (va_cwS 1 C.2.2.2.2.2.1 gX7_count_J6_bitCount_0f7a4 rfl rfl rfl (by decide +kernel) ⟨Nat.le_of_ble_eq_true rfl, Nat.le_of_ble_eq_true rfl⟩) (mJ6_bitCount_0f7a4 l Z  et5) rfl rfl (Nat.le_of_ble_eq_true rfl) dX7_count_118 ?_
    refine g_iadd (pc := 121) C dX7_count_121 ?_
    exact g_iret C dX7_count_122 rfl (Option.some.inj h)
  refine g_swd (pc := 1) C (tgt := 123) dX7_count_1 (by have z0 := ne_ti hn1_0; have z1 := ne_ti hn1_1; have z2 := ne_ti hn1_2; have z3 := ne_ti hn1_3; have z4 := ne_ti hn1_4; have z5 := ne_ti hn1_5; simp at z0 z1 z2 z3 z4 z5; omega) (by decide) ?_
  refine g_iconst (pc := 123) C (v := (-1 : Int32)) dX7_count_123 (by decide) ?_
  exact g_iret C dX7_count_124 rfl (Option.some.inj h)
theorem mX7_count (l : Launch) (Z : Sh) {σ : Sg} {v1 : Int32} {u : Int32}  (h : fX7_count σ v1 = some u) : MI l Z layX yX7_count wsX7_count rX7_count [.ref (ad Z 0), .int v1] σ σ u :=
  MI.of (cc := cX7_count) (maxL := 2) (ret := (some .int)) (by decide) rfl (Nat.le_of_ble_eq_true rfl) (fun p e s m below meth c C => kX7_count_e C  h)
