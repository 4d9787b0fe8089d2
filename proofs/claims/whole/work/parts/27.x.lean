def rX7_read : Room := { frames := 5, cells := 0, slots := 0, locals := 110 }
theorem uX7_read_X7 : ∀ w ∈ wsX70, w ∈ wsX7_read := by decide +kernel
def fX7_read_b139 (v1 : Int32) (v2 : Int32) (v3 : Int32) (v4 : Int32)  (σ : Sg) (v6 : Int32) (v7 : Int32) : Option (Sg × Int32) := (fX2_copyFrom σ 1 7).bind fun σ1 => (pf σ1 0 10 v7).bind fun σ2 => some (σ2, v6)
def fX7_read_l59 (v1 : Int32) (v2 : Int32) (v3 : Int32) (v4 : Int32)  : Nat → Sg → Nat → Int32 → Int32 → Int32 → Option (Sg × Int32)
  | 0, _, _, _, _, _ => none
  | n + 1, σ, c5, v6, v7, v8 => if v4 ≤ v8 then fX7_read_b139 v1 v2 v3 v4 σ v6 v7 else if v7 = 0 then (fX3_faultOfPair σ c5 v2 (v3 + ((2 : Int32) * v8))).bind fun t1 => if t1 = 0 then (fX3_cellAt σ c5 (v3 + ((2 : Int32) * v8))).bind fun t2 => (fX3_cellAt σ c5 ((v3 + ((2 : Int32) * v8)) + (1 : Int32))).bind fun t3 => (fX2_sell σ 7 t2 t3).bind fun u4 => if u4.2 = 0 then some (u4.1, ((-20 : Int32) - v8)) else fX7_read_l59 v1 v2 v3 v4 n u4.1 c5 (v6 + 1) t1 (v8 + 1) else fX7_read_l59 v1 v2 v3 v4 n σ c5 v6 t1 (v8 + 1) else fX7_read_b139 v1 v2 v3 v4 σ v6 v7
def fX7_read (σ : Sg) (v1 : Int32) (v2 : Int32) (v3 : Int32) (v4 : Int32) : Option (Sg × Int32) := (fX7_within v1 (0 : Int32) (3 : Int32)).bind fun t1 => if t1 = 0 then some (σ, (-1 : Int32)) else (fX7_within v2 (0 : Int32) (2 : Int32)).bind fun t2 => if t2 = 0 then some (σ, (-1 : Int32)) else (fX7_within v4 (0 : Int32) (20 : Int32)).bind fun t3 => if t3 = 0 then some (σ, (-1 : Int32)) else (rx [45, 47, 49, 51] v1).bind fun q4 => (fX2_copyFrom σ 7 1).bind fun σ5 => fX7_read_l59 v1 v2 v3 v4 2000 σ5 q4 (0 : Int32) (0 : Int32) (0 : Int32)
set_option maxHeartbeats 1000000 in
set_option maxRecDepth 20000 in
theorem kX7_read_b139 {p : Program} {l : Launch} {e : Env} {s : State} {m : MethodId} {args : Array Value} {below : List Frame} {meth : Method} {c : Code} {Z : Sh} (C : Cx p s m args meth c cX7_read 9 wsX7_read RX7 (some .int) Z layX) {v1 : Int32} {v2 : Int32} {v3 : Int32} {v4 : Int32} {u : Sg × Int32}   {σ : Sg} {v6 : Int32} {v7 : Int32} (h : fX7_read_b139 v1 v2 v3 v4 σ v6 v7 = some u) : G p l e rX7_read s m args below meth c 9 Z layX (MQ below (QI Z layX u.1 u.2 s.heap.size) args s 0 0 (pA Z layX s.heap.size)) σ 139 [(0, .ref (ad Z 0)), (6, .int v6), (7, .int v7)] [] := by
  unfold fX7_read_b139 at h
  refine g_aload_n (pc := 139) C dX7_read_139 rfl 0 rfl ?_
  refine g_getr (pc := 140) C (Cn := RX7) (T := TX7) (N := 11) (ci := 7) (k := 0) (j := 0) uX7_read_X7 (by rfl) rfl (by decide) (by decide +kernel) (q := 1) rfl dX7_read_140 ?_
  refine g_aload_n (pc := 143) C dX7_read_143 rfl 0 rfl ?_
  refine g_getr (pc := 144) C (Cn := RX7) (T := TX7) (N := 11) (ci := 7) (k := 0) (j := 1) uX7_read_X7 (by rfl) rfl (by decide) (by decide +kernel) (q := 7) rfl dX7_read_144 ?_
  obtain ⟨σ1, eσ1, h⟩ := bs h
  refine g_callVv (pc := 147) C (As := [.ref (ad Z 7)]) (rest := []) (k := 1) (by rfl) (by rfl) (cwV 1 C.2.2.2.2.2.1 gX7_read_X2_copyFrom rfl rfl rfl (by decide +kernel) ⟨Nat.le_of_ble_eq_true rfl, Nat.le_of_ble_eq_true rfl⟩) (mX2_copyFrom l Z isR1 isR7 eσ1) rfl rfl (Nat.le_of_ble_eq_true rfl) dX7_read_147 ?_
  refine g_aload_n (pc := 150) C dX7_read_150 rfl 0 rfl ?_
  refine g_iload (pc := 151) C dX7_read_151 2 rfl ?_
  obtain ⟨σ2, eσ2, h⟩ := bs h
  refine g_puti (pc := 153) C (Cn := RX7) (T := TX7) (N := 11) (ci := 7) (k := 0) (j := 10) uX7_read_X7 (by rfl) rfl (by decide) (by decide +kernel) tyX7 tyX7_ok nmX7 rfl (by decide +kernel) rfl eσ2 dX7_read_153 ?_
  refine g_iload (pc := 156) C dX7_read_156 1 rfl ?_
  exact g_iret C dX7_read_158 (pfst h) (psnd h)
set_option maxHeartbeats 1000000 in
set_option maxRecDepth 20000 in
theorem kX7_read_l59 {p : Program} {l : Launch} {e : Env} {s : State} {m : MethodId} {args : Array Value} {below : List Frame} {meth : Method} {c : Code} {Z : Sh} (C : Cx p s m args meth c cX7_read 9 wsX7_read RX7 (some .int) Z layX) {v1 : Int32} {v2 : Int32} {v3 : Int32} {v4 : Int32} {u : Sg × Int32}   : ∀ (n : Nat) (σ : Sg) (c5 : Nat) (v6 : Int32) (v7 : Int32) (v8 : Int32), fX7_read_l59 v1 v2 v3 v4 n σ c5 v6 v7 v8 = some u → IsS c5 → G p l e rX7_read s m args below meth c 9 Z layX (MQ below (QI Z layX u.1 u.2 s.heap.size) args s 0 0 (pA Z layX s.heap.size)) σ 59 [(0, .ref (ad Z 0)), (2, .int v2), (3, .int v3), (4, .int v4), (5, .ref (ad Z c5)), (6, .int v6), (7, .int v7), (8, .int v8)] [] := by
  intro n
  induction n with
  | zero => intro σ c5 v6 v7 v8 h; exact absurd h (by simp [fX7_read_l59])
  | succ n ih =>
    intro σ c5 v6 v7 v8 h h_c5
    rw [fX7_read_l59] at h
    refine g_iload (pc := 59) C dX7_read_59 7 rfl ?_
    refine g_iload (pc := 61) C dX7_read_61 3 rfl ?_
    refine g_icmp_ge (pc := 63) C (tgt := 139) dX7_read_63 (by decide) h (fun hc63 h => ?_) (fun hc63 h => ?_)
    · exact g_sub [0, 5, 6] rfl (kX7_read_b139 C    h)
    · refine g_iload (pc := 66) C dX7_read_66 6 rfl ?_
      refine g_if_ne (pc := 68) C (tgt := 139) dX7_read_68 (by decide) h (fun hc68 h => ?_) (fun hc68 h => ?_)
      · exact g_sub [0, 5, 6] rfl (kX7_read_b139 C    h)
      · refine g_aload (pc := 71) C dX7_read_71 4 rfl ?_
        refine g_iload_n (pc := 73) C dX7_read_73 rfl 1 rfl ?_
        refine g_iload_n (pc := 74) C dX7_read_74 rfl 2 rfl ?_
        refine g_iconst (pc := 75) C (v := (2 : Int32)) dX7_read_75 (by decide) ?_
        refine g_iload (pc := 76) C dX7_read_76 7 rfl ?_
        refine g_imul (pc := 78) C dX7_read_78 ?_
        refine g_iadd (pc := 79) C dX7_read_79 ?_
        obtain ⟨t1, et1, h⟩ := bs h
        refine g_callVi (pc := 80) C (As := [.int v2, .int (v3 + ((2 : Int32) * v8))]) (rest := []) (k := c5) h_c5.1 (by rfl) (cwV 2 C.2.2.2.2.2.1 gX7_read_X3_faultOfPair rfl rfl rfl (by decide +kernel) ⟨Nat.le_of_ble_eq_true rfl, Nat.le_of_ble_eq_true rfl⟩) (mX3_faultOfPair l Z h_c5 et1) rfl rfl (Nat.le_of_ble_eq_true rfl) dX7_read_80 ?_
        refine g_istore (pc := 83) C (lv2 := [(7, .int t1), (0, .ref (ad Z 0)), (2, .int v2), (3, .int v3), (4, .int v4), (5, .ref (ad Z c5)), (6, .int v6), (8, .int v8)]) dX7_read_83 (by decide) rfl ?_
        refine g_iload (pc := 85) C dX7_read_85 0 rfl ?_
        refine g_if_ne (pc := 87) C (tgt := 133) dX7_read_87 (by decide) h (fun hc87 h => ?_) (fun hc87 h => ?_)
        · refine g_iinc (pc := 133) C (j := 7) (v := (v8 + 1)) (lv2 := [(8, .int (v8 + 1)), (7, .int t1), (0, .ref (ad Z 0)), (2, .int v2), (3, .int v3), (4, .int v4), (5, .ref (ad Z c5)), (6, .int v6)]) dX7_read_133 rfl rfl (by decide) rfl ?_
          refine g_goto (pc := 136) C (tgt := 59) dX7_read_136 (by decide) ?_
          exact g_sub [2, 3, 4, 5, 6, 7, 1, 0] rfl (ih _ _ _ _ _ h h_c5)
        · refine g_aload_n (pc := 90) C dX7_read_90 rfl 1 rfl ?_
          refine g_getr (pc := 91) C (Cn := RX7) (T := TX7) (N := 11) (ci := 7) (k := 0) (j := 1) uX7_read_X7 (by rfl) rfl (by decide) (by decide +kernel) (q := 7) rfl dX7_read_91 ?_
          refine g_aload (pc := 94) C dX7_read_94 5 rfl ?_
          refine g_iload_n (pc := 96) C dX7_read_96 rfl 3 rfl ?_
          refine g_iconst (pc := 97) C (v := (2 : Int32)) dX7_read_97 (by decide) ?_
          refine g_iload (pc := 98) C dX7_read_98 7 rfl ?_
          refine g_imul (pc := 100) C dX7_read_100 ?_
          refine g_iadd (pc := 101) C dX7_read_101 ?_
          obtain ⟨t2, et2, h⟩ := bs h
          refine g_callVi (pc := 102) C (As := [.int (v3 + ((2 : Int32) * v8))]) (rest := [.ref (ad Z 7)]) (k := c5) h_c5.1 (by rfl) (cwV 1 C.2.2.2.2.2.1 gX7_read_X3_cellAt rfl rfl rfl (by decide +kernel) ⟨Nat.le_of_ble_eq_true rfl, Nat.le_of_ble_eq_true rfl⟩) (mX3_cellAt l Z h_c5 et2) rfl rfl (Nat.le_of_ble_eq_true rfl) dX7_read_102 ?_
          refine g_aload (pc := 105) C dX7_read_105 5 rfl ?_
          refine g_iload_n (pc := 107) C dX7_read_107 rfl 3 rfl ?_
          refine g_iconst (pc := 108) C (v := (2 : Int32)) dX7_read_108 (by decide) ?_
          refine g_iload (pc := 109) C dX7_read_109 7 rfl ?_
          refine g_imul (pc := 111) C dX7_read_111 ?_
          refine g_iadd (pc := 112) C dX7_read_112 ?_
          refine g_iconst (pc := 113) C (v := (1 : Int32)) dX7_read_113 (by decide) ?_
          refine g_iadd (pc := 114) C dX7_read_114 ?_
          obtain ⟨t3, et3, h⟩ := bs h
          refine g_callVi (pc := 115) C (As := [.int ((v3 + ((2 : Int32) * v8)) + (1 : Int32))]) (rest := [.int t2, .ref (ad Z 7)]) (k := c5) h_c5.1 (by rfl) (cwV 1 C.2.2.2.2.2.1 gX7_read_X3_cellAt rfl rfl rfl (by decide +kernel) ⟨Nat.le_of_ble_eq_true rfl, Nat.le_of_ble_eq_true rfl⟩) (mX3_cellAt l Z h_c5 et3) rfl rfl (Nat.le_of_ble_eq_true rfl) dX7_read_115 ?_
          obtain ⟨u4, eu4, h⟩ := bs h
          refine g_callVi (pc := 118) C (As := [.int t2, .int t3]) (rest := []) (k := 7) (by rfl) (by rfl) (cwV 2 C.2.2.2.2.2.1 gX7_read_X2_sell rfl rfl rfl (by decide +kernel) ⟨Nat.le_of_ble_eq_true rfl, Nat.le_of_ble_eq_true rfl⟩) (mX2_sell l Z isR7 eu4) rfl rfl (Nat.le_of_ble_eq_true rfl) dX7_read_118 ?_
          refine g_if_ne (pc := 121) C (tgt := 130) dX7_read_121 (by decide) h (fun hc121 h => ?_) (fun hc121 h => ?_)
          · refine g_iinc (pc := 130) C (j := 6) (v := (v6 + 1)) (lv2 := [(6, .int (v6 + 1)), (7, .int t1), (0, .ref (ad Z 0)), (2, .int v2), (3, .int v3), (4, .int v4), (5, .ref (ad Z c5)), (8, .int v8)]) dX7_read_130 rfl rfl (by decide) rfl ?_
            refine g_iinc (pc := 133) C (j := 7) (v := (v8 + 1)) (lv2 := [(8, .int (v8 + 1)), (6, .int (v6 + 1)), (7, .int t1), (0, .ref (ad Z 0)), (2, .int v2), (3, .int v3), (4, .int v4), (5, .ref (ad Z c5))]) dX7_read_133 rfl rfl (by decide) rfl ?_
            refine g_goto (pc := 136) C (tgt := 59) dX7_read_136 (by decide) ?_
            exact g_sub [3, 4, 5, 6, 7, 1, 2, 0] rfl (ih _ _ _ _ _ h h_c5)
          · refine g_bipush (pc := 124) C (v := (-20 : Int32)) dX7_read_124 (by decide) ?_
            refine g_iload (pc := 126) C dX7_read_126 7 rfl ?_
            refine g_isub (pc := 128) C dX7_read_128 ?_
            exact g_iret C dX7_read_129 (pfst h) (psnd h)
set_option maxHeartbeats 1000000 in
set_option maxRecDepth 20000 in
theorem kX7_read_e {p : Program} {l : Launch} {e : Env} {s : State} {m : MethodId} {args : Array Value} {below : List Frame} {meth : Method} {c : Code} {Z : Sh} (C : Cx p s m args meth c cX7_read 9 wsX7_read RX7 (some .int) Z layX) {σ : Sg} {v1 : Int32} {v2 : Int32} {v3 : Int32} {v4 : Int32} {u : Sg × Int32}  (h : fX7_read σ v1 v2 v3 v4 = some u) : G p l e rX7_read s m args below meth c 9 Z layX (MQ below (QI Z layX u.1 u.2 s.heap.size) args s 0 0 (pA Z layX s.heap.size)) σ 0 [(0, .ref (ad Z 0)), (1, .int v1), (2, .int v2), (3, .int v3), (4, .int v4)] [] := by
  unfold fX7_read at h
  refine g_iload_n (pc := 0) C dX7_read_0 rfl 1 rfl ?_
  refine g_iconst (pc := 1) C (v := (0 : Int32)) dX7_read_1 (by decide) ?_
  refine g_iconst (pc := 2) C (v := (3 : Int32)) dX7_read_2 (by decide) ?_
  obtain ⟨t1, et1, h⟩ := bs h
  refine g_callSi (pc := 3) C (As := [.int v1, .int (0 : Int32), .int (3 : Int32)]) (rest := []) (va_cwS 3 C.2.2.2.2.2.1 gX7_read_X7_within rfl rfl rfl (by decide +kernel) ⟨Nat.le_of_ble_eq_true rfl, Nat.le_of_ble_eq_true rfl⟩) (mX7_within l Z  et1) rfl rfl (Nat.le_of_ble_eq_true rfl) dX7_read_3 ?_
  refine g_if_eq (pc := 6) C (tgt := 29) dX7_read_6 (by decide) h (fun hc6 h => ?_) (fun hc6 h => ?_)
  · refine g_iconst (pc := 29) C (v := (-1 : Int32)) dX7_read_29 (by decide) ?_
    exact g_iret C dX7_read_30 (pfst h) (psnd h)
  · refine g_iload_n (pc := 9) C dX7_read_9 rfl 2 rfl ?_
    refine g_iconst (pc := 10) C (v := (0 : Int32)) dX7_read_10 (by decide) ?_
    refine g_iconst (pc := 11) C (v := (2 : Int32)) dX7_read_11 (by decide) ?_
    obtain ⟨t2, et2, h⟩ := bs h
    refine g_callSi (pc := 12) C (As := [.int v2, .int (0 : Int32), .int (2 : Int32)]) (rest := []) (va_cwS 3 C.2.2.2.2.2.1 gX7_read_X7_within rfl rfl rfl (by decide +kernel) ⟨Nat.le_of_ble_eq_true rfl, Nat.le_of_ble_eq_true rfl⟩) (mX7_within l Z  et2) rfl rfl (Nat.le_of_ble_eq_true rfl) dX7_read_12 ?_
    refine g_if_eq (pc := 15) C (tgt := 29) dX7_read_15 (by decide) h (fun hc15 h => ?_) (fun hc15 h => ?_)
    · refine g_iconst (pc := 29) C (v := (-1 : Int32)) dX7_read_29 (by decide) ?_
      exact g_iret C dX7_read_30 (pfst h) (psnd h)
    · refine g_iload (pc := 18) C dX7_read_18 4 rfl ?_
      refine g_iconst (pc := 20) C (v := (0 : Int32)) dX7_read_20 (by decide) ?_
      refine g_bipush (pc := 21) C (v := (20 : Int32)) dX7_read_21 (by decide) ?_
      obtain ⟨t3, et3, h⟩ := bs h
      refine g_callSi (pc := 23) C (As := [.int v4, .int (0 : Int32), .int (20 : Int32)]) (rest := []) (va_cwS 3 C.2.2.2.2.2.1 gX7_read_X7_within rfl rfl rfl (by decide +kernel) ⟨Nat.le_of_ble_eq_true rfl, Nat.le_of_ble_eq_true rfl⟩) (mX7_within l Z  et3) rfl rfl (Nat.le_of_ble_eq_true rfl) dX7_read_23 ?_
      refine g_if_ne (pc := 26) C (tgt := 31) dX7_read_26 (by decide) h (fun hc26 h => ?_) (fun hc26 h => ?_)
      · refine g_aload_n (pc := 31) C dX7_read_31 rfl 0 rfl ?_
        refine g_getr (pc := 32) C (Cn := RX7) (T := TX7) (N := 11) (ci := 7) (k := 0) (j := 9) uX7_read_X7 (by rfl) rfl (by decide) (by decide +kernel) (q := 44) rfl dX7_read_32 ?_
        refine g_iload_n (pc := 35) C dX7_read_35 rfl 1 rfl ?_
        obtain ⟨q4, eq4, h⟩ := bs h
        have h_q4 := rxS eq4
        refine g_aald (pc := 36) C (k := 44) (t := 4) (by rfl) rfl eq4 dX7_read_36 ?_
        refine g_astore (pc := 37) C (lv2 := [(5, .ref (ad Z q4)), (0, .ref (ad Z 0)), (1, .int v1), (2, .int v2), (3, .int v3), (4, .int v4)]) dX7_read_37 (by decide) rfl ?_
        refine g_aload_n (pc := 39) C dX7_read_39 rfl 1 rfl ?_
        refine g_getr (pc := 40) C (Cn := RX7) (T := TX7) (N := 11) (ci := 7) (k := 0) (j := 1) uX7_read_X7 (by rfl) rfl (by decide) (by decide +kernel) (q := 7) rfl dX7_read_40 ?_
        refine g_aload_n (pc := 43) C dX7_read_43 rfl 1 rfl ?_
        refine g_getr (pc := 44) C (Cn := RX7) (T := TX7) (N := 11) (ci := 7) (k := 0) (j := 0) uX7_read_X7 (by rfl) rfl (by decide) (by decide +kernel) (q := 1) rfl dX7_read_44 ?_
        obtain ⟨σ5, eσ5, h⟩ := bs h
        refine g_callVv (pc := 47) C (As := [.ref (ad Z 1)]) (rest := []) (k := 7) (by rfl) (by rfl) (cwV 1 C.2.2.2.2.2.1 gX7_read_X2_copyFrom rfl rfl rfl (by decide +kernel) ⟨Nat.le_of_ble_eq_true rfl, Nat.le_of_ble_eq_true rfl⟩) (mX2_copyFrom l Z isR7 isR1 eσ5) rfl rfl (Nat.le_of_ble_eq_true rfl) dX7_read_47 ?_
        refine g_iconst (pc := 50) C (v := (0 : Int32)) dX7_read_50 (by decide) ?_
        refine g_istore (pc := 51) C (lv2 := [(6, .int (0 : Int32)), (5, .ref (ad Z q4)), (0, .ref (ad Z 0)), (1, .int v1), (2, .int v2), (3, .int v3), (4, .int v4)]) dX7_read_51 (by decide) rfl ?_
        refine g_iconst (pc := 53) C (v := (0 : Int32)) dX7_read_53 (by decide) ?_
        refine g_istore (pc := 54) C (lv2 := [(7, .int (0 : Int32)), (6, .int (0 : Int32)), (5, .ref (ad Z q4)), (0, .ref (ad Z 0)), (1, .int v1), (2, .int v2), (3, .int v3), (4, .int v4)]) dX7_read_54 (by decide) rfl ?_
        refine g_iconst (pc := 56) C (v := (0 : Int32)) dX7_read_56 (by decide) ?_
        refine g_istore (pc := 57) C (lv2 := [(8, .int (0 : Int32)), (7, .int (0 : Int32)), (6, .int (0 : Int32)), (5, .ref (ad Z q4)), (0, .ref (ad Z 0)), (1, .int v1), (2, .int v2), (3, .int v3), (4, .int v4)]) dX7_read_57 (by decide) rfl ?_
        exact g_sub [4, 6, 7, 8, 3, 2, 1, 0] rfl (kX7_read_l59 C   _ _ _ _ _ _ h h_q4)
      · refine g_iconst (pc := 29) C (v := (-1 : Int32)) dX7_read_29 (by decide) ?_
        exact g_iret C dX7_read_30 (pfst h) (psnd h)
theorem mX7_read (l : Launch) (Z : Sh) {σ : Sg} {v1 : Int32} {v2 : Int32} {v3 : Int32} {v4 : Int32} {u : Sg × Int32}  (h : fX7_read σ v1 v2 v3 v4 = some u) : MI l Z layX yX7_read wsX7_read rX7_read [.ref (ad Z 0), .int v1, .int v2, .int v3, .int v4] σ u.1 u.2 :=
  MI.of (cc := cX7_read) (maxL := 9) (ret := (some .int)) (by decide) rfl (Nat.le_of_ble_eq_true rfl) (fun p e s m below meth c C => kX7_read_e C  h)

def rX7_torn : Room := { frames := 0, cells := 0, slots := 0, locals := 0 }
theorem uX7_torn_X7 : ∀ w ∈ wsX70, w ∈ wsX7_torn := by decide +kernel
def fX7_torn (σ : Sg)  : Option (Int32) := some (σ 0 10)
set_option maxHeartbeats 1000000 in
set_option maxRecDepth 20000 in
theorem kX7_torn_e {p : Program} {l : Launch} {e : Env} {s : State} {m : MethodId} {args : Array Value} {below : List Frame} {meth : Method} {c : Code} {Z : Sh} (C : Cx p s m args meth c cX7_torn 1 wsX7_torn RX7 (some .int) Z layX) {σ : Sg}  {u : Int32}  (h : fX7_torn σ = some u) : G p l e rX7_torn s m args below meth c 1 Z layX (MQ below (QI Z layX σ u s.heap.size) args s 0 0 (pA Z layX s.heap.size)) σ 0 [(0, .ref (ad Z 0))] [] := by
  unfold fX7_torn at h
  refine g_aload_n (pc := 0) C dX7_torn_0 rfl 0 rfl ?_
  refine g_geti (pc := 1) C (Cn := RX7) (T := TX7) (N := 11) (ci := 7) (k := 0) (j := 10) uX7_torn_X7 (by rfl) rfl (by decide) (by decide +kernel) (q := 0) rfl dX7_torn_1 ?_
  exact g_iret C dX7_torn_4 rfl (Option.some.inj h)
theorem mX7_torn (l : Launch) (Z : Sh) {σ : Sg}  {u : Int32}  (h : fX7_torn σ = some u) : MI l Z layX yX7_torn wsX7_torn rX7_torn [.ref (ad Z 0)] σ σ u :=
  MI.of (cc := cX7_torn) (maxL := 1) (ret := (some .int)) (by decide) rfl (Nat.le_of_ble_eq_true rfl) (fun p e s m below meth c C => kX7_torn_e C  h)

def rX7_count : Room := { frames := 3, cells := 0, slots := 0, locals := 65 }
theorem uX7_count_X2 : ∀ w ∈ wsX20, w ∈ wsX7_count := by decide +kernel
theorem uX7_count_X3 : ∀ w ∈ wsX30, w ∈ wsX7_count := by decide +kernel
theorem uX7_count_X5 : ∀ w ∈ wsX50, w ∈ wsX7_count := by decide +kernel
theorem uX7_count_X6 : ∀ w ∈ wsX60, w ∈ wsX7_count := by decide +kernel
theorem uX7_count_X7 : ∀ w ∈ wsX70, w ∈ wsX7_count := by decide +kernel
def fX7_count_b62 (σ : Sg) (v1 : Int32)  (s0 : Int32) : Option (Int32) := (rd (σ 43) 2 (1 : Int32)).bind fun t1 => if t1 = 0 then some (s0 + (0 : Int32)) else some (s0 + (1 : Int32))
def fX7_count (σ : Sg) (v1 : Int32) : Option (Int32) := if v1 = (0 : Int32) then some (σ 37 2) else if v1 = (1 : Int32) then (rd (σ 43) 2 (0 : Int32)).bind fun t1 => if t1 = 0 then fX7_count_b62 σ v1 (0 : Int32) else fX7_count_b62 σ v1 (1 : Int32) else if v1 = (2 : Int32) then some (σ 32 1) else if v1 = (3 : Int32) then (rx [45, 47, 49, 51] (0 : Int32)).bind fun q2 => some (σ q2 2) else if v1 = (4 : Int32) then (fX2_allVotes σ 1).bind fun t3 => some t3 else if v1 = (5 : Int32) then (fX2_ownerless σ 1).bind fun t4 => (fJ6_bitCount_0f7a4 t4).bind fun t5 => some ((σ 1 0) + t5) else some (-1 : Int32)
set_option maxHeartbeats 1000000 in
set_option maxRecDepth 20000 in
theorem kX7_count_b62 {p : Program} {l : Launch} {e : Env} {s : State} {m : MethodId} {args : Array Value} {below : List Frame} {meth : Method} {c : Code} {Z : Sh} (C : Cx p s m args meth c cX7_count 2 wsX7_count RX7 (some .int) Z layX) {σ : Sg} {v1 : Int32} {u : Int32}   {s0 : Int32} (h : fX7_count_b62 σ v1 s0 = some u) : G p l e rX7_count s m args below meth c 2 Z layX (MQ below (QI Z layX σ u s.heap.size) args s 0 0 (pA Z layX s.heap.size)) σ 62 [(0, .ref (ad Z 0))] [.int s0] := by
  unfold fX7_count_b62 at h
  refine g_aload_n (pc := 62) C dX7_count_62 rfl 0 rfl ?_
  refine g_getr (pc := 63) C (Cn := RX7) (T := TX7) (N := 11) (ci := 7) (k := 0) (j := 3) uX7_count_X7 (by rfl) rfl (by decide) (by decide +kernel) (q := 43) rfl dX7_count_63 ?_
  refine g_iconst (pc := 66) C (v := (1 : Int32)) dX7_count_66 (by decide) ?_
  obtain ⟨t1, et1, h⟩ := bs h
  refine g_zald (pc := 67) C (k := 43) (n := 2) (by rfl) et1 dX7_count_67 ?_
  refine g_if_eq (pc := 68) C (tgt := 75) dX7_count_68 (by decide) h (fun hc68 h => ?_) (fun hc68 h => ?_)
  · refine g_iconst (pc := 75) C (v := (0 : Int32)) dX7_count_75 (by decide) ?_
    refine g_iadd (pc := 76) C dX7_count_76 ?_
    exact g_iret C dX7_count_77 rfl (Option.some.inj h)
  · refine g_iconst (pc := 71) C (v := (1 : Int32)) dX7_count_71 (by decide) ?_
    refine g_goto (pc := 72) C (tgt := 76) dX7_count_72 (by decide) ?_
    refine g_iadd (pc := 76) C dX7_count_76 ?_
    exact g_iret C dX7_count_77 rfl (Option.some.inj h)
set_option maxHeartbeats 1000000 in
set_option maxRecDepth 20000 in
theorem kX7_count_e {p : Program} {l : Launch} {e : Env} {s : State} {m : MethodId} {args : Array Value} {below : List Frame} {meth : Method} {c : Code} {Z : Sh} (C : Cx p s m args meth c cX7_count 2 wsX7_count RX7 (some .int) Z layX) {σ : Sg} {v1 : Int32} {u : Int32}  (h : fX7_count σ v1 = some u) : G p l e rX7_count s m args below meth c 2 Z layX (MQ below (QI Z layX σ u s.heap.size) args s 0 0 (pA Z layX s.heap.size)) σ 0 [(0, .ref (ad Z 0)), (1, .int v1)] [] := by
  unfold fX7_count at h
  refine g_iload_n (pc := 0) C dX7_count_0 rfl 1 rfl ?_
  refine g_sw (pc := 1) C (off := 39) (tgt := 40) (0 : Int32) dX7_count_1 (by decide) (by decide) (by decide) (by decide) h (fun hc1 h => ?_) (fun hn1_0 h => ?_)
  · refine g_aload_n (pc := 40) C dX7_count_40 rfl 0 rfl ?_
    refine g_getr (pc := 41) C (Cn := RX7) (T := TX7) (N := 11) (ci := 7) (k := 0) (j := 7) uX7_count_X7 (by rfl) rfl (by decide) (by decide +kernel) (q := 37) rfl dX7_count_41 ?_
    refine g_getiN (pc := 44) C (host := "MoundVotes") (Cn := RX6) (T := TX6) (N := 3) (ci := 6) (k := 37) (j := 2) uX7_count_X6 (by rfl) rfl (by decide) (by decide +kernel) (q := 0) rfl dX7_count_44 ?_
    exact g_iret C dX7_count_47 rfl (Option.some.inj h)
  refine g_sw (pc := 1) C (off := 47) (tgt := 48) (1 : Int32) dX7_count_1 (by decide) (by decide) (by decide) (by decide) h (fun hc1 h => ?_) (fun hn1_1 h => ?_)
  · refine g_aload_n (pc := 48) C dX7_count_48 rfl 0 rfl ?_
    refine g_getr (pc := 49) C (Cn := RX7) (T := TX7) (N := 11) (ci := 7) (k := 0) (j := 3) uX7_count_X7 (by rfl) rfl (by decide) (by decide +kernel) (q := 43) rfl dX7_count_49 ?_
    refine g_iconst (pc := 52) C (v := (0 : Int32)) dX7_count_52 (by decide) ?_
    obtain ⟨t1, et1, h⟩ := bs h
    refine g_zald (pc := 53) C (k := 43) (n := 2) (by rfl) et1 dX7_count_53 ?_
    refine g_if_eq (pc := 54) C (tgt := 61) dX7_count_54 (by decide) h (fun hc54 h => ?_) (fun hc54 h => ?_)
    · refine g_iconst (pc := 61) C (v := (0 : Int32)) dX7_count_61 (by decide) ?_
      exact g_sub [0] rfl (kX7_count_b62 C    h)
    · refine g_iconst (pc := 57) C (v := (1 : Int32)) dX7_count_57 (by decide) ?_
      refine g_goto (pc := 58) C (tgt := 62) dX7_count_58 (by decide) ?_
      exact g_sub [0] rfl (kX7_count_b62 C    h)
  refine g_sw (pc := 1) C (off := 77) (tgt := 78) (2 : Int32) dX7_count_1 (by decide) (by decide) (by decide) (by decide) h (fun hc1 h => ?_) (fun hn1_2 h => ?_)
  · refine g_aload_n (pc := 78) C dX7_count_78 rfl 0 rfl ?_
    refine g_getr (pc := 79) C (Cn := RX7) (T := TX7) (N := 11) (ci := 7) (k := 0) (j := 5) uX7_count_X7 (by rfl) rfl (by decide) (by decide +kernel) (q := 32) rfl dX7_count_79 ?_
    refine g_getiN (pc := 82) C (host := "MoundVotes") (Cn := RX5) (T := TX5) (N := 2) (ci := 5) (k := 32) (j := 1) uX7_count_X5 (by rfl) rfl (by decide) (by decide +kernel) (q := 0) rfl dX7_count_82 ?_
    exact g_iret C dX7_count_85 rfl (Option.some.inj h)
  refine g_sw (pc := 1) C (off := 85) (tgt := 86) (3 : Int32) dX7_count_1 (by decide) (by decide) (by decide) (by decide) h (fun hc1 h => ?_) (fun hn1_3 h => ?_)
  · refine g_aload_n (pc := 86) C dX7_count_86 rfl 0 rfl ?_
    refine g_getr (pc := 87) C (Cn := RX7) (T := TX7) (N := 11) (ci := 7) (k := 0) (j := 9) uX7_count_X7 (by rfl) rfl (by decide) (by decide +kernel) (q := 44) rfl dX7_count_87 ?_
    refine g_iconst (pc := 90) C (v := (0 : Int32)) dX7_count_90 (by decide) ?_
    obtain ⟨q2, eq2, h⟩ := bs h
    have h_q2 := rxS eq2
    refine g_aald (pc := 91) C (k := 44) (t := 4) (by rfl) rfl eq2 dX7_count_91 ?_
    refine g_getiN (pc := 92) C (host := "MoundVotes") (Cn := RX3) (T := TX3) (N := 3) (ci := 3) (k := q2) (j := 2) uX7_count_X3 h_q2.1 rfl (by decide) (by decide +kernel) (q := 0) rfl dX7_count_92 ?_
    exact g_iret C dX7_count_95 rfl (Option.some.inj h)
  refine g_sw (pc := 1) C (off := 95) (tgt := 96) (4 : Int32) dX7_count_1 (by decide) (by decide) (by decide) (by decide) h (fun hc1 h => ?_) (fun hn1_4 h => ?_)
  · refine g_aload_n (pc := 96) C dX7_count_96 rfl 0 rfl ?_
    refine g_getr (pc := 97) C (Cn := RX7) (T := TX7) (N := 11) (ci := 7) (k := 0) (j := 0) uX7_count_X7 (by rfl) rfl (by decide) (by decide +kernel) (q := 1) rfl dX7_count_97 ?_
    obtain ⟨t3, et3, h⟩ := bs h
    refine g_callVi (pc := 100) C (As := []) (rest := []) (k := 1) (by rfl) (by rfl) (cwV 0 C.2.2.2.2.2.1 gX7_count_X2_allVotes rfl rfl rfl (by decide +kernel) ⟨Nat.le_of_ble_eq_true rfl, Nat.le_of_ble_eq_true rfl⟩) (mX2_allVotes l Z isR1 et3) rfl rfl (Nat.le_of_ble_eq_true rfl) dX7_count_100 ?_
    exact g_iret C dX7_count_103 rfl (Option.some.inj h)
  refine g_sw (pc := 1) C (off := 103) (tgt := 104) (5 : Int32) dX7_count_1 (by decide) (by decide) (by decide) (by decide) h (fun hc1 h => ?_) (fun hn1_5 h => ?_)
  · refine g_aload_n (pc := 104) C dX7_count_104 rfl 0 rfl ?_
    refine g_getr (pc := 105) C (Cn := RX7) (T := TX7) (N := 11) (ci := 7) (k := 0) (j := 0) uX7_count_X7 (by rfl) rfl (by decide) (by decide +kernel) (q := 1) rfl dX7_count_105 ?_
    refine g_getiN (pc := 108) C (host := "MoundVotes") (Cn := RX2) (T := TX2) (N := 8) (ci := 2) (k := 1) (j := 0) uX7_count_X2 (by rfl) rfl (by decide) (by decide +kernel) (q := 0) rfl dX7_count_108 ?_
    refine g_aload_n (pc := 111) C dX7_count_111 rfl 0 rfl ?_
    refine g_getr (pc := 112) C (Cn := RX7) (T := TX7) (N := 11) (ci := 7) (k := 0) (j := 0) uX7_count_X7 (by rfl) rfl (by decide) (by decide +kernel) (q := 1) rfl dX7_count_112 ?_
    obtain ⟨t4, et4, h⟩ := bs h
    refine g_callVi (pc := 115) C (As := []) (rest := [.int (σ 1 0)]) (k := 1) (by rfl) (by rfl) (cwV 0 C.2.2.2.2.2.1 gX7_count_X2_ownerless rfl rfl rfl (by decide +kernel) ⟨Nat.le_of_ble_eq_true rfl, Nat.le_of_ble_eq_true rfl⟩) (mX2_ownerless l Z isR1 et4) rfl rfl (Nat.le_of_ble_eq_true rfl) dX7_count_115 ?_
    obtain ⟨t5, et5, h⟩ := bs h
    refine g_callSi (pc := 118) C (As := [.int t4]) (rest := [.int (σ 1 0)]) (va_cwS 1 C.2.2.2.2.2.1 gX7_count_J6_bitCount_0f7a4 rfl rfl rfl (by decide +kernel) ⟨Nat.le_of_ble_eq_true rfl, Nat.le_of_ble_eq_true rfl⟩) (mJ6_bitCount_0f7a4 l Z  et5) rfl rfl (Nat.le_of_ble_eq_true rfl) dX7_count_118 ?_
    refine g_iadd (pc := 121) C dX7_count_121 ?_
    exact g_iret C dX7_count_122 rfl (Option.some.inj h)
  refine g_swd (pc := 1) C (tgt := 123) dX7_count_1 (by have z0 := ne_ti hn1_0; have z1 := ne_ti hn1_1; have z2 := ne_ti hn1_2; have z3 := ne_ti hn1_3; have z4 := ne_ti hn1_4; have z5 := ne_ti hn1_5; simp at z0 z1 z2 z3 z4 z5; omega) (by decide) ?_
  refine g_iconst (pc := 123) C (v := (-1 : Int32)) dX7_count_123 (by decide) ?_
  exact g_iret C dX7_count_124 rfl (Option.some.inj h)
theorem mX7_count (l : Launch) (Z : Sh) {σ : Sg} {v1 : Int32} {u : Int32}  (h : fX7_count σ v1 = some u) : MI l Z layX yX7_count wsX7_count rX7_count [.ref (ad Z 0), .int v1] σ σ u :=
  MI.of (cc := cX7_count) (maxL := 2) (ret := (some .int)) (by decide) rfl (Nat.le_of_ble_eq_true rfl) (fun p e s m below meth c C => kX7_count_e C  h)
