def rX8_lay : Room := { frames := 1, cells := 0, slots := 0, locals := 25 }
theorem uX8_lay_X8 : ∀ w ∈ wsX80, w ∈ wsX8_lay := by decide +kernel
def fX8_lay (σ : Sg) (v1 : Int32) (v2 : Int32) (v3 : Int32) : Option (Sg × Int32) := (fX8_in v1.toInt64 (0 : Int64) (3 : Int64)).bind fun t1 => if t1 = 0 then some (σ, (-1 : Int32)) else (rd (σ 11) 4 v1).bind fun t2 => if t2 = (-4 : Int32) then some (σ, (-11 : Int32)) else (rd (σ 12) 4 v1).bind fun t3 => (fX8_in v2.toInt64 (0 : Int64) ((t3 - (1 : Int32)).toInt64)).bind fun t4 => if t4 = 0 then some (σ, (-12 : Int32)) else (rd (σ 11) 4 v1).bind fun t5 => if t5 = 0 then (wr σ 13 160 (((40 : Int32) * v1) + v2) ((v3 <<< ((24 : Int32) &&& 31)) >>> ((24 : Int32) &&& 31))).bind fun σ9 => some (σ9, (1 : Int32)) else (rd (σ 11) 4 v1).bind fun t6 => if t6 = (1 : Int32) then (wr σ 13 160 (((40 : Int32) * v1) + v2) ((v3 <<< ((16 : Int32) &&& 31)) >>> ((16 : Int32) &&& 31))).bind fun σ8 => some (σ8, (1 : Int32)) else (wr σ 13 160 (((40 : Int32) * v1) + v2) v3).bind fun σ7 => some (σ7, (1 : Int32))
set_option maxHeartbeats 1000000 in
set_option maxRecDepth 20000 in
theorem kX8_lay_e {p : Program} {l : Launch} {e : Env} {s : State} {m : MethodId} {args : Array Value} {below : List Frame} {meth : Method} {c : Code} {Z : Sh} (C : Cx p s m args meth c cX8_lay 4 wsX8_lay RX8 (some .int) Z layM) {σ : Sg} {v1 : Int32} {v2 : Int32} {v3 : Int32} {u : Sg × Int32}  (h : fX8_lay σ v1 v2 v3 = some u) : G p l e rX8_lay s m args below meth c 4 Z layM (MQ below (QI Z layM u.1 u.2 s.heap.size) args s 0 0 (pA Z layM s.heap.size)) σ 0 [(0, .ref (ad Z 0)), (1, .int v1), (2, .int v2), (3, .int v3)] [] := by
  unfold fX8_lay at h
  refine g_iload_n (pc := 0) C dX8_lay_0 rfl 1 rfl ?_
  refine g_i2l (pc := 1) C dX8_lay_1 ?_
  refine g_lconst (pc := 2) C (v := (0 : Int64)) dX8_lay_2 (by decide) ?_
  refine g_ldc2 (pc := 3) C (v := (3 : Int64)) (by decide +kernel) dX8_lay_3 ?_
  obtain ⟨t1, et1, h⟩ := bs h
  refine g_callSi (pc := 6) C (As := [.long v1.toInt64, .long (0 : Int64), .long (3 : Int64)]) (rest := []) (va_cwS 3 C.2.2.2.2.2.1 gX8_lay_X8_in rfl rfl rfl (by decide +kernel) ⟨Nat.le_of_ble_eq_true rfl, Nat.le_of_ble_eq_true rfl⟩) (mX8_in l Z  et1) rfl rfl (Nat.le_of_ble_eq_true rfl) dX8_lay_6 ?_
  refine g_if_ne (pc := 9) C (tgt := 14) dX8_lay_9 (by decide) h (fun hc9 h => ?_) (fun hc9 h => ?_)
  · refine g_aload_n (pc := 14) C dX8_lay_14 rfl 0 rfl ?_
    refine g_getr (pc := 15) C (Cn := RX8) (T := TX8) (N := 32) (ci := 8) (k := 0) (j := 28) uX8_lay_X8 (by rfl) rfl (by decide) (by decide +kernel) (q := 11) rfl dX8_lay_15 ?_
    refine g_iload_n (pc := 18) C dX8_lay_18 rfl 1 rfl ?_
    obtain ⟨t2, et2, h⟩ := bs h
    refine g_iald (pc := 19) C (k := 11) (n := 4) (by rfl) et2 dX8_lay_19 ?_
    refine g_bipush (pc := 20) C (v := (-4 : Int32)) dX8_lay_20 (by decide) ?_
    refine g_icmp_ne (pc := 22) C (tgt := 28) dX8_lay_22 (by decide) h (fun hc22 h => ?_) (fun hc22 h => ?_)
    · refine g_iload_n (pc := 28) C dX8_lay_28 rfl 2 rfl ?_
      refine g_i2l (pc := 29) C dX8_lay_29 ?_
      refine g_lconst (pc := 30) C (v := (0 : Int64)) dX8_lay_30 (by decide) ?_
      refine g_aload_n (pc := 31) C dX8_lay_31 rfl 0 rfl ?_
      refine g_getr (pc := 32) C (Cn := RX8) (T := TX8) (N := 32) (ci := 8) (k := 0) (j := 29) uX8_lay_X8 (by rfl) rfl (by decide) (by decide +kernel) (q := 12) rfl dX8_lay_32 ?_
      refine g_iload_n (pc := 35) C dX8_lay_35 rfl 1 rfl ?_
      obtain ⟨t3, et3, h⟩ := bs h
      refine g_iald (pc := 36) C (k := 12) (n := 4) (by rfl) et3 dX8_lay_36 ?_
      refine g_iconst (pc := 37) C (v := (1 : Int32)) dX8_lay_37 (by decide) ?_
      refine g_isub (pc := 38) C dX8_lay_38 ?_
      refine g_i2l (pc := 39) C dX8_lay_39 ?_
      obtain ⟨t4, et4, h⟩ := bs h
      refine g_callSi (pc := 40) C (As := [.long v2.toInt64, .long (0 : Int64), .long ((t3 - (1 : Int32)).toInt64)]) (rest := []) (va_cwS 3 C.2.2.2.2.2.1 gX8_lay_X8_in rfl rfl rfl (by decide +kernel) ⟨Nat.le_of_ble_eq_true rfl, Nat.le_of_ble_eq_true rfl⟩) (mX8_in l Z  et4) rfl rfl (Nat.le_of_ble_eq_true rfl) dX8_lay_40 ?_
      refine g_if_ne (pc := 43) C (tgt := 49) dX8_lay_43 (by decide) h (fun hc43 h => ?_) (fun hc43 h => ?_)
      · refine g_aload_n (pc := 49) C dX8_lay_49 rfl 0 rfl ?_
        refine g_getr (pc := 50) C (Cn := RX8) (T := TX8) (N := 32) (ci := 8) (k := 0) (j := 30) uX8_lay_X8 (by rfl) rfl (by decide) (by decide +kernel) (q := 13) rfl dX8_lay_50 ?_
        refine g_bipush (pc := 53) C (v := (40 : Int32)) dX8_lay_53 (by decide) ?_
        refine g_iload_n (pc := 55) C dX8_lay_55 rfl 1 rfl ?_
        refine g_imul (pc := 56) C dX8_lay_56 ?_
        refine g_iload_n (pc := 57) C dX8_lay_57 rfl 2 rfl ?_
        refine g_iadd (pc := 58) C dX8_lay_58 ?_
        refine g_aload_n (pc := 59) C dX8_lay_59 rfl 0 rfl ?_
        refine g_getr (pc := 60) C (Cn := RX8) (T := TX8) (N := 32) (ci := 8) (k := 0) (j := 28) uX8_lay_X8 (by rfl) rfl (by decide) (by decide +kernel) (q := 11) rfl dX8_lay_60 ?_
        refine g_iload_n (pc := 63) C dX8_lay_63 rfl 1 rfl ?_
        obtain ⟨t5, et5, h⟩ := bs h
        refine g_iald (pc := 64) C (k := 11) (n := 4) (by rfl) et5 dX8_lay_64 ?_
        refine g_if_ne (pc := 65) C (tgt := 78) dX8_lay_65 (by decide) h (fun hc65 h => ?_) (fun hc65 h => ?_)
        · refine g_aload_n (pc := 78) C dX8_lay_78 rfl 0 rfl ?_
          refine g_getr (pc := 79) C (Cn := RX8) (T := TX8) (N := 32) (ci := 8) (k := 0) (j := 28) uX8_lay_X8 (by rfl) rfl (by decide) (by decide +kernel) (q := 11) rfl dX8_lay_79 ?_
          refine g_iload_n (pc := 82) C dX8_lay_82 rfl 1 rfl ?_
          obtain ⟨t6, et6, h⟩ := bs h
          refine g_iald (pc := 83) C (k := 11) (n := 4) (by rfl) et6 dX8_lay_83 ?_
          refine g_iconst (pc := 84) C (v := (1 : Int32)) dX8_lay_84 (by decide) ?_
          refine g_icmp_ne (pc := 85) C (tgt := 98) dX8_lay_85 (by decide) h (fun hc85 h => ?_) (fun hc85 h => ?_)
          · refine g_iload_n (pc := 98) C dX8_lay_98 rfl 3 rfl ?_
            obtain ⟨σ7, eσ7, h⟩ := bs h
            refine g_iast (pc := 99) C (k := 13) (n := 160) (by rfl) eσ7 dX8_lay_99 ?_
            refine g_iconst (pc := 100) C (v := (1 : Int32)) dX8_lay_100 (by decide) ?_
            exact g_iret C dX8_lay_101 (pfst h) (psnd h)
          · refine g_iload_n (pc := 88) C dX8_lay_88 rfl 3 rfl ?_
            refine g_bipush (pc := 89) C (v := (16 : Int32)) dX8_lay_89 (by decide) ?_
            refine g_ishl (pc := 91) C dX8_lay_91 ?_
            refine g_bipush (pc := 92) C (v := (16 : Int32)) dX8_lay_92 (by decide) ?_
            refine g_ishr (pc := 94) C dX8_lay_94 ?_
            refine g_goto (pc := 95) C (tgt := 99) dX8_lay_95 (by decide) ?_
            obtain ⟨σ8, eσ8, h⟩ := bs h
            refine g_iast (pc := 99) C (k := 13) (n := 160) (by rfl) eσ8 dX8_lay_99 ?_
            refine g_iconst (pc := 100) C (v := (1 : Int32)) dX8_lay_100 (by decide) ?_
            exact g_iret C dX8_lay_101 (pfst h) (psnd h)
        · refine g_iload_n (pc := 68) C dX8_lay_68 rfl 3 rfl ?_
          refine g_bipush (pc := 69) C (v := (24 : Int32)) dX8_lay_69 (by decide) ?_
          refine g_ishl (pc := 71) C dX8_lay_71 ?_
          refine g_bipush (pc := 72) C (v := (24 : Int32)) dX8_lay_72 (by decide) ?_
          refine g_ishr (pc := 74) C dX8_lay_74 ?_
          refine g_goto (pc := 75) C (tgt := 99) dX8_lay_75 (by decide) ?_
          obtain ⟨σ9, eσ9, h⟩ := bs h
          refine g_iast (pc := 99) C (k := 13) (n := 160) (by rfl) eσ9 dX8_lay_99 ?_
          refine g_iconst (pc := 100) C (v := (1 : Int32)) dX8_lay_100 (by decide) ?_
          exact g_iret C dX8_lay_101 (pfst h) (psnd h)
      · refine g_bipush (pc := 46) C (v := (-12 : Int32)) dX8_lay_46 (by decide) ?_
        exact g_iret C dX8_lay_48 (pfst h) (psnd h)
    · refine g_bipush (pc := 25) C (v := (-11 : Int32)) dX8_lay_25 (by decide) ?_
      exact g_iret C dX8_lay_27 (pfst h) (psnd h)
  · refine g_iconst (pc := 12) C (v := (-1 : Int32)) dX8_lay_12 (by decide) ?_
    exact g_iret C dX8_lay_13 (pfst h) (psnd h)
theorem mX8_lay (l : Launch) (Z : Sh) {σ : Sg} {v1 : Int32} {v2 : Int32} {v3 : Int32} {u : Sg × Int32}  (h : fX8_lay σ v1 v2 v3 = some u) : MI l Z layM yX8_lay wsX8_lay rX8_lay [.ref (ad Z 0), .int v1, .int v2, .int v3] σ u.1 u.2 :=
  MI.of (cc := cX8_lay) (maxL := 4) (ret := (some .int)) (by decide) rfl (Nat.le_of_ble_eq_true rfl) (fun p e s m below meth c C => kX8_lay_e C  h)

def rX8_read : Room := { frames := 4, cells := 0, slots := 0, locals := 90 }
theorem uX8_read_X8 : ∀ w ∈ wsX80, w ∈ wsX8_read := by decide +kernel
def fX8_read_b125 (v1 : Int32) (v2 : Int32) (v3 : Int32) (v4 : Int32) (k55 : Sg → Int32 → Int32 → Int32 → Option (Sg × Int32)) (σ : Sg) (v6 : Int32) (v7 : Int32) (s0 : Int32) : Option (Sg × Int32) := if s0 = 0 then (rm v7 (2 : Int32)).bind fun t1 => if t1 = (1 : Int32) then (rd (σ 13) 160 (((((40 : Int32) * v1) + v3) + v7) - (1 : Int32))).bind fun t2 => (rd (σ 13) 160 ((((40 : Int32) * v1) + v3) + v7)).bind fun t3 => (fX8_buys σ t2 t3).bind fun u4 => if 0 ≤ u4.2 then k55 u4.1 s0 (v6 + 1) (v7 + 1) else (fX8_copies u4.1 (87 : Int32) (0 : Int32)).bind fun σ5 => some (σ5, ((-20 : Int32) - v6)) else k55 σ s0 v6 (v7 + 1) else k55 σ s0 v6 (v7 + 1)
def fX8_read_b196 (v1 : Int32) (v2 : Int32) (v3 : Int32) (v4 : Int32)  (σ : Sg) (v5 : Int32) (v6 : Int32) : Option (Sg × Int32) := (pf σ 0 31 v5).bind fun σ1 => some (σ1, v6)
def fX8_read_l55 (v1 : Int32) (v2 : Int32) (v3 : Int32) (v4 : Int32)  : Nat → Sg → Int32 → Int32 → Int32 → Option (Sg × Int32)
  | 0, _, _, _, _ => none
  | n + 1, σ, v5, v6, v7 => if ((2 : Int32) * v4) ≤ v7 then fX8_read_b196 v1 v2 v3 v4 σ v5 v6 else if v5 = 0 then (rd (σ 11) 4 v1).bind fun t1 => if t1 = (-4 : Int32) then fX8_read_b125 v1 v2 v3 v4 (fun σ v5 v6 v7 => fX8_read_l55 v1 v2 v3 v4 n σ v5 v6 v7) σ v6 v7 (1 : Int32) else (rd (σ 11) 4 v1).bind fun t2 => if t2 = v2 then (rd (σ 12) 4 v1).bind fun t3 => (fX8_in (v3.toInt64 + v7.toInt64) (0 : Int64) ((t3 - (1 : Int32)).toInt64)).bind fun t4 => if t4 = 0 then fX8_read_b125 v1 v2 v3 v4 (fun σ v5 v6 v7 => fX8_read_l55 v1 v2 v3 v4 n σ v5 v6 v7) σ v6 v7 (2 : Int32) else fX8_read_b125 v1 v2 v3 v4 (fun σ v5 v6 v7 => fX8_read_l55 v1 v2 v3 v4 n σ v5 v6 v7) σ v6 v7 (0 : Int32) else fX8_read_b125 v1 v2 v3 v4 (fun σ v5 v6 v7 => fX8_read_l55 v1 v2 v3 v4 n σ v5 v6 v7) σ v6 v7 (3 : Int32) else fX8_read_b196 v1 v2 v3 v4 σ v5 v6
def fX8_read (σ : Sg) (v1 : Int32) (v2 : Int32) (v3 : Int32) (v4 : Int32) : Option (Sg × Int32) := (fX8_in v1.toInt64 (0 : Int64) (3 : Int64)).bind fun t1 => if t1 = 0 then some (σ, (-1 : Int32)) else (fX8_in v2.toInt64 (0 : Int64) (2 : Int64)).bind fun t2 => if t2 = 0 then some (σ, (-1 : Int32)) else (fX8_in v4.toInt64 (0 : Int64) (20 : Int64)).bind fun t3 => if t3 = 0 then some (σ, (-1 : Int32)) else (fX8_copies σ (0 : Int32) (87 : Int32)).bind fun σ4 => fX8_read_l55 v1 v2 v3 v4 2000 σ4 (0 : Int32) (0 : Int32) (0 : Int32)
set_option maxHeartbeats 1000000 in
set_option maxRecDepth 20000 in
theorem kX8_read_b125 {p : Program} {l : Launch} {e : Env} {s : State} {m : MethodId} {args : Array Value} {below : List Frame} {meth : Method} {c : Code} {Z : Sh} (C : Cx p s m args meth c cX8_read 9 wsX8_read RX8 (some .int) Z layM) {v1 : Int32} {v2 : Int32} {v3 : Int32} {v4 : Int32} {u : Sg × Int32}  {k55 : Sg → Int32 → Int32 → Int32 → Option (Sg × Int32)} (hk55 : ∀ (σ : Sg) (v5 : Int32) (v6 : Int32) (v7 : Int32), k55 σ v5 v6 v7 = some u → G p l e rX8_read s m args below meth c 9 Z layM (MQ below (QI Z layM u.1 u.2 s.heap.size) args s 0 0 (pA Z layM s.heap.size)) σ 55 [(0, .ref (ad Z 0)), (1, .int v1), (2, .int v2), (3, .int v3), (4, .int v4), (5, .int v5), (6, .int v6), (7, .int v7)] []) {σ : Sg} {v6 : Int32} {v7 : Int32} {s0 : Int32} (h : fX8_read_b125 v1 v2 v3 v4 k55 σ v6 v7 s0 = some u) : G p l e rX8_read s m args below meth c 9 Z layM (MQ below (QI Z layM u.1 u.2 s.heap.size) args s 0 0 (pA Z layM s.heap.size)) σ 125 [(0, .ref (ad Z 0)), (1, .int v1), (2, .int v2), (3, .int v3), (4, .int v4), (6, .int v6), (7, .int v7)] [.int s0] := by
  unfold fX8_read_b125 at h
  refine g_istore (pc := 125) C (lv2 := [(5, .int s0), (0, .ref (ad Z 0)), (1, .int v1), (2, .int v2), (3, .int v3), (4, .int v4), (6, .int v6), (7, .int v7)]) dX8_read_125 (by decide) rfl ?_
  refine g_iload (pc := 127) C dX8_read_127 0 rfl ?_
  refine g_if_ne (pc := 129) C (tgt := 190) dX8_read_129 (by decide) h (fun hc129 h => ?_) (fun hc129 h => ?_)
  · refine g_iinc (pc := 190) C (j := 7) (v := (v7 + 1)) (lv2 := [(7, .int (v7 + 1)), (5, .int s0), (0, .ref (ad Z 0)), (1, .int v1), (2, .int v2), (3, .int v3), (4, .int v4), (6, .int v6)]) dX8_read_190 rfl rfl (by decide) rfl ?_
    refine g_goto (pc := 193) C (tgt := 55) dX8_read_193 (by decide) ?_
    exact g_sub [2, 3, 4, 5, 6, 1, 7, 0] rfl (hk55 _ _ _ _ h)
  · refine g_iload (pc := 132) C dX8_read_132 7 rfl ?_
    refine g_iconst (pc := 134) C (v := (2 : Int32)) dX8_read_134 (by decide) ?_
    obtain ⟨t1, et1, h⟩ := bs h
    refine g_irem (pc := 135) C dX8_read_135 et1 ?_
    refine g_iconst (pc := 136) C (v := (1 : Int32)) dX8_read_136 (by decide) ?_
    refine g_icmp_ne (pc := 137) C (tgt := 190) dX8_read_137 (by decide) h (fun hc137 h => ?_) (fun hc137 h => ?_)
    · refine g_iinc (pc := 190) C (j := 7) (v := (v7 + 1)) (lv2 := [(7, .int (v7 + 1)), (5, .int s0), (0, .ref (ad Z 0)), (1, .int v1), (2, .int v2), (3, .int v3), (4, .int v4), (6, .int v6)]) dX8_read_190 rfl rfl (by decide) rfl ?_
      refine g_goto (pc := 193) C (tgt := 55) dX8_read_193 (by decide) ?_
      exact g_sub [2, 3, 4, 5, 6, 1, 7, 0] rfl (hk55 _ _ _ _ h)
    · refine g_bipush (pc := 140) C (v := (40 : Int32)) dX8_read_140 (by decide) ?_
      refine g_iload_n (pc := 142) C dX8_read_142 rfl 2 rfl ?_
      refine g_imul (pc := 143) C dX8_read_143 ?_
      refine g_iload_n (pc := 144) C dX8_read_144 rfl 4 rfl ?_
      refine g_iadd (pc := 145) C dX8_read_145 ?_
      refine g_iload (pc := 146) C dX8_read_146 7 rfl ?_
      refine g_iadd (pc := 148) C dX8_read_148 ?_
      refine g_istore (pc := 149) C (lv2 := [(8, .int ((((40 : Int32) * v1) + v3) + v7)), (5, .int s0), (0, .ref (ad Z 0)), (1, .int v1), (2, .int v2), (3, .int v3), (4, .int v4), (6, .int v6), (7, .int v7)]) dX8_read_149 (by decide) rfl ?_
      refine g_aload_n (pc := 151) C dX8_read_151 rfl 2 rfl ?_
      refine g_aload_n (pc := 152) C dX8_read_152 rfl 2 rfl ?_
      refine g_getr (pc := 153) C (Cn := RX8) (T := TX8) (N := 32) (ci := 8) (k := 0) (j := 30) uX8_read_X8 (by rfl) rfl (by decide) (by decide +kernel) (q := 13) rfl dX8_read_153 ?_
      refine g_iload (pc := 156) C dX8_read_156 0 rfl ?_
      refine g_iconst (pc := 158) C (v := (1 : Int32)) dX8_read_158 (by decide) ?_
      refine g_isub (pc := 159) C dX8_read_159 ?_
      obtain ⟨t2, et2, h⟩ := bs h
      refine g_iald (pc := 160) C (k := 13) (n := 160) (by rfl) et2 dX8_read_160 ?_
      refine g_aload_n (pc := 161) C dX8_read_161 rfl 2 rfl ?_
      refine g_getr (pc := 162) C (Cn := RX8) (T := TX8) (N := 32) (ci := 8) (k := 0) (j := 30) uX8_read_X8 (by rfl) rfl (by decide) (by decide +kernel) (q := 13) rfl dX8_read_162 ?_
      refine g_iload (pc := 165) C dX8_read_165 0 rfl ?_
      obtain ⟨t3, et3, h⟩ := bs h
      refine g_iald (pc := 167) C (k := 13) (n := 160) (by rfl) et3 dX8_read_167 ?_
      obtain ⟨u4, eu4, h⟩ := bs h
      refine g_callVi (pc := 168) C (As := [.int t2, .int t3]) (rest := []) (k := 0) (by rfl) (by rfl) (cwV 2 C.2.2.2.2.2.1 gX8_read_X8_buys rfl rfl rfl (by decide +kernel) ⟨Nat.le_of_ble_eq_true rfl, Nat.le_of_ble_eq_true rfl⟩) (mX8_buys l Z  eu4) rfl rfl (Nat.le_of_ble_eq_true rfl) dX8_read_168 ?_
      refine g_if_ge (pc := 171) C (tgt := 187) dX8_read_171 (by decide) h (fun hc171 h => ?_) (fun hc171 h => ?_)
      · refine g_iinc (pc := 187) C (j := 7) (v := (v6 + 1)) (lv2 := [(6, .int (v6 + 1)), (8, .int ((((40 : Int32) * v1) + v3) + v7)), (5, .int s0), (0, .ref (ad Z 0)), (1, .int v1), (2, .int v2), (3, .int v3), (4, .int v4), (7, .int v7)]) dX8_read_187 rfl rfl (by decide) rfl ?_
        refine g_iinc (pc := 190) C (j := 8) (v := (v7 + 1)) (lv2 := [(7, .int (v7 + 1)), (6, .int (v6 + 1)), (8, .int ((((40 : Int32) * v1) + v3) + v7)), (5, .int s0), (0, .ref (ad Z 0)), (1, .int v1), (2, .int v2), (3, .int v3), (4, .int v4)]) dX8_read_190 rfl rfl (by decide) rfl ?_
        refine g_goto (pc := 193) C (tgt := 55) dX8_read_193 (by decide) ?_
        exact g_sub [4, 5, 6, 7, 8, 3, 1, 0] rfl (hk55 _ _ _ _ h)
      · refine g_aload_n (pc := 174) C dX8_read_174 rfl 2 rfl ?_
        refine g_bipush (pc := 175) C (v := (87 : Int32)) dX8_read_175 (by decide) ?_
        refine g_iconst (pc := 177) C (v := (0 : Int32)) dX8_read_177 (by decide) ?_
        obtain ⟨σ5, eσ5, h⟩ := bs h
        refine g_callVv (pc := 178) C (As := [.int (87 : Int32), .int (0 : Int32)]) (rest := []) (k := 0) (by rfl) (by rfl) (cwV 2 C.2.2.2.2.2.1 gX8_read_X8_copies rfl rfl rfl (by decide +kernel) ⟨Nat.le_of_ble_eq_true rfl, Nat.le_of_ble_eq_true rfl⟩) (mX8_copies l Z  eσ5) rfl rfl (Nat.le_of_ble_eq_true rfl) dX8_read_178 ?_
        refine g_bipush (pc := 181) C (v := (-20 : Int32)) dX8_read_181 (by decide) ?_
        refine g_iload (pc := 183) C dX8_read_183 7 rfl ?_
        refine g_isub (pc := 185) C dX8_read_185 ?_
        exact g_iret C dX8_read_186 (pfst h) (psnd h)
set_option maxHeartbeats 1000000 in
set_option maxRecDepth 20000 in
theorem kX8_read_b196 {p : Program} {l : Launch} {e : Env} {s : State} {m : MethodId} {args : Array Value} {below : List Frame} {meth : Method} {c : Code} {Z : Sh} (C : Cx p s m args meth c cX8_read 9 wsX8_read RX8 (some .int) Z layM) {v1 : Int32} {v2 : Int32} {v3 : Int32} {v4 : Int32} {u : Sg × Int32}   {σ : Sg} {v5 : Int32} {v6 : Int32} (h : fX8_read_b196 v1 v2 v3 v4 σ v5 v6 = some u) : G p l e rX8_read s m args below meth c 9 Z layM (MQ below (QI Z layM u.1 u.2 s.heap.size) args s 0 0 (pA Z layM s.heap.size)) σ 196 [(0, .ref (ad Z 0)), (5, .int v5), (6, .int v6)] [] := by
  unfold fX8_read_b196 at h
  refine g_aload_n (pc := 196) C dX8_read_196 rfl 0 rfl ?_
  refine g_iload (pc := 197) C dX8_read_197 1 rfl ?_
  obtain ⟨σ1, eσ1, h⟩ := bs h
  refine g_puti (pc := 199) C (Cn := RX8) (T := TX8) (N := 32) (ci := 8) (k := 0) (j := 31) uX8_read_X8 (by rfl) rfl (by decide) (by decide +kernel) tyX8 tyX8_ok nmX8 rfl (by decide +kernel) rfl eσ1 dX8_read_199 ?_
  refine g_iload (pc := 202) C dX8_read_202 2 rfl ?_
  exact g_iret C dX8_read_204 (pfst h) (psnd h)
set_option maxHeartbeats 1000000 in
set_option maxRecDepth 20000 in
theorem kX8_read_l55 {p : Program} {l : Launch} {e : Env} {s : State} {m : MethodId} {args : Array Value} {below : List Frame} {meth : Method} {c : Code} {Z : Sh} (C : Cx p s m args meth c cX8_read 9 wsX8_read RX8 (some .int) Z layM) {v1 : Int32} {v2 : Int32} {v3 : Int32} {v4 : Int32} {u : Sg × Int32}   : ∀ (n : Nat) (σ : Sg) (v5 : Int32) (v6 : Int32) (v7 : Int32), fX8_read_l55 v1 v2 v3 v4 n σ v5 v6 v7 = some u → G p l e rX8_read s m args below meth c 9 Z layM (MQ below (QI Z layM u.1 u.2 s.heap.size) args s 0 0 (pA Z layM s.heap.size)) σ 55 [(0, .ref (ad Z 0)), (1, .int v1), (2, .int v2), (3, .int v3), (4, .int v4), (5, .int v5), (6, .int v6), (7, .int v7)] [] := by
  intro n
  induction n with
  | zero => intro σ v5 v6 v7 h; exact absurd h (by simp [fX8_read_l55])
  | succ n ih =>
    intro σ v5 v6 v7 h
    rw [fX8_read_l55] at h
    refine g_iload (pc := 55) C dX8_read_55 7 rfl ?_
    refine g_iconst (pc := 57) C (v := (2 : Int32)) dX8_read_57 (by decide) ?_
    refine g_iload (pc := 58) C dX8_read_58 4 rfl ?_
    refine g_imul (pc := 60) C dX8_read_60 ?_
    refine g_icmp_ge (pc := 61) C (tgt := 196) dX8_read_61 (by decide) h (fun hc61 h => ?_) (fun hc61 h => ?_)
    · exact g_sub [0, 5, 6] rfl (kX8_read_b196 C    h)
    · refine g_iload (pc := 64) C dX8_read_64 5 rfl ?_
      refine g_if_ne (pc := 66) C (tgt := 196) dX8_read_66 (by decide) h (fun hc66 h => ?_) (fun hc66 h => ?_)
      · exact g_sub [0, 5, 6] rfl (kX8_read_b196 C    h)
      · refine g_aload_n (pc := 69) C dX8_read_69 rfl 0 rfl ?_
        refine g_getr (pc := 70) C (Cn := RX8) (T := TX8) (N := 32) (ci := 8) (k := 0) (j := 28) uX8_read_X8 (by rfl) rfl (by decide) (by decide +kernel) (q := 11) rfl dX8_read_70 ?_
        refine g_iload_n (pc := 73) C dX8_read_73 rfl 1 rfl ?_
        obtain ⟨t1, et1, h⟩ := bs h
        refine g_iald (pc := 74) C (k := 11) (n := 4) (by rfl) et1 dX8_read_74 ?_
        refine g_bipush (pc := 75) C (v := (-4 : Int32)) dX8_read_75 (by decide) ?_
        refine g_icmp_ne (pc := 77) C (tgt := 84) dX8_read_77 (by decide) h (fun hc77 h => ?_) (fun hc77 h => ?_)
        · refine g_aload_n (pc := 84) C dX8_read_84 rfl 0 rfl ?_
          refine g_getr (pc := 85) C (Cn := RX8) (T := TX8) (N := 32) (ci := 8) (k := 0) (j := 28) uX8_read_X8 (by rfl) rfl (by decide) (by decide +kernel) (q := 11) rfl dX8_read_85 ?_
          refine g_iload_n (pc := 88) C dX8_read_88 rfl 1 rfl ?_
          obtain ⟨t2, et2, h⟩ := bs h
          refine g_iald (pc := 89) C (k := 11) (n := 4) (by rfl) et2 dX8_read_89 ?_
          refine g_iload_n (pc := 90) C dX8_read_90 rfl 2 rfl ?_
          refine g_icmp_eq (pc := 91) C (tgt := 98) dX8_read_91 (by decide) h (fun hc91 h => ?_) (fun hc91 h => ?_)
          · refine g_iload_n (pc := 98) C dX8_read_98 rfl 3 rfl ?_
            refine g_i2l (pc := 99) C dX8_read_99 ?_
            refine g_iload (pc := 100) C dX8_read_100 7 rfl ?_
            refine g_i2l (pc := 102) C dX8_read_102 ?_
            refine g_ladd (pc := 103) C dX8_read_103 ?_
            refine g_lconst (pc := 104) C (v := (0 : Int64)) dX8_read_104 (by decide) ?_
            refine g_aload_n (pc := 105) C dX8_read_105 rfl 0 rfl ?_
            refine g_getr (pc := 106) C (Cn := RX8) (T := TX8) (N := 32) (ci := 8) (k := 0) (j := 29) uX8_read_X8 (by rfl) rfl (by decide) (by decide +kernel) (q := 12) rfl dX8_read_106 ?_
            refine g_iload_n (pc := 109) C dX8_read_109 rfl 1 rfl ?_
            obtain ⟨t3, et3, h⟩ := bs h
            refine g_iald (pc := 110) C (k := 12) (n := 4) (by rfl) et3 dX8_read_110 ?_
            refine g_iconst (pc := 111) C (v := (1 : Int32)) dX8_read_111 (by decide) ?_
            refine g_isub (pc := 112) C dX8_read_112 ?_
            refine g_i2l (pc := 113) C dX8_read_113 ?_
            obtain ⟨t4, et4, h⟩ := bs h
            refine g_callSi (pc := 114) C (As := [.long (v3.toInt64 + v7.toInt64), .long (0 : Int64), .long ((t3 - (1 : Int32)).toInt64)]) (rest := []) (va_cwS 3 C.2.2.2.2.2.1 gX8_read_X8_in rfl rfl rfl (by decide +kernel) ⟨Nat.le_of_ble_eq_true rfl, Nat.le_of_ble_eq_true rfl⟩) (mX8_in l Z  et4) rfl rfl (Nat.le_of_ble_eq_true rfl) dX8_read_114 ?_
            refine g_if_ne (pc := 117) C (tgt := 124) dX8_read_117 (by decide) h (fun hc117 h => ?_) (fun hc117 h => ?_)
            · refine g_iconst (pc := 124) C (v := (0 : Int32)) dX8_read_124 (by decide) ?_
              exact g_sub [0, 1, 2, 3, 4, 6, 7] rfl (kX8_read_b125 C  ih  h)
            · refine g_iconst (pc := 120) C (v := (2 : Int32)) dX8_read_120 (by decide) ?_
              refine g_goto (pc := 121) C (tgt := 125) dX8_read_121 (by decide) ?_
              exact g_sub [0, 1, 2, 3, 4, 6, 7] rfl (kX8_read_b125 C  ih  h)
          · refine g_iconst (pc := 94) C (v := (3 : Int32)) dX8_read_94 (by decide) ?_
            refine g_goto (pc := 95) C (tgt := 125) dX8_read_95 (by decide) ?_
            exact g_sub [0, 1, 2, 3, 4, 6, 7] rfl (kX8_read_b125 C  ih  h)
        · refine g_iconst (pc := 80) C (v := (1 : Int32)) dX8_read_80 (by decide) ?_
          refine g_goto (pc := 81) C (tgt := 125) dX8_read_81 (by decide) ?_
          exact g_sub [0, 1, 2, 3, 4, 6, 7] rfl (kX8_read_b125 C  ih  h)
set_option maxHeartbeats 1000000 in
set_option maxRecDepth 20000 in
theorem kX8_read_e {p : Program} {l : Launch} {e : Env} {s : State} {m : MethodId} {args : Array Value} {below : List Frame} {meth : Method} {c : Code} {Z : Sh} (C : Cx p s m args meth c cX8_read 9 wsX8_read RX8 (some .int) Z layM) {σ : Sg} {v1 : Int32} {v2 : Int32} {v3 : Int32} {v4 : Int32} {u : Sg × Int32}  (h : fX8_read σ v1 v2 v3 v4 = some u) : G p l e rX8_read s m args below meth c 9 Z layM (MQ below (QI Z layM u.1 u.2 s.heap.size) args s 0 0 (pA Z layM s.heap.size)) σ 0 [(0, .ref (ad Z 0)), (1, .int v1), (2, .int v2), (3, .int v3), (4, .int v4)] [] := by
  unfold fX8_read at h
  refine g_iload_n (pc := 0) C dX8_read_0 rfl 1 rfl ?_
  refine g_i2l (pc := 1) C dX8_read_1 ?_
  refine g_lconst (pc := 2) C (v := (0 : Int64)) dX8_read_2 (by decide) ?_
  refine g_ldc2 (pc := 3) C (v := (3 : Int64)) (by decide +kernel) dX8_read_3 ?_
  obtain ⟨t1, et1, h⟩ := bs h
  refine g_callSi (pc := 6) C (As := [.long v1.toInt64, .long (0 : Int64), .long (3 : Int64)]) (rest := []) (va_cwS 3 C.2.2.2.2.2.1 gX8_read_X8_in rfl rfl rfl (by decide +kernel) ⟨Nat.le_of_ble_eq_true rfl, Nat.le_of_ble_eq_true rfl⟩) (mX8_in l Z  et1) rfl rfl (Nat.le_of_ble_eq_true rfl) dX8_read_6 ?_
  refine g_if_eq (pc := 9) C (tgt := 37) dX8_read_9 (by decide) h (fun hc9 h => ?_) (fun hc9 h => ?_)
  · refine g_iconst (pc := 37) C (v := (-1 : Int32)) dX8_read_37 (by decide) ?_
    exact g_iret C dX8_read_38 (pfst h) (psnd h)
  · refine g_iload_n (pc := 12) C dX8_read_12 rfl 2 rfl ?_
    refine g_i2l (pc := 13) C dX8_read_13 ?_
    refine g_lconst (pc := 14) C (v := (0 : Int64)) dX8_read_14 (by decide) ?_
    refine g_ldc2 (pc := 15) C (v := (2 : Int64)) (by decide +kernel) dX8_read_15 ?_
    obtain ⟨t2, et2, h⟩ := bs h
    refine g_callSi (pc := 18) C (As := [.long v2.toInt64, .long (0 : Int64), .long (2 : Int64)]) (rest := []) (va_cwS 3 C.2.2.2.2.2.1 gX8_read_X8_in rfl rfl rfl (by decide +kernel) ⟨Nat.le_of_ble_eq_true rfl, Nat.le_of_ble_eq_true rfl⟩) (mX8_in l Z  et2) rfl rfl (Nat.le_of_ble_eq_true rfl) dX8_read_18 ?_
    refine g_if_eq (pc := 21) C (tgt := 37) dX8_read_21 (by decide) h (fun hc21 h => ?_) (fun hc21 h => ?_)
    · refine g_iconst (pc := 37) C (v := (-1 : Int32)) dX8_read_37 (by decide) ?_
      exact g_iret C dX8_read_38 (pfst h) (psnd h)
    · refine g_iload (pc := 24) C dX8_read_24 4 rfl ?_
      refine g_i2l (pc := 26) C dX8_read_26 ?_
      refine g_lconst (pc := 27) C (v := (0 : Int64)) dX8_read_27 (by decide) ?_
      refine g_ldc2 (pc := 28) C (v := (20 : Int64)) (by decide +kernel) dX8_read_28 ?_
      obtain ⟨t3, et3, h⟩ := bs h
      refine g_callSi (pc := 31) C (As := [.long v4.toInt64, .long (0 : Int64), .long (20 : Int64)]) (rest := []) (va_cwS 3 C.2.2.2.2.2.1 gX8_read_X8_in rfl rfl rfl (by decide +kernel) ⟨Nat.le_of_ble_eq_true rfl, Nat.le_of_ble_eq_true rfl⟩) (mX8_in l Z  et3) rfl rfl (Nat.le_of_ble_eq_true rfl) dX8_read_31 ?_
      refine g_if_ne (pc := 34) C (tgt := 39) dX8_read_34 (by decide) h (fun hc34 h => ?_) (fun hc34 h => ?_)
      · refine g_aload_n (pc := 39) C dX8_read_39 rfl 0 rfl ?_
        refine g_iconst (pc := 40) C (v := (0 : Int32)) dX8_read_40 (by decide) ?_
        refine g_bipush (pc := 41) C (v := (87 : Int32)) dX8_read_41 (by decide) ?_
        obtain ⟨σ4, eσ4, h⟩ := bs h
        refine g_callVv (pc := 43) C (As := [.int (0 : Int32), .int (87 : Int32)]) (rest := []) (k := 0) (by rfl) (by rfl) (cwV 2 C.2.2.2.2.2.1 gX8_read_X8_copies rfl rfl rfl (by decide +kernel) ⟨Nat.le_of_ble_eq_true rfl, Nat.le_of_ble_eq_true rfl⟩) (mX8_copies l Z  eσ4) rfl rfl (Nat.le_of_ble_eq_true rfl) dX8_read_43 ?_
        refine g_iconst (pc := 46) C (v := (0 : Int32)) dX8_read_46 (by decide) ?_
        refine g_istore (pc := 47) C (lv2 := [(5, .int (0 : Int32)), (0, .ref (ad Z 0)), (1, .int v1), (2, .int v2), (3, .int v3), (4, .int v4)]) dX8_read_47 (by decide) rfl ?_
        refine g_iconst (pc := 49) C (v := (0 : Int32)) dX8_read_49 (by decide) ?_
        refine g_istore (pc := 50) C (lv2 := [(6, .int (0 : Int32)), (5, .int (0 : Int32)), (0, .ref (ad Z 0)), (1, .int v1), (2, .int v2), (3, .int v3), (4, .int v4)]) dX8_read_50 (by decide) rfl ?_
        refine g_iconst (pc := 52) C (v := (0 : Int32)) dX8_read_52 (by decide) ?_
        refine g_istore (pc := 53) C (lv2 := [(7, .int (0 : Int32)), (6, .int (0 : Int32)), (5, .int (0 : Int32)), (0, .ref (ad Z 0)), (1, .int v1), (2, .int v2), (3, .int v3), (4, .int v4)]) dX8_read_53 (by decide) rfl ?_
        exact g_sub [3, 4, 5, 6, 7, 2, 1, 0] rfl (kX8_read_l55 C   _ _ _ _ _ h)
      · refine g_iconst (pc := 37) C (v := (-1 : Int32)) dX8_read_37 (by decide) ?_
        exact g_iret C dX8_read_38 (pfst h) (psnd h)
theorem mX8_read (l : Launch) (Z : Sh) {σ : Sg} {v1 : Int32} {v2 : Int32} {v3 : Int32} {v4 : Int32} {u : Sg × Int32}  (h : fX8_read σ v1 v2 v3 v4 = some u) : MI l Z layM yX8_read wsX8_read rX8_read [.ref (ad Z 0), .int v1, .int v2, .int v3, .int v4] σ u.1 u.2 :=
  MI.of (cc := cX8_read) (maxL := 9) (ret := (some .int)) (by decide) rfl (Nat.le_of_ble_eq_true rfl) (fun p e s m below meth c C => kX8_read_e C  h)

def rX8_torn : Room := { frames := 0, cells := 0, slots := 0, locals := 0 }
theorem uX8_torn_X8 : ∀ w ∈ wsX80, w ∈ wsX8_torn := by decide +kernel
def fX8_torn (σ : Sg)  : Option (Int32) := some (σ 0 31)
set_option maxHeartbeats 1000000 in
set_option maxRecDepth 20000 in
theorem kX8_torn_e {p : Program} {l : Launch} {e : Env} {s : State} {m : MethodId} {args : Array Value} {below : List Frame} {meth : Method} {c : Code} {Z : Sh} (C : Cx p s m args meth c cX8_torn 1 wsX8_torn RX8 (some .int) Z layM) {σ : Sg}  {u : Int32}  (h : fX8_torn σ = some u) : G p l e rX8_torn s m args below meth c 1 Z layM (MQ below (QI Z layM σ u s.heap.size) args s 0 0 (pA Z layM s.heap.size)) σ 0 [(0, .ref (ad Z 0))] [] := by
  unfold fX8_torn at h
  refine g_aload_n (pc := 0) C dX8_torn_0 rfl 0 rfl ?_
  refine g_geti (pc := 1) C (Cn := RX8) (T := TX8) (N := 32) (ci := 8) (k := 0) (j := 31) uX8_torn_X8 (by rfl) rfl (by decide) (by decide +kernel) (q := 0) rfl dX8_torn_1 ?_
  exact g_iret C dX8_torn_4 rfl (Option.some.inj h)
theorem mX8_torn (l : Launch) (Z : Sh) {σ : Sg}  {u : Int32}  (h : fX8_torn σ = some u) : MI l Z layM yX8_torn wsX8_torn rX8_torn [.ref (ad Z 0)] σ σ u :=
  MI.of (cc := cX8_torn) (maxL := 1) (ret := (some .int)) (by decide) rfl (Nat.le_of_ble_eq_true rfl) (fun p e s m below meth c C => kX8_torn_e C  h)

def rX8_count : Room := { frames := 3, cells := 0, slots := 0, locals := 64 }
theorem uX8_count_X8 : ∀ w ∈ wsX80, w ∈ wsX8_count := by decide +kernel
def fX8_count_b83 (σ : Sg) (v1 : Int32)  (s0 : Int32) : Option (Int32) := (rd (σ 10) 2 (1 : Int32)).bind fun t1 => if t1 = 0 then some (s0 + (0 : Int32)) else some (s0 + (1 : Int32))
def fX8_count_l4 (σ : Sg) (v1 : Int32)  : Nat → Int32 → Int32 → Option (Int32)
  | 0, _, _ => none
  | n + 1, v2, v3 => if (σ 0 2) ≤ v3 then if v1 = (0 : Int32) then some (σ 0 24) else if v1 = (1 : Int32) then (rd (σ 10) 2 (0 : Int32)).bind fun t1 => if t1 = 0 then fX8_count_b83 σ v1 (0 : Int32) else fX8_count_b83 σ v1 (1 : Int32) else if v1 = (2 : Int32) then some (σ 0 9) else if v1 = (3 : Int32) then (rd (σ 11) 4 (0 : Int32)).bind fun t2 => if t2 = (-4 : Int32) then some (-4 : Int32) else (rd (σ 12) 4 (0 : Int32)).bind fun t3 => some t3 else if v1 = (4 : Int32) then some v2 else if v1 = (5 : Int32) then (fX8_nobodys σ).bind fun t4 => (fX8_bitsOf t4).bind fun t5 => some ((σ 0 1) + t5) else some (-1 : Int32) else (fX8_votesOf σ v3).bind fun t6 => fX8_count_l4 σ v1 n (v2 + t6) (v3 + 1)
def fX8_count (σ : Sg) (v1 : Int32) : Option (Int32) := fX8_count_l4 σ v1 2000 (0 : Int32) (0 : Int32)
set_option maxHeartbeats 1000000 in
set_option maxRecDepth 20000 in
theorem kX8_count_b83 {p : Program} {l : Launch} {e : Env} {s : State} {m : MethodId} {args : Array Value} {below : List Frame} {meth : Method} {c : Code} {Z : Sh} (C : Cx p s m args meth c cX8_count 4 wsX8_count RX8 (some .int) Z layM) {σ : Sg} {v1 : Int32} {u : Int32}   {s0 : Int32} (h : fX8_count_b83 σ v1 s0 = some u) : G p l e rX8_count s m args below meth c 4 Z layM (MQ below (QI Z layM σ u s.heap.size) args s 0 0 (pA Z layM s.heap.size)) σ 83 [(0, .ref (ad Z 0))] [.int s0] := by
  unfold fX8_count_b83 at h
  refine g_aload_n (pc := 83) C dX8_count_83 rfl 0 rfl ?_
  refine g_getr (pc := 84) C (Cn := RX8) (T := TX8) (N := 32) (ci := 8) (k := 0) (j := 27) uX8_count_X8 (by rfl) rfl (by decide) (by decide +kernel) (q := 10) rfl dX8_count_84 ?_
  refine g_iconst (pc := 87) C (v := (1 : Int32)) dX8_count_87 (by decide) ?_
  obtain ⟨t1, et1, h⟩ := bs h
  refine g_zald (pc := 88) C (k := 10) (n := 2) (by rfl) et1 dX8_count_88 ?_
  refine g_if_eq (pc := 89) C (tgt := 96) dX8_count_89 (by decide) h (fun hc89 h => ?_) (fun hc89 h => ?_)
  · refine g_iconst (pc := 96) C (v := (0 : Int32)) dX8_count_96 (by decide) ?_
    refine g_iadd (pc := 97) C dX8_count_97 ?_
    exact g_iret C dX8_count_98 rfl (Option.some.inj h)
  · refine g_iconst (pc := 92) C (v := (1 : Int32)) dX8_count_92 (by decide) ?_
    refine g_goto (pc := 93) C (tgt := 97) dX8_count_93 (by decide) ?_
    refine g_iadd (pc := 97) C dX8_count_97 ?_
    exact g_iret C dX8_count_98 rfl (Option.some.inj h)
set_option maxHeartbeats 1000000 in
set_option maxRecDepth 20000 in
theorem kX8_count_l4 {p : Program} {l : Launch} {e : Env} {s : State} {m : MethodId} {args : Array Value} {below : List Frame} {meth : Method} {c : Code} {Z : Sh} (C : Cx p s m args meth c cX8_count 4 wsX8_count RX8 (some .int) Z layM) {σ : Sg} {v1 : Int32} {u : Int32}   : ∀ (n : Nat) (v2 : Int32) (v3 : Int32), fX8_count_l4 σ v1 n v2 v3 = some u → G p l e rX8_count s m args below meth c 4 Z layM (MQ below (QI Z layM σ u s.heap.size) args s 0 0 (pA Z layM s.heap.size)) σ 4 [(0, .ref (ad Z 0)), (1, .int v1), (2, .int v2), (3, .int v3)] [] := by
  intro n
  induction n with
  | zero => intro v2 v3 h; exact absurd h (by simp [fX8_count_l4])
  | succ n ih =>
    intro v2 v3 h
    rw [fX8_count_l4] at h
    refine g_iload_n (pc := 4) C dX8_count_4 rfl 3 rfl ?_
    refine g_aload_n (pc := 5) C dX8_count_5 rfl 0 rfl ?_
    refine g_geti (pc := 6) C (Cn := RX8) (T := TX8) (N := 32) (ci := 8) (k := 0) (j := 2) uX8_count_X8 (by rfl) rfl (by decide) (by decide +kernel) (q := 0) rfl dX8_count_6 ?_
    refine g_icmp_ge (pc := 9) C (tgt := 26) dX8_count_9 (by decide) h (fun hc9 h => ?_) (fun hc9 h => ?_)
    · refine g_iload_n (pc := 26) C dX8_count_26 rfl 1 rfl ?_
      refine g_sw (pc := 27) C (off := 37) (tgt := 64) (0 : Int32) dX8_count_27 (by decide) (by decide) (by decide) (by decide) h (fun hc27 h => ?_) (fun hn27_0 h => ?_)
      · refine g_aload_n (pc := 64) C dX8_count_64 rfl 0 rfl ?_
        refine g_geti (pc := 65) C (Cn := RX8) (T := TX8) (N := 32) (ci := 8) (k := 0) (j := 24) uX8_count_X8 (by rfl) rfl (by decide) (by decide +kernel) (q := 0) rfl dX8_count_65 ?_
        exact g_iret C dX8_count_68 rfl (Option.some.inj h)
      refine g_sw (pc := 27) C (off := 42) (tgt := 69) (1 : Int32) dX8_count_27 (by decide) (by decide) (by decide) (by decide) h (fun hc27 h => ?_) (fun hn27_1 h => ?_)
      · refine g_aload_n (pc := 69) C dX8_count_69 rfl 0 rfl ?_
        refine g_getr (pc := 70) C (Cn := RX8) (T := TX8) (N := 32) (ci := 8) (k := 0) (j := 27) uX8_count_X8 (by rfl) rfl (by decide) (by decide +kernel) (q := 10) rfl dX8_count_70 ?_
        refine g_iconst (pc := 73) C (v := (0 : Int32)) dX8_count_73 (by decide) ?_
        obtain ⟨t1, et1, h⟩ := bs h
        refine g_zald (pc := 74) C (k := 10) (n := 2) (by rfl) et1 dX8_count_74 ?_
        refine g_if_eq (pc := 75) C (tgt := 82) dX8_count_75 (by decide) h (fun hc75 h => ?_) (fun hc75 h => ?_)
        · refine g_iconst (pc := 82) C (v := (0 : Int32)) dX8_count_82 (by decide) ?_
          exact g_sub [0] rfl (kX8_count_b83 C    h)
        · refine g_iconst (pc := 78) C (v := (1 : Int32)) dX8_count_78 (by decide) ?_
          refine g_goto (pc := 79) C (tgt := 83) dX8_count_79 (by decide) ?_
          exact g_sub [0] rfl (kX8_count_b83 C    h)
      refine g_sw (pc := 27) C (off := 72) (tgt := 99) (2 : Int32) dX8_count_27 (by decide) (by decide) (by decide) (by decide) h (fun hc27 h => ?_) (fun hn27_2 h => ?_)
      · refine g_aload_n (pc := 99) C dX8_count_99 rfl 0 rfl ?_
        refine g_geti (pc := 100) C (Cn := RX8) (T := TX8) (N := 32) (ci := 8) (k := 0) (j := 9) uX8_count_X8 (by rfl) rfl (by decide) (by decide +kernel) (q := 0) rfl dX8_count_100 ?_
        exact g_iret C dX8_count_103 rfl (Option.some.inj h)
      refine g_sw (pc := 27) C (off := 77) (tgt := 104) (3 : Int32) dX8_count_27 (by decide) (by decide) (by decide) (by decide) h (fun hc27 h => ?_) (fun hn27_3 h => ?_)
      · refine g_aload_n (pc := 104) C dX8_count_104 rfl 0 rfl ?_
        refine g_getr (pc := 105) C (Cn := RX8) (T := TX8) (N := 32) (ci := 8) (k := 0) (j := 28) uX8_count_X8 (by rfl) rfl (by decide) (by decide +kernel) (q := 11) rfl dX8_count_105 ?_
        refine g_iconst (pc := 108) C (v := (0 : Int32)) dX8_count_108 (by decide) ?_
        obtain ⟨t2, et2, h⟩ := bs h
        refine g_iald (pc := 109) C (k := 11) (n := 4) (by rfl) et2 dX8_count_109 ?_
        refine g_bipush (pc := 110) C (v := (-4 : Int32)) dX8_count_110 (by decide) ?_
        refine g_icmp_ne (pc := 112) C (tgt := 120) dX8_count_112 (by decide) h (fun hc112 h => ?_) (fun hc112 h => ?_)
        · refine g_aload_n (pc := 120) C dX8_count_120 rfl 0 rfl ?_
          refine g_getr (pc := 121) C (Cn := RX8) (T := TX8) (N := 32) (ci := 8) (k := 0) (j := 29) uX8_count_X8 (by rfl) rfl (by decide) (by decide +kernel) (q := 12) rfl dX8_count_121 ?_
          refine g_iconst (pc := 124) C (v := (0 : Int32)) dX8_count_124 (by decide) ?_
          obtain ⟨t3, et3, h⟩ := bs h
          refine g_iald (pc := 125) C (k := 12) (n := 4) (by rfl) et3 dX8_count_125 ?_
          exact g_iret C dX8_count_126 rfl (Option.some.inj h)
        · refine g_bipush (pc := 115) C (v := (-4 : Int32)) dX8_count_115 (by decide) ?_
          refine g_goto (pc := 117) C (tgt := 126) dX8_count_117 (by decide) ?_
          exact g_iret C dX8_count_126 rfl (Option.some.inj h)
      refine g_sw (pc := 27) C (off := 100) (tgt := 127) (4 : Int32) dX8_count_27 (by decide) (by decide) (by decide) (by decide) h (fun hc27 h => ?_) (fun hn27_4 h => ?_)
      · refine g_iload_n (pc := 127) C dX8_count_127 rfl 2 rfl ?_
        exact g_iret C dX8_count_128 rfl (Option.some.inj h)
      refine g_sw (pc := 27) C (off := 102) (tgt := 129) (5 : Int32) dX8_count_27 (by decide) (by decide) (by decide) (by decide) h (fun hc27 h => ?_) (fun hn27_5 h => ?_)
      · refine g_aload_n (pc := 129) C dX8_count_129 rfl 0 rfl ?_
        refine g_geti (pc := 130) C (Cn := RX8) (T := TX8) (N := 32) (ci := 8) (k := 0) (j := 1) uX8_count_X8 (by rfl) rfl (by decide) (by decide +kernel) (q := 0) rfl dX8_count_130 ?_
        refine g_aload_n (pc := 133) C dX8_count_133 rfl 0 rfl ?_
        obtain ⟨t4, et4, h⟩ := bs h
        refine g_callVi (pc := 134) C (As := []) (rest := [.int (σ 0 1)]) (k := 0) (by rfl) (by rfl) (cwV 0 C.2.2.2.2.2.1 gX8_count_X8_nobodys rfl rfl rfl (by decide +kernel) ⟨Nat.le_of_ble_eq_true rfl, Nat.le_of_ble_eq_true rfl⟩) (mX8_nobodys l Z  et4) rfl rfl (Nat.le_of_ble_eq_true rfl) dX8_count_134 ?_
        obtain ⟨t5, et5, h⟩ := bs h
        refine g_callSi (pc := 137) C (As := [.int t4]) (rest := [.int (σ 0 1)]) (va_cwS 1 C.2.2.2.2.2.1 gX8_count_X8_bitsOf rfl rfl rfl (by decide +kernel) ⟨Nat.le_of_ble_eq_true rfl, Nat.le_of_ble_eq_true rfl⟩) (mX8_bitsOf l Z  et5) rfl rfl (Nat.le_of_ble_eq_true rfl) dX8_count_137 ?_
        refine g_iadd (pc := 140) C dX8_count_140 ?_
        exact g_iret C dX8_count_141 rfl (Option.some.inj h)
      refine g_swd (pc := 27) C (tgt := 142) dX8_count_27 (by have z0 := ne_ti hn27_0; have z1 := ne_ti hn27_1; have z2 := ne_ti hn27_2; have z3 := ne_ti hn27_3; have z4 := ne_ti hn27_4; have z5 := ne_ti hn27_5; simp at z0 z1 z2 z3 z4 z5; omega) (by decide) ?_
      refine g_iconst (pc := 142) C (v := (-1 : Int32)) dX8_count_142 (by decide) ?_
      exact g_iret C dX8_count_143 rfl (Option.some.inj h)
    · refine g_iload_n (pc := 12) C dX8_count_12 rfl 2 rfl ?_
      refine g_aload_n (pc := 13) C dX8_count_13 rfl 0 rfl ?_
      refine g_iload_n (pc := 14) C dX8_count_14 rfl 3 rfl ?_
      obtain ⟨t6, et6, h⟩ := bs h
      refine g_callVi (pc := 15) C (As := [.int v3]) (rest := [.int v2]) (k := 0) (by rfl) (by rfl) (cwV 1 C.2.2.2.2.2.1 gX8_count_X8_votesOf rfl rfl rfl (by decide +kernel) ⟨Nat.le_of_ble_eq_true rfl, Nat.le_of_ble_eq_true rfl⟩) (mX8_votesOf l Z  et6) rfl rfl (Nat.le_of_ble_eq_true rfl) dX8_count_15 ?_
      refine g_iadd (pc := 18) C dX8_count_18 ?_
      refine g_istore_n (pc := 19) C (lv2 := [(2, .int (v2 + t6)), (0, .ref (ad Z 0)), (1, .int v1), (3, .int v3)]) dX8_count_19 rfl (by decide) rfl ?_
      refine g_iinc (pc := 20) C (j := 3) (v := (v3 + 1)) (lv2 := [(3, .int (v3 + 1)), (2, .int (v2 + t6)), (0, .ref (ad Z 0)), (1, .int v1)]) dX8_count_20 rfl rfl (by decide) rfl ?_
      refine g_goto (pc := 23) C (tgt := 4) dX8_count_23 (by decide) ?_
      exact g_sub [2, 3, 1, 0] rfl (ih _ _ h)
set_option maxHeartbeats 1000000 in
set_option maxRecDepth 20000 in
theorem kX8_count_e {p : Program} {l : Launch} {e : Env} {s : State} {m : MethodId} {args : Array Value} {below : List Frame} {meth : Method} {c : Code} {Z : Sh} (C : Cx p s m args meth c cX8_count 4 wsX8_count RX8 (some .int) Z layM) {σ : Sg} {v1 : Int32} {u : Int32}  (h : fX8_count σ v1 = some u) : G p l e rX8_count s m args below meth c 4 Z layM (MQ below (QI Z layM σ u s.heap.size) args s 0 0 (pA Z layM s.heap.size)) σ 0 [(0, .ref (ad Z 0)), (1, .int v1)] [] := by
  unfold fX8_count at h
  refine g_iconst (pc := 0) C (v := (0 : Int32)) dX8_count_0 (by decide) ?_
  refine g_istore_n (pc := 1) C (lv2 := [(2, .int (0 : Int32)), (0, .ref (ad Z 0)), (1, .int v1)]) dX8_count_1 rfl (by decide) rfl ?_
  refine g_iconst (pc := 2) C (v := (0 : Int32)) dX8_count_2 (by decide) ?_
  refine g_istore_n (pc := 3) C (lv2 := [(3, .int (0 : Int32)), (2, .int (0 : Int32)), (0, .ref (ad Z 0)), (1, .int v1)]) dX8_count_3 rfl (by decide) rfl ?_
  exact g_sub [2, 3, 1, 0] rfl (kX8_count_l4 C   _ _ _ h)
theorem mX8_count (l : Launch) (Z : Sh) {σ : Sg} {v1 : Int32} {u : Int32}  (h : fX8_count σ v1 = some u) : MI l Z layM yX8_count wsX8_count rX8_count [.ref (ad Z 0), .int v1] σ σ u :=
  MI.of (cc := cX8_count) (maxL := 4) (ret := (some .int)) (by decide) rfl (Nat.le_of_ble_eq_true rfl) (fun p e s m below meth c C => kX8_count_e C  h)
