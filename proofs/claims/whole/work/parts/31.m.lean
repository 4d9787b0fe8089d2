def rX8_readLine : Room := { frames := 4, cells := 0, slots := 0, locals := 91 }
theorem uX8_readLine_X8 : ∀ w ∈ wsX80, w ∈ wsX8_readLine := by decide +kernel
def fX8_readLine_b188   (σ : Sg) : Option (Sg) := (fX8_step σ).bind fun σ1 => some σ1
def fX8_readLine_b168   (σ : Sg) : Option (Sg) := if (σ 0 11) = 0 then if (σ 0 15) = (3 : Int32) then fX8_readLine_b188 σ else (fX8_fails σ (2 : Int32)).bind fun σ1 => fX8_readLine_b188 σ1 else fX8_readLine_b188 σ
def fX8_readLine_b90   (σ : Sg) (v1 : Int32) (s1 : Int32) : Option (Sg) := (pz σ 0 6 s1).bind fun σ1 => (fX8_step σ1).bind fun σ2 => if (σ2 0 11) ≤ 0 then if (3 : Int32) < v1 then if v1 = (4 : Int32) then (fX8_number σ2 (0 : Int32) (99 : Int32)).bind fun u5 => (wr u5.1 2 29 (σ2 0 4) u5.2).bind fun σ6 => (pf σ6 0 4 ((σ6 0 4) + (1 : Int32))).bind fun σ7 => fX8_readLine_b168 σ7 else (fX8_number σ2 (0 : Int32) (9 : Int32)).bind fun u3 => (wr u3.1 2 29 (28 : Int32) (u3.2 - (3 : Int32))).bind fun σ4 => fX8_readLine_b168 σ4 else (fX8_readBorough σ2 v1).bind fun σ8 => fX8_readLine_b168 σ8 else some σ2
def fX8_readLine_b85   (σ : Sg) (v1 : Int32) : Option (Sg) := fX8_readLine_b90 σ v1 (1 : Int32)
def fX8_readLine_b72   (σ : Sg) (v1 : Int32) : Option (Sg) := if (σ 0 6) = 0 then if v1 = (5 : Int32) then fX8_readLine_b85 σ v1 else fX8_readLine_b90 σ v1 (0 : Int32) else fX8_readLine_b85 σ v1
def fX8_readLine_b55   (σ : Sg) (v1 : Int32) : Option (Sg) := if v1 = (5 : Int32) then if (σ 0 6) = 0 then fX8_readLine_b72 σ v1 else (fX8_fails σ (4 : Int32)).bind fun σ1 => fX8_readLine_b72 σ1 v1 else fX8_readLine_b72 σ v1
def fX8_readLine_b50   (σ : Sg) (v1 : Int32) : Option (Sg) := (fX8_fails σ (5 : Int32)).bind fun σ1 => fX8_readLine_b55 σ1 v1
def fX8_readLine_b36   (σ : Sg) (v1 : Int32) : Option (Sg) := if (3 : Int32) < v1 then fX8_readLine_b55 σ v1 else if (σ 0 5) = (6 : Int32) then fX8_readLine_b50 σ v1 else fX8_readLine_b55 σ v1
def fX8_readLine (σ : Sg)  : Option (Sg) := (fX8_nameHere σ).bind fun t1 => (fX8_in t1.toInt64 (0 : Int64) (5 : Int64)).bind fun t2 => if t2 = 0 then (fX8_fails σ (2 : Int32)).bind fun σ3 => some σ3 else if t1 = (4 : Int32) then if (σ 0 4) = (4 : Int32) then fX8_readLine_b50 σ t1 else fX8_readLine_b36 σ t1 else fX8_readLine_b36 σ t1
set_option maxHeartbeats 1000000 in
set_option maxRecDepth 20000 in
theorem kX8_readLine_b188 {p : Program} {l : Launch} {e : Env} {s : State} {m : MethodId} {args : Array Value} {below : List Frame} {meth : Method} {c : Code} {Z : Sh} (C : Cx p s m args meth c cX8_readLine 2 wsX8_readLine RX8 none Z layM)  {u : Sg}   {σ : Sg} (h : fX8_readLine_b188 σ = some u) : G p l e rX8_readLine s m args below meth c 2 Z layM (MQ below (QV Z layM u s.heap.size) args s 0 0 (pA Z layM s.heap.size)) σ 188 [(0, .ref (ad Z 0))] [] := by
  unfold fX8_readLine_b188 at h
  refine g_aload_n (pc := 188) C dX8_readLine_188 rfl 0 rfl ?_
  obtain ⟨σ1, eσ1, h⟩ := bs h
  refine g_callVv (pc := 189) C (As := []) (rest := []) (k := 0) (by rfl) (by rfl) (cwV 0 C.2.2.2.2.2.1 gX8_readLine_X8_step rfl rfl rfl (by decide +kernel) ⟨Nat.le_of_ble_eq_true rfl, Nat.le_of_ble_eq_true rfl⟩) (mX8_step l Z  eσ1) rfl rfl (Nat.le_of_ble_eq_true rfl) dX8_readLine_189 ?_
  exact g_vret C dX8_readLine_192 (Option.some.inj h)
set_option maxHeartbeats 1000000 in
set_option maxRecDepth 20000 in
theorem kX8_readLine_b168 {p : Program} {l : Launch} {e : Env} {s : State} {m : MethodId} {args : Array Value} {below : List Frame} {meth : Method} {c : Code} {Z : Sh} (C : Cx p s m args meth c cX8_readLine 2 wsX8_readLine RX8 none Z layM)  {u : Sg}   {σ : Sg} (h : fX8_readLine_b168 σ = some u) : G p l e rX8_readLine s m args below meth c 2 Z layM (MQ below (QV Z layM u s.heap.size) args s 0 0 (pA Z layM s.heap.size)) σ 168 [(0, .ref (ad Z 0))] [] := by
  unfold fX8_readLine_b168 at h
  refine g_aload_n (pc := 168) C dX8_readLine_168 rfl 0 rfl ?_
  refine g_geti (pc := 169) C (Cn := RX8) (T := TX8) (N := 32) (ci := 8) (k := 0) (j := 11) uX8_readLine_X8 (by rfl) rfl (by decide) (by decide +kernel) (q := 0) rfl dX8_readLine_169 ?_
  refine g_if_ne (pc := 172) C (tgt := 188) dX8_readLine_172 (by decide) h (fun hc172 h => ?_) (fun hc172 h => ?_)
  · exact g_sub [0] rfl (kX8_readLine_b188 C    h)
  · refine g_aload_n (pc := 175) C dX8_readLine_175 rfl 0 rfl ?_
    refine g_geti (pc := 176) C (Cn := RX8) (T := TX8) (N := 32) (ci := 8) (k := 0) (j := 15) uX8_readLine_X8 (by rfl) rfl (by decide) (by decide +kernel) (q := 0) rfl dX8_readLine_176 ?_
    refine g_iconst (pc := 179) C (v := (3 : Int32)) dX8_readLine_179 (by decide) ?_
    refine g_icmp_eq (pc := 180) C (tgt := 188) dX8_readLine_180 (by decide) h (fun hc180 h => ?_) (fun hc180 h => ?_)
    · exact g_sub [0] rfl (kX8_readLine_b188 C    h)
    · refine g_aload_n (pc := 183) C dX8_readLine_183 rfl 0 rfl ?_
      refine g_iconst (pc := 184) C (v := (2 : Int32)) dX8_readLine_184 (by decide) ?_
      obtain ⟨σ1, eσ1, h⟩ := bs h
      refine g_callVv (pc := 185) C (As := [.int (2 : Int32)]) (rest := []) (k := 0) (by rfl) (by rfl) (cwV 1 C.2.2.2.2.2.1 gX8_readLine_X8_fails rfl rfl rfl (by decide +kernel) ⟨Nat.le_of_ble_eq_true rfl, Nat.le_of_ble_eq_true rfl⟩) (mX8_fails l Z  eσ1) rfl rfl (Nat.le_of_ble_eq_true rfl) dX8_readLine_185 ?_
      exact g_sub [0] rfl (kX8_readLine_b188 C    h)
set_option maxHeartbeats 1000000 in
set_option maxRecDepth 20000 in
theorem kX8_readLine_b90 {p : Program} {l : Launch} {e : Env} {s : State} {m : MethodId} {args : Array Value} {below : List Frame} {meth : Method} {c : Code} {Z : Sh} (C : Cx p s m args meth c cX8_readLine 2 wsX8_readLine RX8 none Z layM)  {u : Sg}   {σ : Sg} {v1 : Int32} {s1 : Int32} (h : fX8_readLine_b90 σ v1 s1 = some u) : G p l e rX8_readLine s m args below meth c 2 Z layM (MQ below (QV Z layM u s.heap.size) args s 0 0 (pA Z layM s.heap.size)) σ 90 [(0, .ref (ad Z 0)), (1, .int v1)] [.int s1, .ref (ad Z 0)] := by
  unfold fX8_readLine_b90 at h
  obtain ⟨σ1, eσ1, h⟩ := bs h
  refine g_putz (pc := 90) C (Cn := RX8) (T := TX8) (N := 32) (ci := 8) (k := 0) (j := 6) uX8_readLine_X8 (by rfl) rfl (by decide) (by decide +kernel) tyX8 tyX8_ok nmX8 rfl (by decide +kernel) rfl eσ1 dX8_readLine_90 ?_
  refine g_aload_n (pc := 93) C dX8_readLine_93 rfl 0 rfl ?_
  obtain ⟨σ2, eσ2, h⟩ := bs h
  refine g_callVv (pc := 94) C (As := []) (rest := []) (k := 0) (by rfl) (by rfl) (cwV 0 C.2.2.2.2.2.1 gX8_readLine_X8_step rfl rfl rfl (by decide +kernel) ⟨Nat.le_of_ble_eq_true rfl, Nat.le_of_ble_eq_true rfl⟩) (mX8_step l Z  eσ2) rfl rfl (Nat.le_of_ble_eq_true rfl) dX8_readLine_94 ?_
  refine g_aload_n (pc := 97) C dX8_readLine_97 rfl 0 rfl ?_
  refine g_geti (pc := 98) C (Cn := RX8) (T := TX8) (N := 32) (ci := 8) (k := 0) (j := 11) uX8_readLine_X8 (by rfl) rfl (by decide) (by decide +kernel) (q := 0) rfl dX8_readLine_98 ?_
  refine g_if_le (pc := 101) C (tgt := 105) dX8_readLine_101 (by decide) h (fun hc101 h => ?_) (fun hc101 h => ?_)
  · refine g_iload_n (pc := 105) C dX8_readLine_105 rfl 1 rfl ?_
    refine g_iconst (pc := 106) C (v := (3 : Int32)) dX8_readLine_106 (by decide) ?_
    refine g_icmp_gt (pc := 107) C (tgt := 118) dX8_readLine_107 (by decide) h (fun hc107 h => ?_) (fun hc107 h => ?_)
    · refine g_iload_n (pc := 118) C dX8_readLine_118 rfl 1 rfl ?_
      refine g_iconst (pc := 119) C (v := (4 : Int32)) dX8_readLine_119 (by decide) ?_
      refine g_icmp_ne (pc := 120) C (tgt := 152) dX8_readLine_120 (by decide) h (fun hc120 h => ?_) (fun hc120 h => ?_)
      · refine g_aload_n (pc := 152) C dX8_readLine_152 rfl 0 rfl ?_
        refine g_getr (pc := 153) C (Cn := RX8) (T := TX8) (N := 32) (ci := 8) (k := 0) (j := 3) uX8_readLine_X8 (by rfl) rfl (by decide) (by decide +kernel) (q := 2) rfl dX8_readLine_153 ?_
        refine g_bipush (pc := 156) C (v := (28 : Int32)) dX8_readLine_156 (by decide) ?_
        refine g_aload_n (pc := 158) C dX8_readLine_158 rfl 0 rfl ?_
        refine g_iconst (pc := 159) C (v := (0 : Int32)) dX8_readLine_159 (by decide) ?_
        refine g_bipush (pc := 160) C (v := (9 : Int32)) dX8_readLine_160 (by decide) ?_
        obtain ⟨u3, eu3, h⟩ := bs h
        refine g_callVi (pc := 162) C (As := [.int (0 : Int32), .int (9 : Int32)]) (rest := [.int (28 : Int32), .ref (ad Z 2)]) (k := 0) (by rfl) (by rfl) (cwV 2 C.2.2.2.2.2.1 gX8_readLine_X8_number rfl rfl rfl (by decide +kernel) ⟨Nat.le_of_ble_eq_true rfl, Nat.le_of_ble_eq_true rfl⟩) (mX8_number l Z  eu3) rfl rfl (Nat.le_of_ble_eq_true rfl) dX8_readLine_162 ?_
        refine g_iconst (pc := 165) C (v := (3 : Int32)) dX8_readLine_165 (by decide) ?_
        refine g_isub (pc := 166) C dX8_readLine_166 ?_
        obtain ⟨σ4, eσ4, h⟩ := bs h
        refine g_iast (pc := 167) C (k := 2) (n := 29) (by rfl) eσ4 dX8_readLine_167 ?_
        exact g_sub [0] rfl (kX8_readLine_b168 C    h)
      · refine g_aload_n (pc := 123) C dX8_readLine_123 rfl 0 rfl ?_
        refine g_getr (pc := 124) C (Cn := RX8) (T := TX8) (N := 32) (ci := 8) (k := 0) (j := 3) uX8_readLine_X8 (by rfl) rfl (by decide) (by decide +kernel) (q := 2) rfl dX8_readLine_124 ?_
        refine g_aload_n (pc := 127) C dX8_readLine_127 rfl 0 rfl ?_
        refine g_geti (pc := 128) C (Cn := RX8) (T := TX8) (N := 32) (ci := 8) (k := 0) (j := 4) uX8_readLine_X8 (by rfl) rfl (by decide) (by decide +kernel) (q := 0) rfl dX8_readLine_128 ?_
        refine g_aload_n (pc := 131) C dX8_readLine_131 rfl 0 rfl ?_
        refine g_iconst (pc := 132) C (v := (0 : Int32)) dX8_readLine_132 (by decide) ?_
        refine g_bipush (pc := 133) C (v := (99 : Int32)) dX8_readLine_133 (by decide) ?_
        obtain ⟨u5, eu5, h⟩ := bs h
        refine g_callVi (pc := 135) C (As := [.int (0 : Int32), .int (99 : Int32)]) (rest := [.int (σ2 0 4), .ref (ad Z 2)]) (k := 0) (by rfl) (by rfl) (cwV 2 C.2.2.2.2.2.1 gX8_readLine_X8_number rfl rfl rfl (by decide +kernel) ⟨Nat.le_of_ble_eq_true rfl, Nat.le_of_ble_eq_true rfl⟩) (mX8_number l Z  eu5) rfl rfl (Nat.le_of_ble_eq_true rfl) dX8_readLine_135 ?_
        obtain ⟨σ6, eσ6, h⟩ := bs h
        refine g_iast (pc := 138) C (k := 2) (n := 29) (by rfl) eσ6 dX8_readLine_138 ?_
        refine g_aload_n (pc := 139) C dX8_readLine_139 rfl 0 rfl ?_
        refine g_dup (pc := 140) C rfl dX8_readLine_140 ?_
        refine g_geti (pc := 141) C (Cn := RX8) (T := TX8) (N := 32) (ci := 8) (k := 0) (j := 4) uX8_readLine_X8 (by rfl) rfl (by decide) (by decide +kernel) (q := 0) rfl dX8_readLine_141 ?_
        refine g_iconst (pc := 144) C (v := (1 : Int32)) dX8_readLine_144 (by decide) ?_
        refine g_iadd (pc := 145) C dX8_readLine_145 ?_
        obtain ⟨σ7, eσ7, h⟩ := bs h
        refine g_puti (pc := 146) C (Cn := RX8) (T := TX8) (N := 32) (ci := 8) (k := 0) (j := 4) uX8_readLine_X8 (by rfl) rfl (by decide) (by decide +kernel) tyX8 tyX8_ok nmX8 rfl (by decide +kernel) rfl eσ7 dX8_readLine_146 ?_
        refine g_goto (pc := 149) C (tgt := 168) dX8_readLine_149 (by decide) ?_
        exact g_sub [0] rfl (kX8_readLine_b168 C    h)
    · refine g_aload_n (pc := 110) C dX8_readLine_110 rfl 0 rfl ?_
      refine g_iload_n (pc := 111) C dX8_readLine_111 rfl 1 rfl ?_
      obtain ⟨σ8, eσ8, h⟩ := bs h
      refine g_callVv (pc := 112) C (As := [.int v1]) (rest := []) (k := 0) (by rfl) (by rfl) (cwV 1 C.2.2.2.2.2.1 gX8_readLine_X8_readBorough rfl rfl rfl (by decide +kernel) ⟨Nat.le_of_ble_eq_true rfl, Nat.le_of_ble_eq_true rfl⟩) (mX8_readBorough l Z  eσ8) rfl rfl (Nat.le_of_ble_eq_true rfl) dX8_readLine_112 ?_
      refine g_goto (pc := 115) C (tgt := 168) dX8_readLine_115 (by decide) ?_
      exact g_sub [0] rfl (kX8_readLine_b168 C    h)
  · exact g_vret C dX8_readLine_104 (Option.some.inj h)
set_option maxHeartbeats 1000000 in
set_option maxRecDepth 20000 in
theorem kX8_readLine_b85 {p : Program} {l : Launch} {e : Env} {s : State} {m : MethodId} {args : Array Value} {below : List Frame} {meth : Method} {c : Code} {Z : Sh} (C : Cx p s m args meth c cX8_readLine 2 wsX8_readLine RX8 none Z layM)  {u : Sg}   {σ : Sg} {v1 : Int32} (h : fX8_readLine_b85 σ v1 = some u) : G p l e rX8_readLine s m args below meth c 2 Z layM (MQ below (QV Z layM u s.heap.size) args s 0 0 (pA Z layM s.heap.size)) σ 85 [(0, .ref (ad Z 0)), (1, .int v1)] [.ref (ad Z 0)] := by
  unfold fX8_readLine_b85 at h
  refine g_iconst (pc := 85) C (v := (1 : Int32)) dX8_readLine_85 (by decide) ?_
  refine g_goto (pc := 86) C (tgt := 90) dX8_readLine_86 (by decide) ?_
  exact g_sub [0, 1] rfl (kX8_readLine_b90 C    h)
set_option maxHeartbeats 1000000 in
set_option maxRecDepth 20000 in
theorem kX8_readLine_b72 {p : Program} {l : Launch} {e : Env} {s : State} {m : MethodId} {args : Array Value} {below : List Frame} {meth : Method} {c : Code} {Z : Sh} (C : Cx p s m args meth c cX8_readLine 2 wsX8_readLine RX8 none Z layM)  {u : Sg}   {σ : Sg} {v1 : Int32} (h : fX8_readLine_b72 σ v1 = some u) : G p l e rX8_readLine s m args below meth c 2 Z layM (MQ below (QV Z layM u s.heap.size) args s 0 0 (pA Z layM s.heap.size)) σ 72 [(0, .ref (ad Z 0)), (1, .int v1)] [] := by
  unfold fX8_readLine_b72 at h
  refine g_aload_n (pc := 72) C dX8_readLine_72 rfl 0 rfl ?_
  refine g_aload_n (pc := 73) C dX8_readLine_73 rfl 0 rfl ?_
  refine g_geti (pc := 74) C (Cn := RX8) (T := TX8) (N := 32) (ci := 8) (k := 0) (j := 6) uX8_readLine_X8 (by rfl) rfl (by decide) (by decide +kernel) (q := 0) rfl dX8_readLine_74 ?_
  refine g_if_ne (pc := 77) C (tgt := 85) dX8_readLine_77 (by decide) h (fun hc77 h => ?_) (fun hc77 h => ?_)
  · exact g_sub [0, 1] rfl (kX8_readLine_b85 C    h)
  · refine g_iload_n (pc := 80) C dX8_readLine_80 rfl 1 rfl ?_
    refine g_iconst (pc := 81) C (v := (5 : Int32)) dX8_readLine_81 (by decide) ?_
    refine g_icmp_ne (pc := 82) C (tgt := 89) dX8_readLine_82 (by decide) h (fun hc82 h => ?_) (fun hc82 h => ?_)
    · refine g_iconst (pc := 89) C (v := (0 : Int32)) dX8_readLine_89 (by decide) ?_
      exact g_sub [0, 1] rfl (kX8_readLine_b90 C    h)
    · exact g_sub [0, 1] rfl (kX8_readLine_b85 C    h)
set_option maxHeartbeats 1000000 in
set_option maxRecDepth 20000 in
theorem kX8_readLine_b55 {p : Program} {l : Launch} {e : Env} {s : State} {m : MethodId} {args : Array Value} {below : List Frame} {meth : Method} {c : Code} {Z : Sh} (C : Cx p s m args meth c cX8_readLine 2 wsX8_readLine RX8 none Z layM)  {u : Sg}   {σ : Sg} {v1 : Int32} (h : fX8_readLine_b55 σ v1 = some u) : G p l e rX8_readLine s m args below meth c 2 Z layM (MQ below (QV Z layM u s.heap.size) args s 0 0 (pA Z layM s.heap.size)) σ 55 [(0, .ref (ad Z 0)), (1, .int v1)] [] := by
  unfold fX8_readLine_b55 at h
  refine g_iload_n (pc := 55) C dX8_readLine_55 rfl 1 rfl ?_
  refine g_iconst (pc := 56) C (v := (5 : Int32)) dX8_readLine_56 (by decide) ?_
  refine g_icmp_ne (pc := 57) C (tgt := 72) dX8_readLine_57 (by decide) h (fun hc57 h => ?_) (fun hc57 h => ?_)
  · exact g_sub [0, 1] rfl (kX8_readLine_b72 C    h)
  · refine g_aload_n (pc := 60) C dX8_readLine_60 rfl 0 rfl ?_
    refine g_geti (pc := 61) C (Cn := RX8) (T := TX8) (N := 32) (ci := 8) (k := 0) (j := 6) uX8_readLine_X8 (by rfl) rfl (by decide) (by decide +kernel) (q := 0) rfl dX8_readLine_61 ?_
    refine g_if_eq (pc := 64) C (tgt := 72) dX8_readLine_64 (by decide) h (fun hc64 h => ?_) (fun hc64 h => ?_)
    · exact g_sub [0, 1] rfl (kX8_readLine_b72 C    h)
    · refine g_aload_n (pc := 67) C dX8_readLine_67 rfl 0 rfl ?_
      refine g_iconst (pc := 68) C (v := (4 : Int32)) dX8_readLine_68 (by decide) ?_
      obtain ⟨σ1, eσ1, h⟩ := bs h
      refine g_callVv (pc := 69) C (As := [.int (4 : Int32)]) (rest := []) (k := 0) (by rfl) (by rfl) (cwV 1 C.2.2.2.2.2.1 gX8_readLine_X8_fails rfl rfl rfl (by decide +kernel) ⟨Nat.le_of_ble_eq_true rfl, Nat.le_of_ble_eq_true rfl⟩) (mX8_fails l Z  eσ1) rfl rfl (Nat.le_of_ble_eq_true rfl) dX8_readLine_69 ?_
      exact g_sub [0, 1] rfl (kX8_readLine_b72 C    h)
set_option maxHeartbeats 1000000 in
set_option maxRecDepth 20000 in
theorem kX8_readLine_b50 {p : Program} {l : Launch} {e : Env} {s : State} {m : MethodId} {args : Array Value} {below : List Frame} {meth : Method} {c : Code} {Z : Sh} (C : Cx p s m args meth c cX8_readLine 2 wsX8_readLine RX8 none Z layM)  {u : Sg}   {σ : Sg} {v1 : Int32} (h : fX8_readLine_b50 σ v1 = some u) : G p l e rX8_readLine s m args below meth c 2 Z layM (MQ below (QV Z layM u s.heap.size) args s 0 0 (pA Z layM s.heap.size)) σ 50 [(0, .ref (ad Z 0)), (1, .int v1)] [] := by
  unfold fX8_readLine_b50 at h
  refine g_aload_n (pc := 50) C dX8_readLine_50 rfl 0 rfl ?_
  refine g_iconst (pc := 51) C (v := (5 : Int32)) dX8_readLine_51 (by decide) ?_
  obtain ⟨σ1, eσ1, h⟩ := bs h
  refine g_callVv (pc := 52) C (As := [.int (5 : Int32)]) (rest := []) (k := 0) (by rfl) (by rfl) (cwV 1 C.2.2.2.2.2.1 gX8_readLine_X8_fails rfl rfl rfl (by decide +kernel) ⟨Nat.le_of_ble_eq_true rfl, Nat.le_of_ble_eq_true rfl⟩) (mX8_fails l Z  eσ1) rfl rfl (Nat.le_of_ble_eq_true rfl) dX8_readLine_52 ?_
  exact g_sub [0, 1] rfl (kX8_readLine_b55 C    h)
set_option maxHeartbeats 1000000 in
set_option maxRecDepth 20000 in
theorem kX8_readLine_b36 {p : Program} {l : Launch} {e : Env} {s : State} {m : MethodId} {args : Array Value} {below : List Frame} {meth : Method} {c : Code} {Z : Sh} (C : Cx p s m args meth c cX8_readLine 2 wsX8_readLine RX8 none Z layM)  {u : Sg}   {σ : Sg} {v1 : Int32} (h : fX8_readLine_b36 σ v1 = some u) : G p l e rX8_readLine s m args below meth c 2 Z layM (MQ below (QV Z layM u s.heap.size) args s 0 0 (pA Z layM s.heap.size)) σ 36 [(0, .ref (ad Z 0)), (1, .int v1)] [] := by
  unfold fX8_readLine_b36 at h
  refine g_iload_n (pc := 36) C dX8_readLine_36 rfl 1 rfl ?_
  refine g_iconst (pc := 37) C (v := (3 : Int32)) dX8_readLine_37 (by decide) ?_
  refine g_icmp_gt (pc := 38) C (tgt := 55) dX8_readLine_38 (by decide) h (fun hc38 h => ?_) (fun hc38 h => ?_)
  · exact g_sub [0, 1] rfl (kX8_readLine_b55 C    h)
  · refine g_aload_n (pc := 41) C dX8_readLine_41 rfl 0 rfl ?_
    refine g_geti (pc := 42) C (Cn := RX8) (T := TX8) (N := 32) (ci := 8) (k := 0) (j := 5) uX8_readLine_X8 (by rfl) rfl (by decide) (by decide +kernel) (q := 0) rfl dX8_readLine_42 ?_
    refine g_bipush (pc := 45) C (v := (6 : Int32)) dX8_readLine_45 (by decide) ?_
    refine g_icmp_ne (pc := 47) C (tgt := 55) dX8_readLine_47 (by decide) h (fun hc47 h => ?_) (fun hc47 h => ?_)
    · exact g_sub [0, 1] rfl (kX8_readLine_b55 C    h)
    · exact g_sub [0, 1] rfl (kX8_readLine_b50 C    h)
set_option maxHeartbeats 1000000 in
set_option maxRecDepth 20000 in
theorem kX8_readLine_e {p : Program} {l : Launch} {e : Env} {s : State} {m : MethodId} {args : Array Value} {below : List Frame} {meth : Method} {c : Code} {Z : Sh} (C : Cx p s m args meth c cX8_readLine 2 wsX8_readLine RX8 none Z layM) {σ : Sg}  {u : Sg}  (h : fX8_readLine σ = some u) : G p l e rX8_readLine s m args below meth c 2 Z layM (MQ below (QV Z layM u s.heap.size) args s 0 0 (pA Z layM s.heap.size)) σ 0 [(0, .ref (ad Z 0))] [] := by
  unfold fX8_readLine at h
  refine g_aload_n (pc := 0) C dX8_readLine_0 rfl 0 rfl ?_
  obtain ⟨t1, et1, h⟩ := bs h
  refine g_callVi (pc := 1) C (As := []) (rest := []) (k := 0) (by rfl) (by rfl) (cwV 0 C.2.2.2.2.2.1 gX8_readLine_X8_nameHere rfl rfl rfl (by decide +kernel) ⟨Nat.le_of_ble_eq_true rfl, Nat.le_of_ble_eq_true rfl⟩) (mX8_nameHere l Z  et1) rfl rfl (Nat.le_of_ble_eq_true rfl) dX8_readLine_1 ?_
  refine g_istore_n (pc := 4) C (lv2 := [(1, .int t1), (0, .ref (ad Z 0))]) dX8_readLine_4 rfl (by decide) rfl ?_
  refine g_iload_n (pc := 5) C dX8_readLine_5 rfl 0 rfl ?_
  refine g_i2l (pc := 6) C dX8_readLine_6 ?_
  refine g_lconst (pc := 7) C (v := (0 : Int64)) dX8_readLine_7 (by decide) ?_
  refine g_ldc2 (pc := 8) C (v := (5 : Int64)) (by decide +kernel) dX8_readLine_8 ?_
  obtain ⟨t2, et2, h⟩ := bs h
  refine g_callSi (pc := 11) C (As := [.long t1.toInt64, .long (0 : Int64), .long (5 : Int64)]) (rest := []) (va_cwS 3 C.2.2.2.2.2.1 gX8_readLine_X8_in rfl rfl rfl (by decide +kernel) ⟨Nat.le_of_ble_eq_true rfl, Nat.le_of_ble_eq_true rfl⟩) (mX8_in l Z  et2) rfl rfl (Nat.le_of_ble_eq_true rfl) dX8_readLine_11 ?_
  refine g_if_ne (pc := 14) C (tgt := 23) dX8_readLine_14 (by decide) h (fun hc14 h => ?_) (fun hc14 h => ?_)
  · refine g_iload_n (pc := 23) C dX8_readLine_23 rfl 0 rfl ?_
    refine g_iconst (pc := 24) C (v := (4 : Int32)) dX8_readLine_24 (by decide) ?_
    refine g_icmp_ne (pc := 25) C (tgt := 36) dX8_readLine_25 (by decide) h (fun hc25 h => ?_) (fun hc25 h => ?_)
    · exact g_sub [1, 0] rfl (kX8_readLine_b36 C    h)
    · refine g_aload_n (pc := 28) C dX8_readLine_28 rfl 1 rfl ?_
      refine g_geti (pc := 29) C (Cn := RX8) (T := TX8) (N := 32) (ci := 8) (k := 0) (j := 4) uX8_readLine_X8 (by rfl) rfl (by decide) (by decide +kernel) (q := 0) rfl dX8_readLine_29 ?_
      refine g_iconst (pc := 32) C (v := (4 : Int32)) dX8_readLine_32 (by decide) ?_
      refine g_icmp_eq (pc := 33) C (tgt := 50) dX8_readLine_33 (by decide) h (fun hc33 h => ?_) (fun hc33 h => ?_)
      · exact g_sub [1, 0] rfl (kX8_readLine_b50 C    h)
      · exact g_sub [1, 0] rfl (kX8_readLine_b36 C    h)
  · refine g_aload_n (pc := 17) C dX8_readLine_17 rfl 1 rfl ?_
    refine g_iconst (pc := 18) C (v := (2 : Int32)) dX8_readLine_18 (by decide) ?_
    obtain ⟨σ3, eσ3, h⟩ := bs h
    refine g_callVv (pc := 19) C (As := [.int (2 : Int32)]) (rest := []) (k := 0) (by rfl) (by rfl) (cwV 1 C.2.2.2.2.2.1 gX8_readLine_X8_fails rfl rfl rfl (by decide +kernel) ⟨Nat.le_of_ble_eq_true rfl, Nat.le_of_ble_eq_true rfl⟩) (mX8_fails l Z  eσ3) rfl rfl (Nat.le_of_ble_eq_true rfl) dX8_readLine_19 ?_
    exact g_vret C dX8_readLine_22 (Option.some.inj h)
theorem mX8_readLine (l : Launch) (Z : Sh) {σ : Sg}  {u : Sg}  (h : fX8_readLine σ = some u) : MV l Z layM yX8_readLine wsX8_readLine rX8_readLine [.ref (ad Z 0)] σ u :=
  MV.of (cc := cX8_readLine) (maxL := 2) (ret := none) (by decide) rfl (Nat.le_of_ble_eq_true rfl) (fun p e s m below meth c C => kX8_readLine_e C  h)

def rX8_text : Room := { frames := 5, cells := 0, slots := 0, locals := 112 }
theorem uX8_text_X8 : ∀ w ∈ wsX80, w ∈ wsX8_text := by decide +kernel
def fX8_text_l135   : Nat → Sg → Int32 → Int32 → Option (Sg × Int32)
  | 0, _, _, _ => none
  | n + 1, σ, v1, v2 => if (29 : Int32) ≤ v2 then (pf σ 0 1 (σ 0 4)).bind fun σ1 => (pf σ1 0 2 (σ1 0 5)).bind fun σ2 => (pf σ2 0 24 (0 : Int32)).bind fun σ3 => (wr σ3 10 2 (0 : Int32) (vp_nar .boolean (0 : Int32))).bind fun σ4 => (wr σ4 10 2 (1 : Int32) (vp_nar .boolean (0 : Int32))).bind fun σ5 => some (σ5, v1) else (rd (σ 2) 29 v2).bind fun t6 => (wr σ 1 116 v2 t6).bind fun σ7 => fX8_text_l135 n σ7 v1 (v2 + 1)
def fX8_text_b105   (σ : Sg) (v1 : Int32) : Option (Sg × Int32) := (pf σ 0 9 (0 : Int32)).bind fun σ1 => (pf σ1 0 10 (σ1 0 11)).bind fun σ2 => if (σ2 0 11) ≤ 0 then fX8_text_l135 2000 σ2 v1 (0 : Int32) else some (σ2, ((-10 : Int32) - (σ2 0 12)))
def fX8_text_b81   (σ : Sg) (v1 : Int32) : Option (Sg × Int32) := if (σ 0 11) = 0 then if (σ 0 7) < (σ 0 4) then fX8_text_b105 σ v1 else (fX8_fails σ (6 : Int32)).bind fun σ1 => fX8_text_b105 σ1 v1 else fX8_text_b105 σ v1
def fX8_text_l57   : Nat → Sg → Int32 → Option (Sg × Int32)
  | 0, _, _ => none
  | n + 1, σ, v1 => if (σ 0 11) = 0 then if (σ 0 15) = 0 then fX8_text_b81 σ v1 else (fX8_readLine σ).bind fun σ1 => fX8_text_l57 n σ1 (v1 + 1) else fX8_text_b81 σ v1
def fX8_text_l34   : Nat → Sg → Int32 → Int32 → Option (Sg × Int32)
  | 0, _, _, _ => none
  | n + 1, σ, v1, v2 => if (29 : Int32) ≤ v2 then (fX8_step σ).bind fun σ1 => fX8_text_l57 2000 σ1 v1 else (wr σ 2 29 v2 (0 : Int32)).bind fun σ2 => fX8_text_l34 n σ2 v1 (v2 + 1)
def fX8_text (σ : Sg)  : Option (Sg × Int32) := (pf σ 0 11 (0 : Int32)).bind fun σ1 => (pf σ1 0 13 (0 : Int32)).bind fun σ2 => (pf σ2 0 4 (0 : Int32)).bind fun σ3 => (pf σ3 0 5 (0 : Int32)).bind fun σ4 => (pz σ4 0 6 (0 : Int32)).bind fun σ5 => (pf σ5 0 7 (-1 : Int32)).bind fun σ6 => fX8_text_l34 2000 σ6 (0 : Int32) (0 : Int32)
set_option maxHeartbeats 1000000 in
set_option maxRecDepth 20000 in
theorem kX8_text_l135 {p : Program} {l : Launch} {e : Env} {s : State} {m : MethodId} {args : Array Value} {below : List Frame} {meth : Method} {c : Code} {Z : Sh} (C : Cx p s m args meth c cX8_text 3 wsX8_text RX8 (some .int) Z layM)  {u : Sg × Int32}   : ∀ (n : Nat) (σ : Sg) (v1 : Int32) (v2 : Int32), fX8_text_l135 n σ v1 v2 = some u → G p l e rX8_text s m args below meth c 3 Z layM (MQ below (QI Z layM u.1 u.2 s.heap.size) args s 0 0 (pA Z layM s.heap.size)) σ 135 [(0, .ref (ad Z 0)), (1, .int v1), (2, .int v2)] [] := by
  intro n
  induction n with
  | zero => intro σ v1 v2 h; exact absurd h (by simp [fX8_text_l135])
  | succ n ih =>
    intro σ v1 v2 h
    rw [fX8_text_l135] at h
    refine g_iload_n (pc := 135) C dX8_text_135 rfl 2 rfl ?_
    refine g_bipush (pc := 136) C (v := (29 : Int32)) dX8_text_136 (by decide) ?_
    refine g_icmp_ge (pc := 138) C (tgt := 159) dX8_text_138 (by decide) h (fun hc138 h => ?_) (fun hc138 h => ?_)
    · refine g_aload_n (pc := 159) C dX8_text_159 rfl 0 rfl ?_
      refine g_aload_n (pc := 160) C dX8_text_160 rfl 0 rfl ?_
      refine g_geti (pc := 161) C (Cn := RX8) (T := TX8) (N := 32) (ci := 8) (k := 0) (j := 4) uX8_text_X8 (by rfl) rfl (by decide) (by decide +kernel) (q := 0) rfl dX8_text_161 ?_
      obtain ⟨σ1, eσ1, h⟩ := bs h
      refine g_puti (pc := 164) C (Cn := RX8) (T := TX8) (N := 32) (ci := 8) (k := 0) (j := 1) uX8_text_X8 (by rfl) rfl (by decide) (by decide +kernel) tyX8 tyX8_ok nmX8 rfl (by decide +kernel) rfl eσ1 dX8_text_164 ?_
      refine g_aload_n (pc := 167) C dX8_text_167 rfl 0 rfl ?_
      refine g_aload_n (pc := 168) C dX8_text_168 rfl 0 rfl ?_
      refine g_geti (pc := 169) C (Cn := RX8) (T := TX8) (N := 32) (ci := 8) (k := 0) (j := 5) uX8_text_X8 (by rfl) rfl (by decide) (by decide +kernel) (q := 0) rfl dX8_text_169 ?_
      obtain ⟨σ2, eσ2, h⟩ := bs h
      refine g_puti (pc := 172) C (Cn := RX8) (T := TX8) (N := 32) (ci := 8) (k := 0) (j := 2) uX8_text_X8 (by rfl) rfl (by decide) (by decide +kernel) tyX8 tyX8_ok nmX8 rfl (by decide +kernel) rfl eσ2 dX8_text_172 ?_
      refine g_aload_n (pc := 175) C dX8_text_175 rfl 0 rfl ?_
      refine g_iconst (pc := 176) C (v := (0 : Int32)) dX8_text_176 (by decide) ?_
      obtain ⟨σ3, eσ3, h⟩ := bs h
      refine g_puti (pc := 177) C (Cn := RX8) (T := TX8) (N := 32) (ci := 8) (k := 0) (j := 24) uX8_text_X8 (by rfl) rfl (by decide) (by decide +kernel) tyX8 tyX8_ok nmX8 rfl (by decide +kernel) rfl eσ3 dX8_text_177 ?_
      refine g_aload_n (pc := 180) C dX8_text_180 rfl 0 rfl ?_
      refine g_getr (pc := 181) C (Cn := RX8) (T := TX8) (N := 32) (ci := 8) (k := 0) (j := 27) uX8_text_X8 (by rfl) rfl (by decide) (by decide +kernel) (q := 10) rfl dX8_text_181 ?_
      refine g_iconst (pc := 184) C (v := (0 : Int32)) dX8_text_184 (by decide) ?_
      refine g_iconst (pc := 185) C (v := (0 : Int32)) dX8_text_185 (by decide) ?_
      obtain ⟨σ4, eσ4, h⟩ := bs h
      refine g_zast (pc := 186) C (k := 10) (n := 2) (by rfl) eσ4 dX8_text_186 ?_
      refine g_aload_n (pc := 187) C dX8_text_187 rfl 0 rfl ?_
      refine g_getr (pc := 188) C (Cn := RX8) (T := TX8) (N := 32) (ci := 8) (k := 0) (j := 27) uX8_text_X8 (by rfl) rfl (by decide) (by decide +kernel) (q := 10) rfl dX8_text_188 ?_
      refine g_iconst (pc := 191) C (v := (1 : Int32)) dX8_text_191 (by decide) ?_
      refine g_iconst (pc := 192) C (v := (0 : Int32)) dX8_text_192 (by decide) ?_
      obtain ⟨σ5, eσ5, h⟩ := bs h
      refine g_zast (pc := 193) C (k := 10) (n := 2) (by rfl) eσ5 dX8_text_193 ?_
      refine g_iload_n (pc := 194) C dX8_text_194 rfl 1 rfl ?_
      exact g_iret C dX8_text_195 (pfst h) (psnd h)
    · refine g_aload_n (pc := 141) C dX8_text_141 rfl 0 rfl ?_
      refine g_getr (pc := 142) C (Cn := RX8) (T := TX8) (N := 32) (ci := 8) (k := 0) (j := 0) uX8_text_X8 (by rfl) rfl (by decide) (by decide +kernel) (q := 1) rfl dX8_text_142 ?_
      refine g_iload_n (pc := 145) C dX8_text_145 rfl 2 rfl ?_
      refine g_aload_n (pc := 146) C dX8_text_146 rfl 0 rfl ?_
      refine g_getr (pc := 147) C (Cn := RX8) (T := TX8) (N := 32) (ci := 8) (k := 0) (j := 3) uX8_text_X8 (by rfl) rfl (by decide) (by decide +kernel) (q := 2) rfl dX8_text_147 ?_
      refine g_iload_n (pc := 150) C dX8_text_150 rfl 2 rfl ?_
      obtain ⟨t6, et6, h⟩ := bs h
      refine g_iald (pc := 151) C (k := 2) (n := 29) (by rfl) et6 dX8_text_151 ?_
      obtain ⟨σ7, eσ7, h⟩ := bs h
      refine g_iast (pc := 152) C (k := 1) (n := 116) (by rfl) eσ7 dX8_text_152 ?_
      refine g_iinc (pc := 153) C (j := 2) (v := (v2 + 1)) (lv2 := [(2, .int (v2 + 1)), (0, .ref (ad Z 0)), (1, .int v1)]) dX8_text_153 rfl rfl (by decide) rfl ?_
      refine g_goto (pc := 156) C (tgt := 135) dX8_text_156 (by decide) ?_
      exact g_sub [1, 2, 0] rfl (ih _ _ _ h)
set_option maxHeartbeats 1000000 in
set_option maxRecDepth 20000 in
theorem kX8_text_b105 {p : Program} {l : Launch} {e : Env} {s : State} {m : MethodId} {args : Array Value} {below : List Frame} {meth : Method} {c : Code} {Z : Sh} (C : Cx p s m args meth c cX8_text 3 wsX8_text RX8 (some .int) Z layM)  {u : Sg × Int32}   {σ : Sg} {v1 : Int32} (h : fX8_text_b105 σ v1 = some u) : G p l e rX8_text s m args below meth c 3 Z layM (MQ below (QI Z layM u.1 u.2 s.heap.size) args s 0 0 (pA Z layM s.heap.size)) σ 105 [(0, .ref (ad Z 0)), (1, .int v1)] [] := by
  unfold fX8_text_b105 at h
  refine g_aload_n (pc := 105) C dX8_text_105 rfl 0 rfl ?_
  refine g_iconst (pc := 106) C (v := (0 : Int32)) dX8_text_106 (by decide) ?_
  obtain ⟨σ1, eσ1, h⟩ := bs h
  refine g_puti (pc := 107) C (Cn := RX8) (T := TX8) (N := 32) (ci := 8) (k := 0) (j := 9) uX8_text_X8 (by rfl) rfl (by decide) (by decide +kernel) tyX8 tyX8_ok nmX8 rfl (by decide +kernel) rfl eσ1 dX8_text_107 ?_
  refine g_aload_n (pc := 110) C dX8_text_110 rfl 0 rfl ?_
  refine g_aload_n (pc := 111) C dX8_text_111 rfl 0 rfl ?_
  refine g_geti (pc := 112) C (Cn := RX8) (T := TX8) (N := 32) (ci := 8) (k := 0) (j := 11) uX8_text_X8 (by rfl) rfl (by decide) (by decide +kernel) (q := 0) rfl dX8_text_112 ?_
  obtain ⟨σ2, eσ2, h⟩ := bs h
  refine g_puti (pc := 115) C (Cn := RX8) (T := TX8) (N := 32) (ci := 8) (k := 0) (j := 10) uX8_text_X8 (by rfl) rfl (by decide) (by decide +kernel) tyX8 tyX8_ok nmX8 rfl (by decide +kernel) rfl eσ2 dX8_text_115 ?_
  refine g_aload_n (pc := 118) C dX8_text_118 rfl 0 rfl ?_
  refine g_geti (pc := 119) C (Cn := RX8) (T := TX8) (N := 32) (ci := 8) (k := 0) (j := 11) uX8_text_X8 (by rfl) rfl (by decide) (by decide +kernel) (q := 0) rfl dX8_text_119 ?_
  refine g_if_le (pc := 122) C (tgt := 133) dX8_text_122 (by decide) h (fun hc122 h => ?_) (fun hc122 h => ?_)
  · refine g_iconst (pc := 133) C (v := (0 : Int32)) dX8_text_133 (by decide) ?_
    refine g_istore_n (pc := 134) C (lv2 := [(2, .int (0 : Int32)), (0, .ref (ad Z 0)), (1, .int v1)]) dX8_text_134 rfl (by decide) rfl ?_
    exact g_sub [1, 2, 0] rfl (kX8_text_l135 C   _ _ _ _ h)
  · refine g_bipush (pc := 125) C (v := (-10 : Int32)) dX8_text_125 (by decide) ?_
    refine g_aload_n (pc := 127) C dX8_text_127 rfl 0 rfl ?_
    refine g_geti (pc := 128) C (Cn := RX8) (T := TX8) (N := 32) (ci := 8) (k := 0) (j := 12) uX8_text_X8 (by rfl) rfl (by decide) (by decide +kernel) (q := 0) rfl dX8_text_128 ?_
    refine g_isub (pc := 131) C dX8_text_131 ?_
    exact g_iret C dX8_text_132 (pfst h) (psnd h)
set_option maxHeartbeats 1000000 in
set_option maxRecDepth 20000 in
theorem kX8_text_b81 {p : Program} {l : Launch} {e : Env} {s : State} {m : MethodId} {args : Array Value} {below : List Frame} {meth : Method} {c : Code} {Z : Sh} (C : Cx p s m args meth c cX8_text 3 wsX8_text RX8 (some .int) Z layM)  {u : Sg × Int32}   {σ : Sg} {v1 : Int32} (h : fX8_text_b81 σ v1 = some u) : G p l e rX8_text s m args below meth c 3 Z layM (MQ below (QI Z layM u.1 u.2 s.heap.size) args s 0 0 (pA Z layM s.heap.size)) σ 81 [(0, .ref (ad Z 0)), (1, .int v1)] [] := by
  unfold fX8_text_b81 at h
  refine g_aload_n (pc := 81) C dX8_text_81 rfl 0 rfl ?_
  refine g_geti (pc := 82) C (Cn := RX8) (T := TX8) (N := 32) (ci := 8) (k := 0) (j := 11) uX8_text_X8 (by rfl) rfl (by decide) (by decide +kernel) (q := 0) rfl dX8_text_82 ?_
  refine g_if_ne (pc := 85) C (tgt := 105) dX8_text_85 (by decide) h (fun hc85 h => ?_) (fun hc85 h => ?_)
  · exact g_sub [0, 1] rfl (kX8_text_b105 C    h)
  · refine g_aload_n (pc := 88) C dX8_text_88 rfl 0 rfl ?_
    refine g_geti (pc := 89) C (Cn := RX8) (T := TX8) (N := 32) (ci := 8) (k := 0) (j := 7) uX8_text_X8 (by rfl) rfl (by decide) (by decide +kernel) (q := 0) rfl dX8_text_89 ?_
    refine g_aload_n (pc := 92) C dX8_text_92 rfl 0 rfl ?_
    refine g_geti (pc := 93) C (Cn := RX8) (T := TX8) (N := 32) (ci := 8) (k := 0) (j := 4) uX8_text_X8 (by rfl) rfl (by decide) (by decide +kernel) (q := 0) rfl dX8_text_93 ?_
    refine g_icmp_lt (pc := 96) C (tgt := 105) dX8_text_96 (by decide) h (fun hc96 h => ?_) (fun hc96 h => ?_)
    · exact g_sub [0, 1] rfl (kX8_text_b105 C    h)
    · refine g_aload_n (pc := 99) C dX8_text_99 rfl 0 rfl ?_
      refine g_bipush (pc := 100) C (v := (6 : Int32)) dX8_text_100 (by decide) ?_
      obtain ⟨σ1, eσ1, h⟩ := bs h
      refine g_callVv (pc := 102) C (As := [.int (6 : Int32)]) (rest := []) (k := 0) (by rfl) (by rfl) (cwV 1 C.2.2.2.2.2.1 gX8_text_X8_fails rfl rfl rfl (by decide +kernel) ⟨Nat.le_of_ble_eq_true rfl, Nat.le_of_ble_eq_true rfl⟩) (mX8_fails l Z  eσ1) rfl rfl (Nat.le_of_ble_eq_true rfl) dX8_text_102 ?_
      exact g_sub [0, 1] rfl (kX8_text_b105 C    h)
set_option maxHeartbeats 1000000 in
set_option maxRecDepth 20000 in
theorem kX8_text_l57 {p : Program} {l : Launch} {e : Env} {s : State} {m : MethodId} {args : Array Value} {below : List Frame} {meth : Method} {c : Code} {Z : Sh} (C : Cx p s m args meth c cX8_text 3 wsX8_text RX8 (some .int) Z layM)  {u : Sg × Int32}   : ∀ (n : Nat) (σ : Sg) (v1 : Int32), fX8_text_l57 n σ v1 = some u → G p l e rX8_text s m args below meth c 3 Z layM (MQ below (QI Z layM u.1 u.2 s.heap.size) args s 0 0 (pA Z layM s.heap.size)) σ 57 [(0, .ref (ad Z 0)), (1, .int v1)] [] := by
  intro n
  induction n with
  | zero => intro σ v1 h; exact absurd h (by simp [fX8_text_l57])
  | succ n ih =>
    intro σ v1 h
    rw [fX8_text_l57] at h
    refine g_aload_n (pc := 57) C dX8_text_57 rfl 0 rfl ?_
    refine g_geti (pc := 58) C (Cn := RX8) (T := TX8) (N := 32) (ci := 8) (k := 0) (j := 11) uX8_text_X8 (by rfl) rfl (by decide) (by decide +kernel) (q := 0) rfl dX8_text_58 ?_
    refine g_if_ne (pc := 61) C (tgt := 81) dX8_text_61 (by decide) h (fun hc61 h => ?_) (fun hc61 h => ?_)
    · exact g_sub [0, 1] rfl (kX8_text_b81 C    h)
    · refine g_aload_n (pc := 64) C dX8_text_64 rfl 0 rfl ?_
      refine g_geti (pc := 65) C (Cn := RX8) (T := TX8) (N := 32) (ci := 8) (k := 0) (j := 15) uX8_text_X8 (by rfl) rfl (by decide) (by decide +kernel) (q := 0) rfl dX8_text_65 ?_
      refine g_if_eq (pc := 68) C (tgt := 81) dX8_text_68 (by decide) h (fun hc68 h => ?_) (fun hc68 h => ?_)
      · exact g_sub [0, 1] rfl (kX8_text_b81 C    h)
      · refine g_aload_n (pc := 71) C dX8_text_71 rfl 0 rfl ?_
        obtain ⟨σ1, eσ1, h⟩ := bs h
        refine g_callVv (pc := 72) C (As := []) (rest := []) (k := 0) (by rfl) (by rfl) (cwV 0 C.2.2.2.2.2.1 gX8_text_X8_readLine rfl rfl rfl (by decide +kernel) ⟨Nat.le_of_ble_eq_true rfl, Nat.le_of_ble_eq_true rfl⟩) (mX8_readLine l Z  eσ1) rfl rfl (Nat.le_of_ble_eq_true rfl) dX8_text_72 ?_
        refine g_iinc (pc := 75) C (j := 1) (v := (v1 + 1)) (lv2 := [(1, .int (v1 + 1)), (0, .ref (ad Z 0))]) dX8_text_75 rfl rfl (by decide) rfl ?_
        refine g_goto (pc := 78) C (tgt := 57) dX8_text_78 (by decide) ?_
        exact g_sub [1, 0] rfl (ih _ _ h)
set_option maxHeartbeats 1000000 in
set_option maxRecDepth 20000 in
theorem kX8_text_l34 {p : Program} {l : Launch} {e : Env} {s : State} {m : MethodId} {args : Array Value} {below : List Frame} {meth : Method} {c : Code} {Z : Sh} (C : Cx p s m args meth c cX8_text 3 wsX8_text RX8 (some .int) Z layM)  {u : Sg × Int32}   : ∀ (n : Nat) (σ : Sg) (v1 : Int32) (v2 : Int32), fX8_text_l34 n σ v1 v2 = some u → G p l e rX8_text s m args below meth c 3 Z layM (MQ below (QI Z layM u.1 u.2 s.heap.size) args s 0 0 (pA Z layM s.heap.size)) σ 34 [(0, .ref (ad Z 0)), (1, .int v1), (2, .int v2)] [] := by
  intro n
  induction n with
  | zero => intro σ v1 v2 h; exact absurd h (by simp [fX8_text_l34])
  | succ n ih =>
    intro σ v1 v2 h
    rw [fX8_text_l34] at h
    refine g_iload_n (pc := 34) C dX8_text_34 rfl 2 rfl ?_
    refine g_bipush (pc := 35) C (v := (29 : Int32)) dX8_text_35 (by decide) ?_
    refine g_icmp_ge (pc := 37) C (tgt := 53) dX8_text_37 (by decide) h (fun hc37 h => ?_) (fun hc37 h => ?_)
    · refine g_aload_n (pc := 53) C dX8_text_53 rfl 0 rfl ?_
      obtain ⟨σ1, eσ1, h⟩ := bs h
      refine g_callVv (pc := 54) C (As := []) (rest := []) (k := 0) (by rfl) (by rfl) (cwV 0 C.2.2.2.2.2.1 gX8_text_X8_step rfl rfl rfl (by decide +kernel) ⟨Nat.le_of_ble_eq_true rfl, Nat.le_of_ble_eq_true rfl⟩) (mX8_step l Z  eσ1) rfl rfl (Nat.le_of_ble_eq_true rfl) dX8_text_54 ?_
      exact g_sub [0, 1] rfl (kX8_text_l57 C   _ _ _ h)
    · refine g_aload_n (pc := 40) C dX8_text_40 rfl 0 rfl ?_
      refine g_getr (pc := 41) C (Cn := RX8) (T := TX8) (N := 32) (ci := 8) (k := 0) (j := 3) uX8_text_X8 (by rfl) rfl (by decide) (by decide +kernel) (q := 2) rfl dX8_text_41 ?_
      refine g_iload_n (pc := 44) C dX8_text_44 rfl 2 rfl ?_
      refine g_iconst (pc := 45) C (v := (0 : Int32)) dX8_text_45 (by decide) ?_
      obtain ⟨σ2, eσ2, h⟩ := bs h
      refine g_iast (pc := 46) C (k := 2) (n := 29) (by rfl) eσ2 dX8_text_46 ?_
      refine g_iinc (pc := 47) C (j := 2) (v := (v2 + 1)) (lv2 := [(2, .int (v2 + 1)), (0, .ref (ad Z 0)), (1, .int v1)]) dX8_text_47 rfl rfl (by decide) rfl ?_
      refine g_goto (pc := 50) C (tgt := 34) dX8_text_50 (by decide) ?_
      exact g_sub [1, 2, 0] rfl (ih _ _ _ h)
set_option maxHeartbeats 1000000 in
set_option maxRecDepth 20000 in
theorem kX8_text_e {p : Program} {l : Launch} {e : Env} {s : State} {m : MethodId} {args : Array Value} {below : List Frame} {meth : Method} {c : Code} {Z : Sh} (C : Cx p s m args meth c cX8_text 3 wsX8_text RX8 (some .int) Z layM) {σ : Sg}  {u : Sg × Int32}  (h : fX8_text σ = some u) : G p l e rX8_text s m args below meth c 3 Z layM (MQ below (QI Z layM u.1 u.2 s.heap.size) args s 0 0 (pA Z layM s.heap.size)) σ 0 [(0, .ref (ad Z 0))] [] := by
  unfold fX8_text at h
  refine g_aload_n (pc := 0) C dX8_text_0 rfl 0 rfl ?_
  refine g_iconst (pc := 1) C (v := (0 : Int32)) dX8_text_1 (by decide) ?_
  obtain ⟨σ1, eσ1, h⟩ := bs h
  refine g_puti (pc := 2) C (Cn := RX8) (T := TX8) (N := 32) (ci := 8) (k := 0) (j := 11) uX8_text_X8 (by rfl) rfl (by decide) (by decide +kernel) tyX8 tyX8_ok nmX8 rfl (by decide +kernel) rfl eσ1 dX8_text_2 ?_
  refine g_aload_n (pc := 5) C dX8_text_5 rfl 0 rfl ?_
  refine g_iconst (pc := 6) C (v := (0 : Int32)) dX8_text_6 (by decide) ?_
  obtain ⟨σ2, eσ2, h⟩ := bs h
  refine g_puti (pc := 7) C (Cn := RX8) (T := TX8) (N := 32) (ci := 8) (k := 0) (j := 13) uX8_text_X8 (by rfl) rfl (by decide) (by decide +kernel) tyX8 tyX8_ok nmX8 rfl (by decide +kernel) rfl eσ2 dX8_text_7 ?_
  refine g_aload_n (pc := 10) C dX8_text_10 rfl 0 rfl ?_
  refine g_iconst (pc := 11) C (v := (0 : Int32)) dX8_text_11 (by decide) ?_
  obtain ⟨σ3, eσ3, h⟩ := bs h
  refine g_puti (pc := 12) C (Cn := RX8) (T := TX8) (N := 32) (ci := 8) (k := 0) (j := 4) uX8_text_X8 (by rfl) rfl (by decide) (by decide +kernel) tyX8 tyX8_ok nmX8 rfl (by decide +kernel) rfl eσ3 dX8_text_12 ?_
  refine g_aload_n (pc := 15) C dX8_text_15 rfl 0 rfl ?_
  refine g_iconst (pc := 16) C (v := (0 : Int32)) dX8_text_16 (by decide) ?_
  obtain ⟨σ4, eσ4, h⟩ := bs h
  refine g_puti (pc := 17) C (Cn := RX8) (T := TX8) (N := 32) (ci := 8) (k := 0) (j := 5) uX8_text_X8 (by rfl) rfl (by decide) (by decide +kernel) tyX8 tyX8_ok nmX8 rfl (by decide +kernel) rfl eσ4 dX8_text_17 ?_
  refine g_aload_n (pc := 20) C dX8_text_20 rfl 0 rfl ?_
  refine g_iconst (pc := 21) C (v := (0 : Int32)) dX8_text_21 (by decide) ?_
  obtain ⟨σ5, eσ5, h⟩ := bs h
  refine g_putz (pc := 22) C (Cn := RX8) (T := TX8) (N := 32) (ci := 8) (k := 0) (j := 6) uX8_text_X8 (by rfl) rfl (by decide) (by decide +kernel) tyX8 tyX8_ok nmX8 rfl (by decide +kernel) rfl eσ5 dX8_text_22 ?_
  refine g_aload_n (pc := 25) C dX8_text_25 rfl 0 rfl ?_
  refine g_iconst (pc := 26) C (v := (-1 : Int32)) dX8_text_26 (by decide) ?_
  obtain ⟨σ6, eσ6, h⟩ := bs h
  refine g_puti (pc := 27) C (Cn := RX8) (T := TX8) (N := 32) (ci := 8) (k := 0) (j := 7) uX8_text_X8 (by rfl) rfl (by decide) (by decide +kernel) tyX8 tyX8_ok nmX8 rfl (by decide +kernel) rfl eσ6 dX8_text_27 ?_
  refine g_iconst (pc := 30) C (v := (0 : Int32)) dX8_text_30 (by decide) ?_
  refine g_istore_n (pc := 31) C (lv2 := [(1, .int (0 : Int32)), (0, .ref (ad Z 0))]) dX8_text_31 rfl (by decide) rfl ?_
  refine g_iconst (pc := 32) C (v := (0 : Int32)) dX8_text_32 (by decide) ?_
  refine g_istore_n (pc := 33) C (lv2 := [(2, .int (0 : Int32)), (1, .int (0 : Int32)), (0, .ref (ad Z 0))]) dX8_text_33 rfl (by decide) rfl ?_
  exact g_sub [2, 1, 0] rfl (kX8_text_l34 C   _ _ _ _ h)
theorem mX8_text (l : Launch) (Z : Sh) {σ : Sg}  {u : Sg × Int32}  (h : fX8_text σ = some u) : MI l Z layM yX8_text wsX8_text rX8_text [.ref (ad Z 0)] σ u.1 u.2 :=
  MI.of (cc := cX8_text) (maxL := 3) (ret := (some .int)) (by decide) rfl (Nat.le_of_ble_eq_true rfl) (fun p e s m below meth c C => kX8_text_e C  h)

def rX8_fault : Room := { frames := 0, cells := 0, slots := 0, locals := 0 }
theorem uX8_fault_X8 : ∀ w ∈ wsX80, w ∈ wsX8_fault := by decide +kernel
def fX8_fault (σ : Sg)  : Option (Int32) := some (σ 0 10)
set_option maxHeartbeats 1000000 in
set_option maxRecDepth 20000 in
theorem kX8_fault_e {p : Program} {l : Launch} {e : Env} {s : State} {m : MethodId} {args : Array Value} {below : List Frame} {meth : Method} {c : Code} {Z : Sh} (C : Cx p s m args meth c cX8_fault 1 wsX8_fault RX8 (some .int) Z layM) {σ : Sg}  {u : Int32}  (h : fX8_fault σ = some u) : G p l e rX8_fault s m args below meth c 1 Z layM (MQ below (QI Z layM σ u s.heap.size) args s 0 0 (pA Z layM s.heap.size)) σ 0 [(0, .ref (ad Z 0))] [] := by
  unfold fX8_fault at h
  refine g_aload_n (pc := 0) C dX8_fault_0 rfl 0 rfl ?_
  refine g_geti (pc := 1) C (Cn := RX8) (T := TX8) (N := 32) (ci := 8) (k := 0) (j := 10) uX8_fault_X8 (by rfl) rfl (by decide) (by decide +kernel) (q := 0) rfl dX8_fault_1 ?_
  exact g_iret C dX8_fault_4 rfl (Option.some.inj h)
theorem mX8_fault (l : Launch) (Z : Sh) {σ : Sg}  {u : Int32}  (h : fX8_fault σ = some u) : MI l Z layM yX8_fault wsX8_fault rX8_fault [.ref (ad Z 0)] σ σ u :=
  MI.of (cc := cX8_fault) (maxL := 1) (ret := (some .int)) (by decide) rfl (Nat.le_of_ble_eq_true rfl) (fun p e s m below meth c C => kX8_fault_e C  h)

def rX8_isLord : Room := { frames := 1, cells := 0, slots := 0, locals := 25 }
theorem uX8_isLord_X8 : ∀ w ∈ wsX80, w ∈ wsX8_isLord := by decide +kernel
def fX8_isLord (σ : Sg) (v1 : Int32) : Option (Int32) := (fX8_in v1.toInt64 (0 : Int64) (((σ 0 1) - (1 : Int32)).toInt64)).bind fun t1 => rz t1
set_option maxHeartbeats 1000000 in
set_option maxRecDepth 20000 in
theorem kX8_isLord_e {p : Program} {l : Launch} {e : Env} {s : State} {m : MethodId} {args : Array Value} {below : List Frame} {meth : Method} {c : Code} {Z : Sh} (C : Cx p s m args meth c cX8_isLord 2 wsX8_isLord RX8 (some .boolean) Z layM) {σ : Sg} {v1 : Int32} {u : Int32}  (h : fX8_isLord σ v1 = some u) : G p l e rX8_isLord s m args below meth c 2 Z layM (MQ below (QI Z layM σ u s.heap.size) args s 0 0 (pA Z layM s.heap.size)) σ 0 [(0, .ref (ad Z 0)), (1, .int v1)] [] := by
  unfold fX8_isLord at h
  refine g_iload_n (pc := 0) C dX8_isLord_0 rfl 1 rfl ?_
  refine g_i2l (pc := 1) C dX8_isLord_1 ?_
  refine g_lconst (pc := 2) C (v := (0 : Int64)) dX8_isLord_2 (by decide) ?_
  refine g_aload_n (pc := 3) C dX8_isLord_3 rfl 0 rfl ?_
  refine g_geti (pc := 4) C (Cn := RX8) (T := TX8) (N := 32) (ci := 8) (k := 0) (j := 1) uX8_isLord_X8 (by rfl) rfl (by decide) (by decide +kernel) (q := 0) rfl dX8_isLord_4 ?_
  refine g_iconst (pc := 7) C (v := (1 : Int32)) dX8_isLord_7 (by decide) ?_
  refine g_isub (pc := 8) C dX8_isLord_8 ?_
  refine g_i2l (pc := 9) C dX8_isLord_9 ?_
  obtain ⟨t1, et1, h⟩ := bs h
  refine g_callSi (pc := 10) C (As := [.long v1.toInt64, .long (0 : Int64), .long (((σ 0 1) - (1 : Int32)).toInt64)]) (rest := []) (va_cwS 3 C.2.2.2.2.2.1 gX8_isLord_X8_in rfl rfl rfl (by decide +kernel) ⟨Nat.le_of_ble_eq_true rfl, Nat.le_of_ble_eq_true rfl⟩) (mX8_in l Z  et1) rfl rfl (Nat.le_of_ble_eq_true rfl) dX8_isLord_10 ?_
  exact g_zret C dX8_isLord_13 rfl h
theorem mX8_isLord (l : Launch) (Z : Sh) {σ : Sg} {v1 : Int32} {u : Int32}  (h : fX8_isLord σ v1 = some u) : MI l Z layM yX8_isLord wsX8_isLord rX8_isLord [.ref (ad Z 0), .int v1] σ σ u :=
  MI.of (cc := cX8_isLord) (maxL := 2) (ret := (some .boolean)) (by decide) rfl (Nat.le_of_ble_eq_true rfl) (fun p e s m below meth c C => kX8_isLord_e C  h)

def rX8_isBorough : Room := { frames := 1, cells := 0, slots := 0, locals := 25 }
theorem uX8_isBorough_X8 : ∀ w ∈ wsX80, w ∈ wsX8_isBorough := by decide +kernel
def fX8_isBorough (σ : Sg) (v1 : Int32) : Option (Int32) := (fX8_in v1.toInt64 (0 : Int64) (((σ 0 2) - (1 : Int32)).toInt64)).bind fun t1 => rz t1
set_option maxHeartbeats 1000000 in
set_option maxRecDepth 20000 in
theorem kX8_isBorough_e {p : Program} {l : Launch} {e : Env} {s : State} {m : MethodId} {args : Array Value} {below : List Frame} {meth : Method} {c : Code} {Z : Sh} (C : Cx p s m args meth c cX8_isBorough 2 wsX8_isBorough RX8 (some .boolean) Z layM) {σ : Sg} {v1 : Int32} {u : Int32}  (h : fX8_isBorough σ v1 = some u) : G p l e rX8_isBorough s m args below meth c 2 Z layM (MQ below (QI Z layM σ u s.heap.size) args s 0 0 (pA Z layM s.heap.size)) σ 0 [(0, .ref (ad Z 0)), (1, .int v1)] [] := by
  unfold fX8_isBorough at h
  refine g_iload_n (pc := 0) C dX8_isBorough_0 rfl 1 rfl ?_
  refine g_i2l (pc := 1) C dX8_isBorough_1 ?_
  refine g_lconst (pc := 2) C (v := (0 : Int64)) dX8_isBorough_2 (by decide) ?_
  refine g_aload_n (pc := 3) C dX8_isBorough_3 rfl 0 rfl ?_
  refine g_geti (pc := 4) C (Cn := RX8) (T := TX8) (N := 32) (ci := 8) (k := 0) (j := 2) uX8_isBorough_X8 (by rfl) rfl (by decide) (by decide +kernel) (q := 0) rfl dX8_isBorough_4 ?_
  refine g_iconst (pc := 7) C (v := (1 : Int32)) dX8_isBorough_7 (by decide) ?_
  refine g_isub (pc := 8) C dX8_isBorough_8 ?_
  refine g_i2l (pc := 9) C dX8_isBorough_9 ?_
  obtain ⟨t1, et1, h⟩ := bs h
  refine g_callSi (pc := 10) C (As := [.long v1.toInt64, .long (0 : Int64), .long (((σ 0 2) - (1 : Int32)).toInt64)]) (rest := []) (va_cwS 3 C.2.2.2.2.2.1 gX8_isBorough_X8_in rfl rfl rfl (by decide +kernel) ⟨Nat.le_of_ble_eq_true rfl, Nat.le_of_ble_eq_true rfl⟩) (mX8_in l Z  et1) rfl rfl (Nat.le_of_ble_eq_true rfl) dX8_isBorough_10 ?_
  exact g_zret C dX8_isBorough_13 rfl h
theorem mX8_isBorough (l : Launch) (Z : Sh) {σ : Sg} {v1 : Int32} {u : Int32}  (h : fX8_isBorough σ v1 = some u) : MI l Z layM yX8_isBorough wsX8_isBorough rX8_isBorough [.ref (ad Z 0), .int v1] σ σ u :=
  MI.of (cc := cX8_isBorough) (maxL := 2) (ret := (some .boolean)) (by decide) rfl (Nat.le_of_ble_eq_true rfl) (fun p e s m below meth c C => kX8_isBorough_e C  h)

def rX8_ownerOf : Room := { frames := 0, cells := 0, slots := 0, locals := 0 }
theorem uX8_ownerOf_X8 : ∀ w ∈ wsX80, w ∈ wsX8_ownerOf := by decide +kernel
def fX8_ownerOf (σ : Sg) (v1 : Int32) : Option (Int32) := (rd (σ 1) 116 ((22 : Int32) + v1)).bind fun t1 => some (t1 - (1 : Int32))
set_option maxHeartbeats 1000000 in
set_option maxRecDepth 20000 in
theorem kX8_ownerOf_e {p : Program} {l : Launch} {e : Env} {s : State} {m : MethodId} {args : Array Value} {below : List Frame} {meth : Method} {c : Code} {Z : Sh} (C : Cx p s m args meth c cX8_ownerOf 2 wsX8_ownerOf RX8 (some .int) Z layM) {σ : Sg} {v1 : Int32} {u : Int32}  (h : fX8_ownerOf σ v1 = some u) : G p l e rX8_ownerOf s m args below meth c 2 Z layM (MQ below (QI Z layM σ u s.heap.size) args s 0 0 (pA Z layM s.heap.size)) σ 0 [(0, .ref (ad Z 0)), (1, .int v1)] [] := by
  unfold fX8_ownerOf at h
  refine g_aload_n (pc := 0) C dX8_ownerOf_0 rfl 0 rfl ?_
  refine g_getr (pc := 1) C (Cn := RX8) (T := TX8) (N := 32) (ci := 8) (k := 0) (j := 0) uX8_ownerOf_X8 (by rfl) rfl (by decide) (by decide +kernel) (q := 1) rfl dX8_ownerOf_1 ?_
  refine g_bipush (pc := 4) C (v := (22 : Int32)) dX8_ownerOf_4 (by decide) ?_
  refine g_iload_n (pc := 6) C dX8_ownerOf_6 rfl 1 rfl ?_
  refine g_iadd (pc := 7) C dX8_ownerOf_7 ?_
  obtain ⟨t1, et1, h⟩ := bs h
  refine g_iald (pc := 8) C (k := 1) (n := 116) (by rfl) et1 dX8_ownerOf_8 ?_
  refine g_iconst (pc := 9) C (v := (1 : Int32)) dX8_ownerOf_9 (by decide) ?_
  refine g_isub (pc := 10) C dX8_ownerOf_10 ?_
  exact g_iret C dX8_ownerOf_11 rfl (Option.some.inj h)
theorem mX8_ownerOf (l : Launch) (Z : Sh) {σ : Sg} {v1 : Int32} {u : Int32}  (h : fX8_ownerOf σ v1 = some u) : MI l Z layM yX8_ownerOf wsX8_ownerOf rX8_ownerOf [.ref (ad Z 0), .int v1] σ σ u :=
  MI.of (cc := cX8_ownerOf) (maxL := 2) (ret := (some .int)) (by decide) rfl (Nat.le_of_ble_eq_true rfl) (fun p e s m below meth c C => kX8_ownerOf_e C  h)

def rX8_votesOf : Room := { frames := 0, cells := 0, slots := 0, locals := 0 }
theorem uX8_votesOf_X8 : ∀ w ∈ wsX80, w ∈ wsX8_votesOf := by decide +kernel
def fX8_votesOf (σ : Sg) (v1 : Int32) : Option (Int32) := (rd (σ 1) 116 ((10 : Int32) + v1)).bind fun t1 => (dv (t1 + (1 : Int32)) (2 : Int32)).bind fun t2 => (rd (σ 1) 116 ((4 : Int32) + v1)).bind fun t3 => if t3 = (0 : Int32) then some t1 else if t3 = (1 : Int32) then some t2 else if t3 = (2 : Int32) then some (t2 + (1 : Int32)) else some (t1 + t2)
set_option maxHeartbeats 1000000 in
set_option maxRecDepth 20000 in
theorem kX8_votesOf_e {p : Program} {l : Launch} {e : Env} {s : State} {m : MethodId} {args : Array Value} {below : List Frame} {meth : Method} {c : Code} {Z : Sh} (C : Cx p s m args meth c cX8_votesOf 4 wsX8_votesOf RX8 (some .int) Z layM) {σ : Sg} {v1 : Int32} {u : Int32}  (h : fX8_votesOf σ v1 = some u) : G p l e rX8_votesOf s m args below meth c 4 Z layM (MQ below (QI Z layM σ u s.heap.size) args s 0 0 (pA Z layM s.heap.size)) σ 0 [(0, .ref (ad Z 0)), (1, .int v1)] [] := by
  unfold fX8_votesOf at h
  refine g_aload_n (pc := 0) C dX8_votesOf_0 rfl 0 rfl ?_
  refine g_getr (pc := 1) C (Cn := RX8) (T := TX8) (N := 32) (ci := 8) (k := 0) (j := 0) uX8_votesOf_X8 (by rfl) rfl (by decide) (by decide +kernel) (q := 1) rfl dX8_votesOf_1 ?_
  refine g_bipush (pc := 4) C (v := (10 : Int32)) dX8_votesOf_4 (by decide) ?_
  refine g_iload_n (pc := 6) C dX8_votesOf_6 rfl 1 rfl ?_
  refine g_iadd (pc := 7) C dX8_votesOf_7 ?_
  obtain ⟨t1, et1, h⟩ := bs h
  refine g_iald (pc := 8) C (k := 1) (n := 116) (by rfl) et1 dX8_votesOf_8 ?_
  refine g_istore_n (pc := 9) C (lv2 := [(2, .int t1), (0, .ref (ad Z 0)), (1, .int v1)]) dX8_votesOf_9 rfl (by decide) rfl ?_
  refine g_iload_n (pc := 10) C dX8_votesOf_10 rfl 0 rfl ?_
  refine g_iconst (pc := 11) C (v := (1 : Int32)) dX8_votesOf_11 (by decide) ?_
  refine g_iadd (pc := 12) C dX8_votesOf_12 ?_
  refine g_iconst (pc := 13) C (v := (2 : Int32)) dX8_votesOf_13 (by decide) ?_
  obtain ⟨t2, et2, h⟩ := bs h
  refine g_idiv (pc := 14) C dX8_votesOf_14 et2 ?_
  refine g_istore_n (pc := 15) C (lv2 := [(3, .int t2), (2, .int t1), (0, .ref (ad Z 0)), (1, .int v1)]) dX8_votesOf_15 rfl (by decide) rfl ?_
  refine g_aload_n (pc := 16) C dX8_votesOf_16 rfl 2 rfl ?_
  refine g_getr (pc := 17) C (Cn := RX8) (T := TX8) (N := 32) (ci := 8) (k := 0) (j := 0) uX8_votesOf_X8 (by rfl) rfl (by decide) (by decide +kernel) (q := 1) rfl dX8_votesOf_17 ?_
  refine g_iconst (pc := 20) C (v := (4 : Int32)) dX8_votesOf_20 (by decide) ?_
  refine g_iload_n (pc := 21) C dX8_votesOf_21 rfl 3 rfl ?_
  refine g_iadd (pc := 22) C dX8_votesOf_22 ?_
  obtain ⟨t3, et3, h⟩ := bs h
  refine g_iald (pc := 23) C (k := 1) (n := 116) (by rfl) et3 dX8_votesOf_23 ?_
  refine g_sw (pc := 24) C (off := 28) (tgt := 52) (0 : Int32) dX8_votesOf_24 (by decide) (by decide) (by decide) (by decide) h (fun hc24 h => ?_) (fun hn24_0 h => ?_)
  · refine g_iload_n (pc := 52) C dX8_votesOf_52 rfl 1 rfl ?_
    exact g_iret C dX8_votesOf_53 rfl (Option.some.inj h)
  refine g_sw (pc := 24) C (off := 30) (tgt := 54) (1 : Int32) dX8_votesOf_24 (by decide) (by decide) (by decide) (by decide) h (fun hc24 h => ?_) (fun hn24_1 h => ?_)
  · refine g_iload_n (pc := 54) C dX8_votesOf_54 rfl 0 rfl ?_
    exact g_iret C dX8_votesOf_55 rfl (Option.some.inj h)
  refine g_sw (pc := 24) C (off := 32) (tgt := 56) (2 : Int32) dX8_votesOf_24 (by decide) (by decide) (by decide) (by decide) h (fun hc24 h => ?_) (fun hn24_2 h => ?_)
  · refine g_iload_n (pc := 56) C dX8_votesOf_56 rfl 0 rfl ?_
    refine g_iconst (pc := 57) C (v := (1 : Int32)) dX8_votesOf_57 (by decide) ?_
    refine g_iadd (pc := 58) C dX8_votesOf_58 ?_
    exact g_iret C dX8_votesOf_59 rfl (Option.some.inj h)
  refine g_swd (pc := 24) C (tgt := 60) dX8_votesOf_24 (by have z0 := ne_ti hn24_0; have z1 := ne_ti hn24_1; have z2 := ne_ti hn24_2; simp at z0 z1 z2; omega) (by decide) ?_
  refine g_iload_n (pc := 60) C dX8_votesOf_60 rfl 1 rfl ?_
  refine g_iload_n (pc := 61) C dX8_votesOf_61 rfl 0 rfl ?_
  refine g_iadd (pc := 62) C dX8_votesOf_62 ?_
  exact g_iret C dX8_votesOf_63 rfl (Option.some.inj h)
theorem mX8_votesOf (l : Launch) (Z : Sh) {σ : Sg} {v1 : Int32} {u : Int32}  (h : fX8_votesOf σ v1 = some u) : MI l Z layM yX8_votesOf wsX8_votesOf rX8_votesOf [.ref (ad Z 0), .int v1] σ σ u :=
  MI.of (cc := cX8_votesOf) (maxL := 4) (ret := (some .int)) (by decide) rfl (Nat.le_of_ble_eq_true rfl) (fun p e s m below meth c C => kX8_votesOf_e C  h)

def rX8_costOf : Room := { frames := 1, cells := 0, slots := 0, locals := 23 }
theorem uX8_costOf_X8 : ∀ w ∈ wsX80, w ∈ wsX8_costOf := by decide +kernel
def fX8_costOf (σ : Sg) (v1 : Int32) : Option (Int32) := (rd (σ 1) 116 (28 : Int32)).bind fun t1 => (fX8_votesOf σ v1).bind fun t2 => some ((t1 + (3 : Int32)) * t2)
set_option maxHeartbeats 1000000 in
set_option maxRecDepth 20000 in
theorem kX8_costOf_e {p : Program} {l : Launch} {e : Env} {s : State} {m : MethodId} {args : Array Value} {below : List Frame} {meth : Method} {c : Code} {Z : Sh} (C : Cx p s m args meth c cX8_costOf 2 wsX8_costOf RX8 (some .int) Z layM) {σ : Sg} {v1 : Int32} {u : Int32}  (h : fX8_costOf σ v1 = some u) : G p l e rX8_costOf s m args below meth c 2 Z layM (MQ below (QI Z layM σ u s.heap.size) args s 0 0 (pA Z layM s.heap.size)) σ 0 [(0, .ref (ad Z 0)), (1, .int v1)] [] := by
  unfold fX8_costOf at h
  refine g_aload_n (pc := 0) C dX8_costOf_0 rfl 0 rfl ?_
  refine g_getr (pc := 1) C (Cn := RX8) (T := TX8) (N := 32) (ci := 8) (k := 0) (j := 0) uX8_costOf_X8 (by rfl) rfl (by decide) (by decide +kernel) (q := 1) rfl dX8_costOf_1 ?_
  refine g_bipush (pc := 4) C (v := (28 : Int32)) dX8_costOf_4 (by decide) ?_
  obtain ⟨t1, et1, h⟩ := bs h
  refine g_iald (pc := 6) C (k := 1) (n := 116) (by rfl) et1 dX8_costOf_6 ?_
  refine g_iconst (pc := 7) C (v := (3 : Int32)) dX8_costOf_7 (by decide) ?_
  refine g_iadd (pc := 8) C dX8_costOf_8 ?_
  refine g_aload_n (pc := 9) C dX8_costOf_9 rfl 0 rfl ?_
  refine g_iload_n (pc := 10) C dX8_costOf_10 rfl 1 rfl ?_
  obtain ⟨t2, et2, h⟩ := bs h
  refine g_callVi (pc := 11) C (As := [.int v1]) (rest := [.int (t1 + (3 : Int32))]) (k := 0) (by rfl) (by rfl) (cwV 1 C.2.2.2.2.2.1 gX8_costOf_X8_votesOf rfl rfl rfl (by decide +kernel) ⟨Nat.le_of_ble_eq_true rfl, Nat.le_of_ble_eq_true rfl⟩) (mX8_votesOf l Z  et2) rfl rfl (Nat.le_of_ble_eq_true rfl) dX8_costOf_11 ?_
  refine g_imul (pc := 14) C dX8_costOf_14 ?_
  exact g_iret C dX8_costOf_15 rfl (Option.some.inj h)
theorem mX8_costOf (l : Launch) (Z : Sh) {σ : Sg} {v1 : Int32} {u : Int32}  (h : fX8_costOf σ v1 = some u) : MI l Z layM yX8_costOf wsX8_costOf rX8_costOf [.ref (ad Z 0), .int v1] σ σ u :=
  MI.of (cc := cX8_costOf) (maxL := 2) (ret := (some .int)) (by decide) rfl (Nat.le_of_ble_eq_true rfl) (fun p e s m below meth c C => kX8_costOf_e C  h)

def rX8_seatsOf : Room := { frames := 0, cells := 0, slots := 0, locals := 0 }
theorem uX8_seatsOf_X8 : ∀ w ∈ wsX80, w ∈ wsX8_seatsOf := by decide +kernel
def fX8_seatsOf_l4 (σ : Sg) (v1 : Int32)  : Nat → Int32 → Int32 → Option (Int32)
  | 0, _, _ => none
  | n + 1, v2, v3 => if (σ 0 2) ≤ v3 then some v2 else if ((v1 >>> (v3 &&& 31)) &&& (1 : Int32)) = (1 : Int32) then (rd (σ 1) 116 ((16 : Int32) + v3)).bind fun t1 => fX8_seatsOf_l4 σ v1 n (v2 + t1) (v3 + 1) else fX8_seatsOf_l4 σ v1 n (v2 + (0 : Int32)) (v3 + 1)
def fX8_seatsOf (σ : Sg) (v1 : Int32) : Option (Int32) := fX8_seatsOf_l4 σ v1 2000 (0 : Int32) (0 : Int32)
set_option maxHeartbeats 1000000 in
set_option maxRecDepth 20000 in
theorem kX8_seatsOf_l4 {p : Program} {l : Launch} {e : Env} {s : State} {m : MethodId} {args : Array Value} {below : List Frame} {meth : Method} {c : Code} {Z : Sh} (C : Cx p s m args meth c cX8_seatsOf 4 wsX8_seatsOf RX8 (some .int) Z layM) {σ : Sg} {v1 : Int32} {u : Int32}   : ∀ (n : Nat) (v2 : Int32) (v3 : Int32), fX8_seatsOf_l4 σ v1 n v2 v3 = some u → G p l e rX8_seatsOf s m args below meth c 4 Z layM (MQ below (QI Z layM σ u s.heap.size) args s 0 0 (pA Z layM s.heap.size)) σ 4 [(0, .ref (ad Z 0)), (1, .int v1), (2, .int v2), (3, .int v3)] [] := by
  intro n
  induction n with
  | zero => intro v2 v3 h; exact absurd h (by simp [fX8_seatsOf_l4])
  | succ n ih =>
    intro v2 v3 h
    rw [fX8_seatsOf_l4] at h
    refine g_iload_n (pc := 4) C dX8_seatsOf_4 rfl 3 rfl ?_
    refine g_aload_n (pc := 5) C dX8_seatsOf_5 rfl 0 rfl ?_
    refine g_geti (pc := 6) C (Cn := RX8) (T := TX8) (N := 32) (ci := 8) (k := 0) (j := 2) uX8_seatsOf_X8 (by rfl) rfl (by decide) (by decide +kernel) (q := 0) rfl dX8_seatsOf_6 ?_
    refine g_icmp_ge (pc := 9) C (tgt := 43) dX8_seatsOf_9 (by decide) h (fun hc9 h => ?_) (fun hc9 h => ?_)
    · refine g_iload_n (pc := 43) C dX8_seatsOf_43 rfl 2 rfl ?_
      exact g_iret C dX8_seatsOf_44 rfl (Option.some.inj h)
    · refine g_iload_n (pc := 12) C dX8_seatsOf_12 rfl 2 rfl ?_
      refine g_iload_n (pc := 13) C dX8_seatsOf_13 rfl 1 rfl ?_
      refine g_iload_n (pc := 14) C dX8_seatsOf_14 rfl 3 rfl ?_
      refine g_ishr (pc := 15) C dX8_seatsOf_15 ?_
      refine g_iconst (pc := 16) C (v := (1 : Int32)) dX8_seatsOf_16 (by decide) ?_
      refine g_iand (pc := 17) C dX8_seatsOf_17 ?_
      refine g_iconst (pc := 18) C (v := (1 : Int32)) dX8_seatsOf_18 (by decide) ?_
      refine g_icmp_ne (pc := 19) C (tgt := 34) dX8_seatsOf_19 (by decide) h (fun hc19 h => ?_) (fun hc19 h => ?_)
      · refine g_iconst (pc := 34) C (v := (0 : Int32)) dX8_seatsOf_34 (by decide) ?_
        refine g_iadd (pc := 35) C dX8_seatsOf_35 ?_
        refine g_istore_n (pc := 36) C (lv2 := [(2, .int (v2 + (0 : Int32))), (0, .ref (ad Z 0)), (1, .int v1), (3, .int v3)]) dX8_seatsOf_36 rfl (by decide) rfl ?_
        refine g_iinc (pc := 37) C (j := 3) (v := (v3 + 1)) (lv2 := [(3, .int (v3 + 1)), (2, .int (v2 + (0 : Int32))), (0, .ref (ad Z 0)), (1, .int v1)]) dX8_seatsOf_37 rfl rfl (by decide) rfl ?_
        refine g_goto (pc := 40) C (tgt := 4) dX8_seatsOf_40 (by decide) ?_
        exact g_sub [2, 3, 1, 0] rfl (ih _ _ h)
      · refine g_aload_n (pc := 22) C dX8_seatsOf_22 rfl 0 rfl ?_
        refine g_getr (pc := 23) C (Cn := RX8) (T := TX8) (N := 32) (ci := 8) (k := 0) (j := 0) uX8_seatsOf_X8 (by rfl) rfl (by decide) (by decide +kernel) (q := 1) rfl dX8_seatsOf_23 ?_
        refine g_bipush (pc := 26) C (v := (16 : Int32)) dX8_seatsOf_26 (by decide) ?_
        refine g_iload_n (pc := 28) C dX8_seatsOf_28 rfl 3 rfl ?_
        refine g_iadd (pc := 29) C dX8_seatsOf_29 ?_
        obtain ⟨t1, et1, h⟩ := bs h
        refine g_iald (pc := 30) C (k := 1) (n := 116) (by rfl) et1 dX8_seatsOf_30 ?_
        refine g_goto (pc := 31) C (tgt := 35) dX8_seatsOf_31 (by decide) ?_
        refine g_iadd (pc := 35) C dX8_seatsOf_35 ?_
        refine g_istore_n (pc := 36) C (lv2 := [(2, .int (v2 + t1)), (0, .ref (ad Z 0)), (1, .int v1), (3, .int v3)]) dX8_seatsOf_36 rfl (by decide) rfl ?_
        refine g_iinc (pc := 37) C (j := 3) (v := (v3 + 1)) (lv2 := [(3, .int (v3 + 1)), (2, .int (v2 + t1)), (0, .ref (ad Z 0)), (1, .int v1)]) dX8_seatsOf_37 rfl rfl (by decide) rfl ?_
        refine g_goto (pc := 40) C (tgt := 4) dX8_seatsOf_40 (by decide) ?_
        exact g_sub [2, 3, 1, 0] rfl (ih _ _ h)
set_option maxHeartbeats 1000000 in
set_option maxRecDepth 20000 in
theorem kX8_seatsOf_e {p : Program} {l : Launch} {e : Env} {s : State} {m : MethodId} {args : Array Value} {below : List Frame} {meth : Method} {c : Code} {Z : Sh} (C : Cx p s m args meth c cX8_seatsOf 4 wsX8_seatsOf RX8 (some .int) Z layM) {σ : Sg} {v1 : Int32} {u : Int32}  (h : fX8_seatsOf σ v1 = some u) : G p l e rX8_seatsOf s m args below meth c 4 Z layM (MQ below (QI Z layM σ u s.heap.size) args s 0 0 (pA Z layM s.heap.size)) σ 0 [(0, .ref (ad Z 0)), (1, .int v1)] [] := by
  unfold fX8_seatsOf at h
  refine g_iconst (pc := 0) C (v := (0 : Int32)) dX8_seatsOf_0 (by decide) ?_
  refine g_istore_n (pc := 1) C (lv2 := [(2, .int (0 : Int32)), (0, .ref (ad Z 0)), (1, .int v1)]) dX8_seatsOf_1 rfl (by decide) rfl ?_
  refine g_iconst (pc := 2) C (v := (0 : Int32)) dX8_seatsOf_2 (by decide) ?_
  refine g_istore_n (pc := 3) C (lv2 := [(3, .int (0 : Int32)), (2, .int (0 : Int32)), (0, .ref (ad Z 0)), (1, .int v1)]) dX8_seatsOf_3 rfl (by decide) rfl ?_
  exact g_sub [2, 3, 1, 0] rfl (kX8_seatsOf_l4 C   _ _ _ h)
theorem mX8_seatsOf (l : Launch) (Z : Sh) {σ : Sg} {v1 : Int32} {u : Int32}  (h : fX8_seatsOf σ v1 = some u) : MI l Z layM yX8_seatsOf wsX8_seatsOf rX8_seatsOf [.ref (ad Z 0), .int v1] σ σ u :=
  MI.of (cc := cX8_seatsOf) (maxL := 4) (ret := (some .int)) (by decide) rfl (Nat.le_of_ble_eq_true rfl) (fun p e s m below meth c C => kX8_seatsOf_e C  h)

def rX8_all : Room := { frames := 0, cells := 0, slots := 0, locals := 0 }
theorem uX8_all_X8 : ∀ w ∈ wsX80, w ∈ wsX8_all := by decide +kernel
def fX8_all (σ : Sg)  : Option (Int32) := some (((1 : Int32) <<< ((σ 0 2) &&& 31)) - (1 : Int32))
set_option maxHeartbeats 1000000 in
set_option maxRecDepth 20000 in
theorem kX8_all_e {p : Program} {l : Launch} {e : Env} {s : State} {m : MethodId} {args : Array Value} {below : List Frame} {meth : Method} {c : Code} {Z : Sh} (C : Cx p s m args meth c cX8_all 1 wsX8_all RX8 (some .int) Z layM) {σ : Sg}  {u : Int32}  (h : fX8_all σ = some u) : G p l e rX8_all s m args below meth c 1 Z layM (MQ below (QI Z layM σ u s.heap.size) args s 0 0 (pA Z layM s.heap.size)) σ 0 [(0, .ref (ad Z 0))] [] := by
  unfold fX8_all at h
  refine g_iconst (pc := 0) C (v := (1 : Int32)) dX8_all_0 (by decide) ?_
  refine g_aload_n (pc := 1) C dX8_all_1 rfl 0 rfl ?_
  refine g_geti (pc := 2) C (Cn := RX8) (T := TX8) (N := 32) (ci := 8) (k := 0) (j := 2) uX8_all_X8 (by rfl) rfl (by decide) (by decide +kernel) (q := 0) rfl dX8_all_2 ?_
  refine g_ishl (pc := 5) C dX8_all_5 ?_
  refine g_iconst (pc := 6) C (v := (1 : Int32)) dX8_all_6 (by decide) ?_
  refine g_isub (pc := 7) C dX8_all_7 ?_
  exact g_iret C dX8_all_8 rfl (Option.some.inj h)
theorem mX8_all (l : Launch) (Z : Sh) {σ : Sg}  {u : Int32}  (h : fX8_all σ = some u) : MI l Z layM yX8_all wsX8_all rX8_all [.ref (ad Z 0)] σ σ u :=
  MI.of (cc := cX8_all) (maxL := 1) (ret := (some .int)) (by decide) rfl (Nat.le_of_ble_eq_true rfl) (fun p e s m below meth c C => kX8_all_e C  h)

def rX8_boroughsOf : Room := { frames := 1, cells := 0, slots := 0, locals := 21 }
theorem uX8_boroughsOf_X8 : ∀ w ∈ wsX80, w ∈ wsX8_boroughsOf := by decide +kernel
def fX8_boroughsOf_b40 (σ : Sg) (v1 : Int32) (k4 : Int32 → Int32 → Option (Int32)) (v3 : Int32) (s0 : Int32) : Option (Int32) := k4 (s0 ||| (0 : Int32)) (v3 + 1)
def fX8_boroughsOf_l4 (σ : Sg) (v1 : Int32)  : Nat → Int32 → Int32 → Option (Int32)
  | 0, _, _ => none
  | n + 1, v2, v3 => if (σ 0 2) ≤ v3 then some v2 else (fX8_ownerOf σ v3).bind fun t1 => if t1 < 0 then fX8_boroughsOf_b40 σ v1 (fun v2 v3 => fX8_boroughsOf_l4 σ v1 n v2 v3) v3 v2 else (fX8_ownerOf σ v3).bind fun t2 => if ((v1 >>> (t2 &&& 31)) &&& (1 : Int32)) = (1 : Int32) then fX8_boroughsOf_l4 σ v1 n (v2 ||| ((1 : Int32) <<< (v3 &&& 31))) (v3 + 1) else fX8_boroughsOf_b40 σ v1 (fun v2 v3 => fX8_boroughsOf_l4 σ v1 n v2 v3) v3 v2
def fX8_boroughsOf (σ : Sg) (v1 : Int32) : Option (Int32) := fX8_boroughsOf_l4 σ v1 2000 (0 : Int32) (0 : Int32)
set_option maxHeartbeats 1000000 in
set_option maxRecDepth 20000 in
theorem kX8_boroughsOf_b40 {p : Program} {l : Launch} {e : Env} {s : State} {m : MethodId} {args : Array Value} {below : List Frame} {meth : Method} {c : Code} {Z : Sh} (C : Cx p s m args meth c cX8_boroughsOf 4 wsX8_boroughsOf RX8 (some .int) Z layM) {σ : Sg} {v1 : Int32} {u : Int32}  {k4 : Int32 → Int32 → Option (Int32)} (hk4 : ∀ (v2 : Int32) (v3 : Int32), k4 v2 v3 = some u → G p l e rX8_boroughsOf s m args below meth c 4 Z layM (MQ below (QI Z layM σ u s.heap.size) args s 0 0 (pA Z layM s.heap.size)) σ 4 [(0, .ref (ad Z 0)), (1, .int v1), (2, .int v2), (3, .int v3)] []) {v3 : Int32} {s0 : Int32} (h : fX8_boroughsOf_b40 σ v1 k4 v3 s0 = some u) : G p l e rX8_boroughsOf s m args below meth c 4 Z layM (MQ below (QI Z layM σ u s.heap.size) args s 0 0 (pA Z layM s.heap.size)) σ 40 [(0, .ref (ad Z 0)), (1, .int v1), (3, .int v3)] [.int s0] := by
  unfold fX8_boroughsOf_b40 at h
  refine g_iconst (pc := 40) C (v := (0 : Int32)) dX8_boroughsOf_40 (by decide) ?_
  refine g_ior (pc := 41) C dX8_boroughsOf_41 ?_
  refine g_istore_n (pc := 42) C (lv2 := [(2, .int (s0 ||| (0 : Int32))), (0, .ref (ad Z 0)), (1, .int v1), (3, .int v3)]) dX8_boroughsOf_42 rfl (by decide) rfl ?_
  refine g_iinc (pc := 43) C (j := 3) (v := (v3 + 1)) (lv2 := [(3, .int (v3 + 1)), (2, .int (s0 ||| (0 : Int32))), (0, .ref (ad Z 0)), (1, .int v1)]) dX8_boroughsOf_43 rfl rfl (by decide) rfl ?_
  refine g_goto (pc := 46) C (tgt := 4) dX8_boroughsOf_46 (by decide) ?_
  exact g_sub [2, 3, 1, 0] rfl (hk4 _ _ h)
set_option maxHeartbeats 1000000 in
set_option maxRecDepth 20000 in
theorem kX8_boroughsOf_l4 {p : Program} {l : Launch} {e : Env} {s : State} {m : MethodId} {args : Array Value} {below : List Frame} {meth : Method} {c : Code} {Z : Sh} (C : Cx p s m args meth c cX8_boroughsOf 4 wsX8_boroughsOf RX8 (some .int) Z layM) {σ : Sg} {v1 : Int32} {u : Int32}   : ∀ (n : Nat) (v2 : Int32) (v3 : Int32), fX8_boroughsOf_l4 σ v1 n v2 v3 = some u → G p l e rX8_boroughsOf s m args below meth c 4 Z layM (MQ below (QI Z layM σ u s.heap.size) args s 0 0 (pA Z layM s.heap.size)) σ 4 [(0, .ref (ad Z 0)), (1, .int v1), (2, .int v2), (3, .int v3)] [] := by
  intro n
  induction n with
  | zero => intro v2 v3 h; exact absurd h (by simp [fX8_boroughsOf_l4])
  | succ n ih =>
    intro v2 v3 h
    rw [fX8_boroughsOf_l4] at h
    refine g_iload_n (pc := 4) C dX8_boroughsOf_4 rfl 3 rfl ?_
    refine g_aload_n (pc := 5) C dX8_boroughsOf_5 rfl 0 rfl ?_
    refine g_geti (pc := 6) C (Cn := RX8) (T := TX8) (N := 32) (ci := 8) (k := 0) (j := 2) uX8_boroughsOf_X8 (by rfl) rfl (by decide) (by decide +kernel) (q := 0) rfl dX8_boroughsOf_6 ?_
    refine g_icmp_ge (pc := 9) C (tgt := 49) dX8_boroughsOf_9 (by decide) h (fun hc9 h => ?_) (fun hc9 h => ?_)
    · refine g_iload_n (pc := 49) C dX8_boroughsOf_49 rfl 2 rfl ?_
      exact g_iret C dX8_boroughsOf_50 rfl (Option.some.inj h)
    · refine g_iload_n (pc := 12) C dX8_boroughsOf_12 rfl 2 rfl ?_
      refine g_aload_n (pc := 13) C dX8_boroughsOf_13 rfl 0 rfl ?_
      refine g_iload_n (pc := 14) C dX8_boroughsOf_14 rfl 3 rfl ?_
      obtain ⟨t1, et1, h⟩ := bs h
      refine g_callVi (pc := 15) C (As := [.int v3]) (rest := [.int v2]) (k := 0) (by rfl) (by rfl) (cwV 1 C.2.2.2.2.2.1 gX8_boroughsOf_X8_ownerOf rfl rfl rfl (by decide +kernel) ⟨Nat.le_of_ble_eq_true rfl, Nat.le_of_ble_eq_true rfl⟩) (mX8_ownerOf l Z  et1) rfl rfl (Nat.le_of_ble_eq_true rfl) dX8_boroughsOf_15 ?_
      refine g_if_lt (pc := 18) C (tgt := 40) dX8_boroughsOf_18 (by decide) h (fun hc18 h => ?_) (fun hc18 h => ?_)
      · exact g_sub [0, 1, 3] rfl (kX8_boroughsOf_b40 C  ih  h)
      · refine g_iload_n (pc := 21) C dX8_boroughsOf_21 rfl 1 rfl ?_
        refine g_aload_n (pc := 22) C dX8_boroughsOf_22 rfl 0 rfl ?_
        refine g_iload_n (pc := 23) C dX8_boroughsOf_23 rfl 3 rfl ?_
        obtain ⟨t2, et2, h⟩ := bs h
        refine g_callVi (pc := 24) C (As := [.int v3]) (rest := [.int v1, .int v2]) (k := 0) (by rfl) (by rfl) (cwV 1 C.2.2.2.2.2.1 gX8_boroughsOf_X8_ownerOf rfl rfl rfl (by decide +kernel) ⟨Nat.le_of_ble_eq_true rfl, Nat.le_of_ble_eq_true rfl⟩) (mX8_ownerOf l Z  et2) rfl rfl (Nat.le_of_ble_eq_true rfl) dX8_boroughsOf_24 ?_
        refine g_ishr (pc := 27) C dX8_boroughsOf_27 ?_
        refine g_iconst (pc := 28) C (v := (1 : Int32)) dX8_boroughsOf_28 (by decide) ?_
        refine g_iand (pc := 29) C dX8_boroughsOf_29 ?_
        refine g_iconst (pc := 30) C (v := (1 : Int32)) dX8_boroughsOf_30 (by decide) ?_
        refine g_icmp_ne (pc := 31) C (tgt := 40) dX8_boroughsOf_31 (by decide) h (fun hc31 h => ?_) (fun hc31 h => ?_)
        · exact g_sub [0, 1, 3] rfl (kX8_boroughsOf_b40 C  ih  h)
        · refine g_iconst (pc := 34) C (v := (1 : Int32)) dX8_boroughsOf_34 (by decide) ?_
          refine g_iload_n (pc := 35) C dX8_boroughsOf_35 rfl 3 rfl ?_
          refine g_ishl (pc := 36) C dX8_boroughsOf_36 ?_
          refine g_goto (pc := 37) C (tgt := 41) dX8_boroughsOf_37 (by decide) ?_
          refine g_ior (pc := 41) C dX8_boroughsOf_41 ?_
          refine g_istore_n (pc := 42) C (lv2 := [(2, .int (v2 ||| ((1 : Int32) <<< (v3 &&& 31)))), (0, .ref (ad Z 0)), (1, .int v1), (3, .int v3)]) dX8_boroughsOf_42 rfl (by decide) rfl ?_
          refine g_iinc (pc := 43) C (j := 3) (v := (v3 + 1)) (lv2 := [(3, .int (v3 + 1)), (2, .int (v2 ||| ((1 : Int32) <<< (v3 &&& 31)))), (0, .ref (ad Z 0)), (1, .int v1)]) dX8_boroughsOf_43 rfl rfl (by decide) rfl ?_
          refine g_goto (pc := 46) C (tgt := 4) dX8_boroughsOf_46 (by decide) ?_
          exact g_sub [2, 3, 1, 0] rfl (ih _ _ h)
set_option maxHeartbeats 1000000 in
set_option maxRecDepth 20000 in
theorem kX8_boroughsOf_e {p : Program} {l : Launch} {e : Env} {s : State} {m : MethodId} {args : Array Value} {below : List Frame} {meth : Method} {c : Code} {Z : Sh} (C : Cx p s m args meth c cX8_boroughsOf 4 wsX8_boroughsOf RX8 (some .int) Z layM) {σ : Sg} {v1 : Int32} {u : Int32}  (h : fX8_boroughsOf σ v1 = some u) : G p l e rX8_boroughsOf s m args below meth c 4 Z layM (MQ below (QI Z layM σ u s.heap.size) args s 0 0 (pA Z layM s.heap.size)) σ 0 [(0, .ref (ad Z 0)), (1, .int v1)] [] := by
  unfold fX8_boroughsOf at h
  refine g_iconst (pc := 0) C (v := (0 : Int32)) dX8_boroughsOf_0 (by decide) ?_
  refine g_istore_n (pc := 1) C (lv2 := [(2, .int (0 : Int32)), (0, .ref (ad Z 0)), (1, .int v1)]) dX8_boroughsOf_1 rfl (by decide) rfl ?_
  refine g_iconst (pc := 2) C (v := (0 : Int32)) dX8_boroughsOf_2 (by decide) ?_
  refine g_istore_n (pc := 3) C (lv2 := [(3, .int (0 : Int32)), (2, .int (0 : Int32)), (0, .ref (ad Z 0)), (1, .int v1)]) dX8_boroughsOf_3 rfl (by decide) rfl ?_
  exact g_sub [2, 3, 1, 0] rfl (kX8_boroughsOf_l4 C   _ _ _ h)
theorem mX8_boroughsOf (l : Launch) (Z : Sh) {σ : Sg} {v1 : Int32} {u : Int32}  (h : fX8_boroughsOf σ v1 = some u) : MI l Z layM yX8_boroughsOf wsX8_boroughsOf rX8_boroughsOf [.ref (ad Z 0), .int v1] σ σ u :=
  MI.of (cc := cX8_boroughsOf) (maxL := 4) (ret := (some .int)) (by decide) rfl (Nat.le_of_ble_eq_true rfl) (fun p e s m below meth c C => kX8_boroughsOf_e C  h)

def rX8_nobodys : Room := { frames := 2, cells := 0, slots := 0, locals := 44 }
def fX8_nobodys (σ : Sg)  : Option (Int32) := (fX8_all σ).bind fun t1 => (fX8_boroughsOf σ (15 : Int32)).bind fun t2 => some (t1 &&& (t2 ^^^ (-1 : Int32)))
set_option maxHeartbeats 1000000 in
set_option maxRecDepth 20000 in
theorem kX8_nobodys_e {p : Program} {l : Launch} {e : Env} {s : State} {m : MethodId} {args : Array Value} {below : List Frame} {meth : Method} {c : Code} {Z : Sh} (C : Cx p s m args meth c cX8_nobodys 1 wsX8_nobodys RX8 (some .int) Z layM) {σ : Sg}  {u : Int32}  (h : fX8_nobodys σ = some u) : G p l e rX8_nobodys s m args below meth c 1 Z layM (MQ below (QI Z layM σ u s.heap.size) args s 0 0 (pA Z layM s.heap.size)) σ 0 [(0, .ref (ad Z 0))] [] := by
  unfold fX8_nobodys at h
  refine g_aload_n (pc := 0) C dX8_nobodys_0 rfl 0 rfl ?_
  obtain ⟨t1, et1, h⟩ := bs h
  refine g_callVi (pc := 1) C (As := []) (rest := []) (k := 0) (by rfl) (by rfl) (cwV 0 C.2.2.2.2.2.1 gX8_nobodys_X8_all rfl rfl rfl (by decide +kernel) ⟨Nat.le_of_ble_eq_true rfl, Nat.le_of_ble_eq_true rfl⟩) (mX8_all l Z  et1) rfl rfl (Nat.le_of_ble_eq_true rfl) dX8_nobodys_1 ?_
  refine g_aload_n (pc := 4) C dX8_nobodys_4 rfl 0 rfl ?_
  refine g_bipush (pc := 5) C (v := (15 : Int32)) dX8_nobodys_5 (by decide) ?_
  obtain ⟨t2, et2, h⟩ := bs h
  refine g_callVi (pc := 7) C (As := [.int (15 : Int32)]) (rest := [.int t1]) (k := 0) (by rfl) (by rfl) (cwV 1 C.2.2.2.2.2.1 gX8_nobodys_X8_boroughsOf rfl rfl rfl (by decide +kernel) ⟨Nat.le_of_ble_eq_true rfl, Nat.le_of_ble_eq_true rfl⟩) (mX8_boroughsOf l Z  et2) rfl rfl (Nat.le_of_ble_eq_true rfl) dX8_nobodys_7 ?_
  refine g_iconst (pc := 10) C (v := (-1 : Int32)) dX8_nobodys_10 (by decide) ?_
  refine g_ixor (pc := 11) C dX8_nobodys_11 ?_
  refine g_iand (pc := 12) C dX8_nobodys_12 ?_
  exact g_iret C dX8_nobodys_13 rfl (Option.some.inj h)
theorem mX8_nobodys (l : Launch) (Z : Sh) {σ : Sg}  {u : Int32}  (h : fX8_nobodys σ = some u) : MI l Z layM yX8_nobodys wsX8_nobodys rX8_nobodys [.ref (ad Z 0)] σ σ u :=
  MI.of (cc := cX8_nobodys) (maxL := 1) (ret := (some .int)) (by decide) rfl (Nat.le_of_ble_eq_true rfl) (fun p e s m below meth c C => kX8_nobodys_e C  h)

def rX8_guineas : Room := { frames := 0, cells := 0, slots := 0, locals := 0 }
theorem uX8_guineas_X8 : ∀ w ∈ wsX80, w ∈ wsX8_guineas := by decide +kernel
def fX8_guineas_l4 (σ : Sg)   : Nat → Int32 → Int32 → Option (Int32)
  | 0, _, _ => none
  | n + 1, v1, v2 => if (σ 0 1) ≤ v2 then some v1 else (rd (σ 1) 116 v2).bind fun t1 => fX8_guineas_l4 σ n (v1 + t1) (v2 + 1)
def fX8_guineas (σ : Sg)  : Option (Int32) := fX8_guineas_l4 σ 2000 (0 : Int32) (0 : Int32)
set_option maxHeartbeats 1000000 in
set_option maxRecDepth 20000 in
theorem kX8_guineas_l4 {p : Program} {l : Launch} {e : Env} {s : State} {m : MethodId} {args : Array Value} {below : List Frame} {meth : Method} {c : Code} {Z : Sh} (C : Cx p s m args meth c cX8_guineas 3 wsX8_guineas RX8 (some .int) Z layM) {σ : Sg}  {u : Int32}   : ∀ (n : Nat) (v1 : Int32) (v2 : Int32), fX8_guineas_l4 σ n v1 v2 = some u → G p l e rX8_guineas s m args below meth c 3 Z layM (MQ below (QI Z layM σ u s.heap.size) args s 0 0 (pA Z layM s.heap.size)) σ 4 [(0, .ref (ad Z 0)), (1, .int v1), (2, .int v2)] [] := by
  intro n
  induction n with
  | zero => intro v1 v2 h; exact absurd h (by simp [fX8_guineas_l4])
  | succ n ih =>
    intro v1 v2 h
    rw [fX8_guineas_l4] at h
    refine g_iload_n (pc := 4) C dX8_guineas_4 rfl 2 rfl ?_
    refine g_aload_n (pc := 5) C dX8_guineas_5 rfl 0 rfl ?_
    refine g_geti (pc := 6) C (Cn := RX8) (T := TX8) (N := 32) (ci := 8) (k := 0) (j := 1) uX8_guineas_X8 (by rfl) rfl (by decide) (by decide +kernel) (q := 0) rfl dX8_guineas_6 ?_
    refine g_icmp_ge (pc := 9) C (tgt := 27) dX8_guineas_9 (by decide) h (fun hc9 h => ?_) (fun hc9 h => ?_)
    · refine g_iload_n (pc := 27) C dX8_guineas_27 rfl 1 rfl ?_
      exact g_iret C dX8_guineas_28 rfl (Option.some.inj h)
    · refine g_iload_n (pc := 12) C dX8_guineas_12 rfl 1 rfl ?_
      refine g_aload_n (pc := 13) C dX8_guineas_13 rfl 0 rfl ?_
      refine g_getr (pc := 14) C (Cn := RX8) (T := TX8) (N := 32) (ci := 8) (k := 0) (j := 0) uX8_guineas_X8 (by rfl) rfl (by decide) (by decide +kernel) (q := 1) rfl dX8_guineas_14 ?_
      refine g_iload_n (pc := 17) C dX8_guineas_17 rfl 2 rfl ?_
      obtain ⟨t1, et1, h⟩ := bs h
      refine g_iald (pc := 18) C (k := 1) (n := 116) (by rfl) et1 dX8_guineas_18 ?_
      refine g_iadd (pc := 19) C dX8_guineas_19 ?_
      refine g_istore_n (pc := 20) C (lv2 := [(1, .int (v1 + t1)), (0, .ref (ad Z 0)), (2, .int v2)]) dX8_guineas_20 rfl (by decide) rfl ?_
      refine g_iinc (pc := 21) C (j := 2) (v := (v2 + 1)) (lv2 := [(2, .int (v2 + 1)), (1, .int (v1 + t1)), (0, .ref (ad Z 0))]) dX8_guineas_21 rfl rfl (by decide) rfl ?_
      refine g_goto (pc := 24) C (tgt := 4) dX8_guineas_24 (by decide) ?_
      exact g_sub [2, 1, 0] rfl (ih _ _ h)
set_option maxHeartbeats 1000000 in
set_option maxRecDepth 20000 in
theorem kX8_guineas_e {p : Program} {l : Launch} {e : Env} {s : State} {m : MethodId} {args : Array Value} {below : List Frame} {meth : Method} {c : Code} {Z : Sh} (C : Cx p s m args meth c cX8_guineas 3 wsX8_guineas RX8 (some .int) Z layM) {σ : Sg}  {u : Int32}  (h : fX8_guineas σ = some u) : G p l e rX8_guineas s m args below meth c 3 Z layM (MQ below (QI Z layM σ u s.heap.size) args s 0 0 (pA Z layM s.heap.size)) σ 0 [(0, .ref (ad Z 0))] [] := by
  unfold fX8_guineas at h
  refine g_iconst (pc := 0) C (v := (0 : Int32)) dX8_guineas_0 (by decide) ?_
  refine g_istore_n (pc := 1) C (lv2 := [(1, .int (0 : Int32)), (0, .ref (ad Z 0))]) dX8_guineas_1 rfl (by decide) rfl ?_
  refine g_iconst (pc := 2) C (v := (0 : Int32)) dX8_guineas_2 (by decide) ?_
  refine g_istore_n (pc := 3) C (lv2 := [(2, .int (0 : Int32)), (1, .int (0 : Int32)), (0, .ref (ad Z 0))]) dX8_guineas_3 rfl (by decide) rfl ?_
  exact g_sub [2, 1, 0] rfl (kX8_guineas_l4 C   _ _ _ h)
theorem mX8_guineas (l : Launch) (Z : Sh) {σ : Sg}  {u : Int32}  (h : fX8_guineas σ = some u) : MI l Z layM yX8_guineas wsX8_guineas rX8_guineas [.ref (ad Z 0)] σ σ u :=
  MI.of (cc := cX8_guineas) (maxL := 3) (ret := (some .int)) (by decide) rfl (Nat.le_of_ble_eq_true rfl) (fun p e s m below meth c C => kX8_guineas_e C  h)
