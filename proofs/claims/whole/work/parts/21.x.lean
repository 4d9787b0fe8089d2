def rX1_isFigure : Room := { frames := 0, cells := 0, slots := 0, locals := 0 }
def fX1_isFigure (v0 : Int32) : Option (Int32) := if v0 < (48 : Int32) then some (0 : Int32) else if (57 : Int32) < v0 then some (0 : Int32) else some (1 : Int32)
set_option maxHeartbeats 1000000 in
set_option maxRecDepth 20000 in
theorem kX1_isFigure_e {p : Program} {l : Launch} {e : Env} {s : State} {m : MethodId} {args : Array Value} {below : List Frame} {meth : Method} {c : Code} {Z : Sh} (C : Cx p s m args meth c cX1_isFigure 1 wsX1_isFigure RX1 (some .boolean) Z layX) {σ : Sg} {v0 : Int32} {u : Int32}  (h : fX1_isFigure v0 = some u) : G p l e rX1_isFigure s m args below meth c 1 Z layX (MQ below (QI Z layX σ u s.heap.size) args s 0 0 (pA Z layX s.heap.size)) σ 0 [(0, .int v0)] [] := by
  unfold fX1_isFigure at h
  refine g_iload_n (pc := 0) C dX1_isFigure_0 rfl 0 rfl ?_
  refine g_bipush (pc := 1) C (v := (48 : Int32)) dX1_isFigure_1 (by decide) ?_
  refine g_icmp_lt (pc := 3) C (tgt := 16) dX1_isFigure_3 (by decide) h (fun hc3 h => ?_) (fun hc3 h => ?_)
  · refine g_iconst (pc := 16) C (v := (0 : Int32)) dX1_isFigure_16 (by decide) ?_
    exact g_zret C dX1_isFigure_17 rfl (rz0.trans h)
  · refine g_iload_n (pc := 6) C dX1_isFigure_6 rfl 0 rfl ?_
    refine g_bipush (pc := 7) C (v := (57 : Int32)) dX1_isFigure_7 (by decide) ?_
    refine g_icmp_gt (pc := 9) C (tgt := 16) dX1_isFigure_9 (by decide) h (fun hc9 h => ?_) (fun hc9 h => ?_)
    · refine g_iconst (pc := 16) C (v := (0 : Int32)) dX1_isFigure_16 (by decide) ?_
      exact g_zret C dX1_isFigure_17 rfl (rz0.trans h)
    · refine g_iconst (pc := 12) C (v := (1 : Int32)) dX1_isFigure_12 (by decide) ?_
      refine g_goto (pc := 13) C (tgt := 17) dX1_isFigure_13 (by decide) ?_
      exact g_zret C dX1_isFigure_17 rfl (rz1.trans h)
theorem mX1_isFigure (l : Launch) (Z : Sh) {σ : Sg} {v0 : Int32} {u : Int32}  (h : fX1_isFigure v0 = some u) : MI l Z layX yX1_isFigure wsX1_isFigure rX1_isFigure [.int v0] σ σ u :=
  MI.of (cc := cX1_isFigure) (maxL := 1) (ret := (some .boolean)) (by decide) rfl (Nat.le_of_ble_eq_true rfl) (fun p e s m below meth c C => kX1_isFigure_e C  h)

def rX1_refuse : Room := { frames := 0, cells := 0, slots := 0, locals := 0 }
theorem uX1_refuse_X1 : ∀ w ∈ wsX10, w ∈ wsX1_refuse := by decide +kernel
def fX1_refuse (σ : Sg) (v1 : Int32) (v2 : Int32) : Option (Sg) := if (σ 31 2) = 0 then (pf σ 31 2 v1).bind fun σ1 => (pf σ1 31 3 v2).bind fun σ2 => some σ2 else some σ
set_option maxHeartbeats 1000000 in
set_option maxRecDepth 20000 in
theorem kX1_refuse_e {p : Program} {l : Launch} {e : Env} {s : State} {m : MethodId} {args : Array Value} {below : List Frame} {meth : Method} {c : Code} {Z : Sh} (C : Cx p s m args meth c cX1_refuse 3 wsX1_refuse RX1 none Z layX) {σ : Sg} {v1 : Int32} {v2 : Int32} {u : Sg}  (h : fX1_refuse σ v1 v2 = some u) : G p l e rX1_refuse s m args below meth c 3 Z layX (MQ below (QV Z layX u s.heap.size) args s 0 0 (pA Z layX s.heap.size)) σ 0 [(0, .ref (ad Z 31)), (1, .int v1), (2, .int v2)] [] := by
  unfold fX1_refuse at h
  refine g_aload_n (pc := 0) C dX1_refuse_0 rfl 0 rfl ?_
  refine g_geti (pc := 1) C (Cn := RX1) (T := TX1) (N := 9) (ci := 1) (k := 31) (j := 2) uX1_refuse_X1 (by rfl) rfl (by decide) (by decide +kernel) (q := 0) rfl dX1_refuse_1 ?_
  refine g_if_ne (pc := 4) C (tgt := 17) dX1_refuse_4 (by decide) h (fun hc4 h => ?_) (fun hc4 h => ?_)
  · exact g_vret C dX1_refuse_17 (Option.some.inj h)
  · refine g_aload_n (pc := 7) C dX1_refuse_7 rfl 0 rfl ?_
    refine g_iload_n (pc := 8) C dX1_refuse_8 rfl 1 rfl ?_
    obtain ⟨σ1, eσ1, h⟩ := bs h
    refine g_puti (pc := 9) C (Cn := RX1) (T := TX1) (N := 9) (ci := 1) (k := 31) (j := 2) uX1_refuse_X1 (by rfl) rfl (by decide) (by decide +kernel) tyX1 tyX1_ok nmX1 rfl (by decide +kernel) rfl eσ1 dX1_refuse_9 ?_
    refine g_aload_n (pc := 12) C dX1_refuse_12 rfl 0 rfl ?_
    refine g_iload_n (pc := 13) C dX1_refuse_13 rfl 2 rfl ?_
    obtain ⟨σ2, eσ2, h⟩ := bs h
    refine g_puti (pc := 14) C (Cn := RX1) (T := TX1) (N := 9) (ci := 1) (k := 31) (j := 3) uX1_refuse_X1 (by rfl) rfl (by decide) (by decide +kernel) tyX1 tyX1_ok nmX1 rfl (by decide +kernel) rfl eσ2 dX1_refuse_14 ?_
    exact g_vret C dX1_refuse_17 (Option.some.inj h)
theorem mX1_refuse (l : Launch) (Z : Sh) {σ : Sg} {v1 : Int32} {v2 : Int32} {u : Sg}  (h : fX1_refuse σ v1 v2 = some u) : MV l Z layX yX1_refuse wsX1_refuse rX1_refuse [.ref (ad Z 31), .int v1, .int v2] σ u :=
  MV.of (cc := cX1_refuse) (maxL := 3) (ret := none) (by decide) rfl (Nat.le_of_ble_eq_true rfl) (fun p e s m below meth c C => kX1_refuse_e C  h)

def rX1_readNumber : Room := { frames := 1, cells := 0, slots := 0, locals := 22 }
theorem uX1_readNumber_X1 : ∀ w ∈ wsX10, w ∈ wsX1_readNumber := by decide +kernel
theorem uX1_readNumber_X5 : ∀ w ∈ wsX50, w ∈ wsX1_readNumber := by decide +kernel
def fX1_readNumber_b92  (k18 : Sg → Option (Sg)) (σ : Sg) (s1 : Int32) : Option (Sg) := (pf σ 31 7 s1).bind fun σ1 => (pf σ1 31 5 ((σ1 31 5) + (1 : Int32))).bind fun σ2 => k18 σ2
def fX1_readNumber_b108   (σ : Sg) : Option (Sg) := if ((σ 31 5) - (σ 31 4)) ≤ (2 : Int32) then some σ else (pf σ 31 6 (4 : Int32)).bind fun σ1 => (fX1_refuse σ1 (1 : Int32) (σ1 31 4)).bind fun σ2 => some σ2
def fX1_readNumber_l18   : Nat → Sg → Option (Sg)
  | 0, _ => none
  | n + 1, σ => if (σ 32 1) ≤ (σ 31 5) then fX1_readNumber_b108 σ else (fX5_at σ (σ 31 5)).bind fun t1 => (fX1_isFigure t1).bind fun t2 => if t2 = 0 then fX1_readNumber_b108 σ else if (2 : Int32) ≤ ((σ 31 5) - (σ 31 4)) then fX1_readNumber_b92 (fun σ => fX1_readNumber_l18 n σ) σ (σ 31 7) else (fX5_at σ (σ 31 5)).bind fun t3 => fX1_readNumber_b92 (fun σ => fX1_readNumber_l18 n σ) σ ((((σ 31 7) * (10 : Int32)) + t3) - (48 : Int32))
def fX1_readNumber (σ : Sg)  : Option (Sg) := (pf σ 31 6 (2 : Int32)).bind fun σ1 => (pf σ1 31 7 (0 : Int32)).bind fun σ2 => (pf σ2 31 5 (σ2 31 4)).bind fun σ3 => fX1_readNumber_l18 2000 σ3
set_option maxHeartbeats 1000000 in
set_option maxRecDepth 20000 in
theorem kX1_readNumber_b92 {p : Program} {l : Launch} {e : Env} {s : State} {m : MethodId} {args : Array Value} {below : List Frame} {meth : Method} {c : Code} {Z : Sh} (C : Cx p s m args meth c cX1_readNumber 1 wsX1_readNumber RX1 none Z layX)  {u : Sg}  {k18 : Sg → Option (Sg)} (hk18 : ∀ (σ : Sg), k18 σ = some u → G p l e rX1_readNumber s m args below meth c 1 Z layX (MQ below (QV Z layX u s.heap.size) args s 0 0 (pA Z layX s.heap.size)) σ 18 [(0, .ref (ad Z 31))] []) {σ : Sg} {s1 : Int32} (h : fX1_readNumber_b92 k18 σ s1 = some u) : G p l e rX1_readNumber s m args below meth c 1 Z layX (MQ below (QV Z layX u s.heap.size) args s 0 0 (pA Z layX s.heap.size)) σ 92 [(0, .ref (ad Z 31))] [.int s1, .ref (ad Z 31)] := by
  unfold fX1_readNumber_b92 at h
  obtain ⟨σ1, eσ1, h⟩ := bs h
  refine g_puti (pc := 92) C (Cn := RX1) (T := TX1) (N := 9) (ci := 1) (k := 31) (j := 7) uX1_readNumber_X1 (by rfl) rfl (by decide) (by decide +kernel) tyX1 tyX1_ok nmX1 rfl (by decide +kernel) rfl eσ1 dX1_readNumber_92 ?_
  refine g_aload_n (pc := 95) C dX1_readNumber_95 rfl 0 rfl ?_
  refine g_dup (pc := 96) C rfl dX1_readNumber_96 ?_
  refine g_geti (pc := 97) C (Cn := RX1) (T := TX1) (N := 9) (ci := 1) (k := 31) (j := 5) uX1_readNumber_X1 (by rfl) rfl (by decide) (by decide +kernel) (q := 0) rfl dX1_readNumber_97 ?_
  refine g_iconst (pc := 100) C (v := (1 : Int32)) dX1_readNumber_100 (by decide) ?_
  refine g_iadd (pc := 101) C dX1_readNumber_101 ?_
  obtain ⟨σ2, eσ2, h⟩ := bs h
  refine g_puti (pc := 102) C (Cn := RX1) (T := TX1) (N := 9) (ci := 1) (k := 31) (j := 5) uX1_readNumber_X1 (by rfl) rfl (by decide) (by decide +kernel) tyX1 tyX1_ok nmX1 rfl (by decide +kernel) rfl eσ2 dX1_readNumber_102 ?_
  refine g_goto (pc := 105) C (tgt := 18) dX1_readNumber_105 (by decide) ?_
  exact g_sub [0] rfl (hk18 _ h)
set_option maxHeartbeats 1000000 in
set_option maxRecDepth 20000 in
theorem kX1_readNumber_b108 {p : Program} {l : Launch} {e : Env} {s : State} {m : MethodId} {args : Array Value} {below : List Frame} {meth : Method} {c : Code} {Z : Sh} (C : Cx p s m args meth c cX1_readNumber 1 wsX1_readNumber RX1 none Z layX)  {u : Sg}   {σ : Sg} (h : fX1_readNumber_b108 σ = some u) : G p l e rX1_readNumber s m args below meth c 1 Z layX (MQ below (QV Z layX u s.heap.size) args s 0 0 (pA Z layX s.heap.size)) σ 108 [(0, .ref (ad Z 31))] [] := by
  unfold fX1_readNumber_b108 at h
  refine g_aload_n (pc := 108) C dX1_readNumber_108 rfl 0 rfl ?_
  refine g_geti (pc := 109) C (Cn := RX1) (T := TX1) (N := 9) (ci := 1) (k := 31) (j := 5) uX1_readNumber_X1 (by rfl) rfl (by decide) (by decide +kernel) (q := 0) rfl dX1_readNumber_109 ?_
  refine g_aload_n (pc := 112) C dX1_readNumber_112 rfl 0 rfl ?_
  refine g_geti (pc := 113) C (Cn := RX1) (T := TX1) (N := 9) (ci := 1) (k := 31) (j := 4) uX1_readNumber_X1 (by rfl) rfl (by decide) (by decide +kernel) (q := 0) rfl dX1_readNumber_113 ?_
  refine g_isub (pc := 116) C dX1_readNumber_116 ?_
  refine g_iconst (pc := 117) C (v := (2 : Int32)) dX1_readNumber_117 (by decide) ?_
  refine g_icmp_le (pc := 118) C (tgt := 135) dX1_readNumber_118 (by decide) h (fun hc118 h => ?_) (fun hc118 h => ?_)
  · exact g_vret C dX1_readNumber_135 (Option.some.inj h)
  · refine g_aload_n (pc := 121) C dX1_readNumber_121 rfl 0 rfl ?_
    refine g_iconst (pc := 122) C (v := (4 : Int32)) dX1_readNumber_122 (by decide) ?_
    obtain ⟨σ1, eσ1, h⟩ := bs h
    refine g_puti (pc := 123) C (Cn := RX1) (T := TX1) (N := 9) (ci := 1) (k := 31) (j := 6) uX1_readNumber_X1 (by rfl) rfl (by decide) (by decide +kernel) tyX1 tyX1_ok nmX1 rfl (by decide +kernel) rfl eσ1 dX1_readNumber_123 ?_
    refine g_aload_n (pc := 126) C dX1_readNumber_126 rfl 0 rfl ?_
    refine g_iconst (pc := 127) C (v := (1 : Int32)) dX1_readNumber_127 (by decide) ?_
    refine g_aload_n (pc := 128) C dX1_readNumber_128 rfl 0 rfl ?_
    refine g_geti (pc := 129) C (Cn := RX1) (T := TX1) (N := 9) (ci := 1) (k := 31) (j := 4) uX1_readNumber_X1 (by rfl) rfl (by decide) (by decide +kernel) (q := 0) rfl dX1_readNumber_129 ?_
    obtain ⟨σ2, eσ2, h⟩ := bs h
    refine g_callVv (pc := 132) C (As := [.int (1 : Int32), .int (σ1 31 4)]) (rest := []) (k := 31) (by rfl) (by rfl) (cwV 2 C.2.2.2.2.2.1 gX1_readNumber_X1_refuse rfl rfl rfl (by decide +kernel) ⟨Nat.le_of_ble_eq_true rfl, Nat.le_of_ble_eq_true rfl⟩) (mX1_refuse l Z  eσ2) rfl rfl (Nat.le_of_ble_eq_true rfl) dX1_readNumber_132 ?_
    exact g_vret C dX1_readNumber_135 (Option.some.inj h)
set_option maxHeartbeats 1000000 in
set_option maxRecDepth 20000 in
theorem kX1_readNumber_l18 {p : Program} {l : Launch} {e : Env} {s : State} {m : MethodId} {args : Array Value} {below : List Frame} {meth : Method} {c : Code} {Z : Sh} (C : Cx p s m args meth c cX1_readNumber 1 wsX1_readNumber RX1 none Z layX)  {u : Sg}   : ∀ (n : Nat) (σ : Sg), fX1_readNumber_l18 n σ = some u → G p l e rX1_readNumber s m args below meth c 1 Z layX (MQ below (QV Z layX u s.heap.size) args s 0 0 (pA Z layX s.heap.size)) σ 18 [(0, .ref (ad Z 31))] [] := by
  intro n
  induction n with
  | zero => intro σ h; exact absurd h (by simp [fX1_readNumber_l18])
  | succ n ih =>
    intro σ h
    rw [fX1_readNumber_l18] at h
    refine g_aload_n (pc := 18) C dX1_readNumber_18 rfl 0 rfl ?_
    refine g_geti (pc := 19) C (Cn := RX1) (T := TX1) (N := 9) (ci := 1) (k := 31) (j := 5) uX1_readNumber_X1 (by rfl) rfl (by decide) (by decide +kernel) (q := 0) rfl dX1_readNumber_19 ?_
    refine g_aload_n (pc := 22) C dX1_readNumber_22 rfl 0 rfl ?_
    refine g_getr (pc := 23) C (Cn := RX1) (T := TX1) (N := 9) (ci := 1) (k := 31) (j := 0) uX1_readNumber_X1 (by rfl) rfl (by decide) (by decide +kernel) (q := 32) rfl dX1_readNumber_23 ?_
    refine g_getiN (pc := 26) C (host := "MoundVotes") (Cn := RX5) (T := TX5) (N := 2) (ci := 5) (k := 32) (j := 1) uX1_readNumber_X5 (by rfl) rfl (by decide) (by decide +kernel) (q := 0) rfl dX1_readNumber_26 ?_
    refine g_icmp_ge (pc := 29) C (tgt := 108) dX1_readNumber_29 (by decide) h (fun hc29 h => ?_) (fun hc29 h => ?_)
    · exact g_sub [0] rfl (kX1_readNumber_b108 C    h)
    · refine g_aload_n (pc := 32) C dX1_readNumber_32 rfl 0 rfl ?_
      refine g_getr (pc := 33) C (Cn := RX1) (T := TX1) (N := 9) (ci := 1) (k := 31) (j := 0) uX1_readNumber_X1 (by rfl) rfl (by decide) (by decide +kernel) (q := 32) rfl dX1_readNumber_33 ?_
      refine g_aload_n (pc := 36) C dX1_readNumber_36 rfl 0 rfl ?_
      refine g_geti (pc := 37) C (Cn := RX1) (T := TX1) (N := 9) (ci := 1) (k := 31) (j := 5) uX1_readNumber_X1 (by rfl) rfl (by decide) (by decide +kernel) (q := 0) rfl dX1_readNumber_37 ?_
      obtain ⟨t1, et1, h⟩ := bs h
      refine g_callVi (pc := 40) C (As := [.int (σ 31 5)]) (rest := []) (k := 32) (by rfl) (by rfl) (cwV 1 C.2.2.2.2.2.1 gX1_readNumber_X5_at rfl rfl rfl (by decide +kernel) ⟨Nat.le_of_ble_eq_true rfl, Nat.le_of_ble_eq_true rfl⟩) (mX5_at l Z  et1) rfl rfl (Nat.le_of_ble_eq_true rfl) dX1_readNumber_40 ?_
      obtain ⟨t2, et2, h⟩ := bs h
      refine g_callSi (pc := 43) C (As := [.int t1]) (rest := []) (va_cwS 1 C.2.2.2.2.2.1 gX1_readNumber_X1_isFigure rfl rfl rfl (by decide +kernel) ⟨Nat.le_of_ble_eq_true rfl, Nat.le_of_ble_eq_true rfl⟩) (mX1_isFigure l Z  et2) rfl rfl (Nat.le_of_ble_eq_true rfl) dX1_readNumber_43 ?_
      refine g_if_eq (pc := 46) C (tgt := 108) dX1_readNumber_46 (by decide) h (fun hc46 h => ?_) (fun hc46 h => ?_)
      · exact g_sub [0] rfl (kX1_readNumber_b108 C    h)
      · refine g_aload_n (pc := 49) C dX1_readNumber_49 rfl 0 rfl ?_
        refine g_aload_n (pc := 50) C dX1_readNumber_50 rfl 0 rfl ?_
        refine g_geti (pc := 51) C (Cn := RX1) (T := TX1) (N := 9) (ci := 1) (k := 31) (j := 5) uX1_readNumber_X1 (by rfl) rfl (by decide) (by decide +kernel) (q := 0) rfl dX1_readNumber_51 ?_
        refine g_aload_n (pc := 54) C dX1_readNumber_54 rfl 0 rfl ?_
        refine g_geti (pc := 55) C (Cn := RX1) (T := TX1) (N := 9) (ci := 1) (k := 31) (j := 4) uX1_readNumber_X1 (by rfl) rfl (by decide) (by decide +kernel) (q := 0) rfl dX1_readNumber_55 ?_
        refine g_isub (pc := 58) C dX1_readNumber_58 ?_
        refine g_iconst (pc := 59) C (v := (2 : Int32)) dX1_readNumber_59 (by decide) ?_
        refine g_icmp_ge (pc := 60) C (tgt := 88) dX1_readNumber_60 (by decide) h (fun hc60 h => ?_) (fun hc60 h => ?_)
        · refine g_aload_n (pc := 88) C dX1_readNumber_88 rfl 0 rfl ?_
          refine g_geti (pc := 89) C (Cn := RX1) (T := TX1) (N := 9) (ci := 1) (k := 31) (j := 7) uX1_readNumber_X1 (by rfl) rfl (by decide) (by decide +kernel) (q := 0) rfl dX1_readNumber_89 ?_
          exact g_sub [0] rfl (kX1_readNumber_b92 C  ih  h)
        · refine g_aload_n (pc := 63) C dX1_readNumber_63 rfl 0 rfl ?_
          refine g_geti (pc := 64) C (Cn := RX1) (T := TX1) (N := 9) (ci := 1) (k := 31) (j := 7) uX1_readNumber_X1 (by rfl) rfl (by decide) (by decide +kernel) (q := 0) rfl dX1_readNumber_64 ?_
          refine g_bipush (pc := 67) C (v := (10 : Int32)) dX1_readNumber_67 (by decide) ?_
          refine g_imul (pc := 69) C dX1_readNumber_69 ?_
          refine g_aload_n (pc := 70) C dX1_readNumber_70 rfl 0 rfl ?_
          refine g_getr (pc := 71) C (Cn := RX1) (T := TX1) (N := 9) (ci := 1) (k := 31) (j := 0) uX1_readNumber_X1 (by rfl) rfl (by decide) (by decide +kernel) (q := 32) rfl dX1_readNumber_71 ?_
          refine g_aload_n (pc := 74) C dX1_readNumber_74 rfl 0 rfl ?_
          refine g_geti (pc := 75) C (Cn := RX1) (T := TX1) (N := 9) (ci := 1) (k := 31) (j := 5) uX1_readNumber_X1 (by rfl) rfl (by decide) (by decide +kernel) (q := 0) rfl dX1_readNumber_75 ?_
          obtain ⟨t3, et3, h⟩ := bs h
          refine g_callVi (pc := 78) C (As := [.int (σ 31 5)]) (rest := [.int ((σ 31 7) * (10 : Int32)), .ref (ad Z 31)]) (k := 32) (by rfl) (by rfl) (cwV 1 C.2.2.2.2.2.1 gX1_readNumber_X5_at rfl rfl rfl (by decide +kernel) ⟨Nat.le_of_ble_eq_true rfl, Nat.le_of_ble_eq_true rfl⟩) (mX5_at l Z  et3) rfl rfl (Nat.le_of_ble_eq_true rfl) dX1_readNumber_78 ?_
          refine g_iadd (pc := 81) C dX1_readNumber_81 ?_
          refine g_bipush (pc := 82) C (v := (48 : Int32)) dX1_readNumber_82 (by decide) ?_
          refine g_isub (pc := 84) C dX1_readNumber_84 ?_
          refine g_goto (pc := 85) C (tgt := 92) dX1_readNumber_85 (by decide) ?_
          exact g_sub [0] rfl (kX1_readNumber_b92 C  ih  h)
set_option maxHeartbeats 1000000 in
set_option maxRecDepth 20000 in
theorem kX1_readNumber_e {p : Program} {l : Launch} {e : Env} {s : State} {m : MethodId} {args : Array Value} {below : List Frame} {meth : Method} {c : Code} {Z : Sh} (C : Cx p s m args meth c cX1_readNumber 1 wsX1_readNumber RX1 none Z layX) {σ : Sg}  {u : Sg}  (h : fX1_readNumber σ = some u) : G p l e rX1_readNumber s m args below meth c 1 Z layX (MQ below (QV Z layX u s.heap.size) args s 0 0 (pA Z layX s.heap.size)) σ 0 [(0, .ref (ad Z 31))] [] := by
  unfold fX1_readNumber at h
  refine g_aload_n (pc := 0) C dX1_readNumber_0 rfl 0 rfl ?_
  refine g_iconst (pc := 1) C (v := (2 : Int32)) dX1_readNumber_1 (by decide) ?_
  obtain ⟨σ1, eσ1, h⟩ := bs h
  refine g_puti (pc := 2) C (Cn := RX1) (T := TX1) (N := 9) (ci := 1) (k := 31) (j := 6) uX1_readNumber_X1 (by rfl) rfl (by decide) (by decide +kernel) tyX1 tyX1_ok nmX1 rfl (by decide +kernel) rfl eσ1 dX1_readNumber_2 ?_
  refine g_aload_n (pc := 5) C dX1_readNumber_5 rfl 0 rfl ?_
  refine g_iconst (pc := 6) C (v := (0 : Int32)) dX1_readNumber_6 (by decide) ?_
  obtain ⟨σ2, eσ2, h⟩ := bs h
  refine g_puti (pc := 7) C (Cn := RX1) (T := TX1) (N := 9) (ci := 1) (k := 31) (j := 7) uX1_readNumber_X1 (by rfl) rfl (by decide) (by decide +kernel) tyX1 tyX1_ok nmX1 rfl (by decide +kernel) rfl eσ2 dX1_readNumber_7 ?_
  refine g_aload_n (pc := 10) C dX1_readNumber_10 rfl 0 rfl ?_
  refine g_aload_n (pc := 11) C dX1_readNumber_11 rfl 0 rfl ?_
  refine g_geti (pc := 12) C (Cn := RX1) (T := TX1) (N := 9) (ci := 1) (k := 31) (j := 4) uX1_readNumber_X1 (by rfl) rfl (by decide) (by decide +kernel) (q := 0) rfl dX1_readNumber_12 ?_
  obtain ⟨σ3, eσ3, h⟩ := bs h
  refine g_puti (pc := 15) C (Cn := RX1) (T := TX1) (N := 9) (ci := 1) (k := 31) (j := 5) uX1_readNumber_X1 (by rfl) rfl (by decide) (by decide +kernel) tyX1 tyX1_ok nmX1 rfl (by decide +kernel) rfl eσ3 dX1_readNumber_15 ?_
  exact g_sub [0] rfl (kX1_readNumber_l18 C   _ _ h)
theorem mX1_readNumber (l : Launch) (Z : Sh) {σ : Sg}  {u : Sg}  (h : fX1_readNumber σ = some u) : MV l Z layX yX1_readNumber wsX1_readNumber rX1_readNumber [.ref (ad Z 31)] σ u :=
  MV.of (cc := cX1_readNumber) (maxL := 1) (ret := none) (by decide) rfl (Nat.le_of_ble_eq_true rfl) (fun p e s m below meth c C => kX1_readNumber_e C  h)

def rX1_advance : Room := { frames := 2, cells := 0, slots := 0, locals := 43 }
theorem uX1_advance_X1 : ∀ w ∈ wsX10, w ∈ wsX1_advance := by decide +kernel
theorem uX1_advance_X5 : ∀ w ∈ wsX50, w ∈ wsX1_advance := by decide +kernel
def fX1_advance_b59   (σ : Sg) : Option (Sg) := (pf σ 31 5 ((σ 31 4) + (1 : Int32))).bind fun σ1 => (fX5_at σ1 (σ1 31 4)).bind fun t2 => if (σ1 31 4) < (σ1 32 1) then (fX1_isLetter t2).bind fun t3 => if t3 = 0 then (fX1_isFigure t2).bind fun t4 => if t4 = 0 then if t2 = (59 : Int32) then (pf σ1 31 6 (3 : Int32)).bind fun σ7 => some σ7 else (pf σ1 31 6 (4 : Int32)).bind fun σ5 => (fX1_refuse σ5 (1 : Int32) (σ5 31 4)).bind fun σ6 => some σ6 else (fX1_readNumber σ1).bind fun σ8 => some σ8 else (pf σ1 31 6 (1 : Int32)).bind fun σ9 => (fX1_endOfLetters σ9 (σ9 31 4)).bind fun t10 => (pf σ9 31 5 t10).bind fun σ11 => some σ11 else (pf σ1 31 6 (0 : Int32)).bind fun σ12 => (pf σ12 31 5 (σ12 31 4)).bind fun σ13 => some σ13
def fX1_advance_l16   : Nat → Sg → Option (Sg)
  | 0, _ => none
  | n + 1, σ => if (σ 32 1) ≤ (σ 31 4) then fX1_advance_b59 σ else (fX5_at σ (σ 31 4)).bind fun t1 => if t1 = (32 : Int32) then (pf σ 31 4 ((σ 31 4) + (1 : Int32))).bind fun σ2 => fX1_advance_l16 n σ2 else fX1_advance_b59 σ
def fX1_advance (σ : Sg)  : Option (Sg) := if (σ 31 2) = 0 then (pf σ 31 4 (σ 31 5)).bind fun σ1 => fX1_advance_l16 2000 σ1 else some σ
set_option maxHeartbeats 1000000 in
set_option maxRecDepth 20000 in
theorem kX1_advance_b59 {p : Program} {l : Launch} {e : Env} {s : State} {m : MethodId} {args : Array Value} {below : List Frame} {meth : Method} {c : Code} {Z : Sh} (C : Cx p s m args meth c cX1_advance 2 wsX1_advance RX1 none Z layX)  {u : Sg}   {σ : Sg} (h : fX1_advance_b59 σ = some u) : G p l e rX1_advance s m args below meth c 2 Z layX (MQ below (QV Z layX u s.heap.size) args s 0 0 (pA Z layX s.heap.size)) σ 59 [(0, .ref (ad Z 31))] [] := by
  unfold fX1_advance_b59 at h
  refine g_aload_n (pc := 59) C dX1_advance_59 rfl 0 rfl ?_
  refine g_aload_n (pc := 60) C dX1_advance_60 rfl 0 rfl ?_
  refine g_geti (pc := 61) C (Cn := RX1) (T := TX1) (N := 9) (ci := 1) (k := 31) (j := 4) uX1_advance_X1 (by rfl) rfl (by decide) (by decide +kernel) (q := 0) rfl dX1_advance_61 ?_
  refine g_iconst (pc := 64) C (v := (1 : Int32)) dX1_advance_64 (by decide) ?_
  refine g_iadd (pc := 65) C dX1_advance_65 ?_
  obtain ⟨σ1, eσ1, h⟩ := bs h
  refine g_puti (pc := 66) C (Cn := RX1) (T := TX1) (N := 9) (ci := 1) (k := 31) (j := 5) uX1_advance_X1 (by rfl) rfl (by decide) (by decide +kernel) tyX1 tyX1_ok nmX1 rfl (by decide +kernel) rfl eσ1 dX1_advance_66 ?_
  refine g_aload_n (pc := 69) C dX1_advance_69 rfl 0 rfl ?_
  refine g_getr (pc := 70) C (Cn := RX1) (T := TX1) (N := 9) (ci := 1) (k := 31) (j := 0) uX1_advance_X1 (by rfl) rfl (by decide) (by decide +kernel) (q := 32) rfl dX1_advance_70 ?_
  refine g_aload_n (pc := 73) C dX1_advance_73 rfl 0 rfl ?_
  refine g_geti (pc := 74) C (Cn := RX1) (T := TX1) (N := 9) (ci := 1) (k := 31) (j := 4) uX1_advance_X1 (by rfl) rfl (by decide) (by decide +kernel) (q := 0) rfl dX1_advance_74 ?_
  obtain ⟨t2, et2, h⟩ := bs h
  refine g_callVi (pc := 77) C (As := [.int (σ1 31 4)]) (rest := []) (k := 32) (by rfl) (by rfl) (cwV 1 C.2.2.2.2.2.1 gX1_advance_X5_at rfl rfl rfl (by decide +kernel) ⟨Nat.le_of_ble_eq_true rfl, Nat.le_of_ble_eq_true rfl⟩) (mX5_at l Z  et2) rfl rfl (Nat.le_of_ble_eq_true rfl) dX1_advance_77 ?_
  refine g_istore_n (pc := 80) C (lv2 := [(1, .int t2), (0, .ref (ad Z 31))]) dX1_advance_80 rfl (by decide) rfl ?_
  refine g_aload_n (pc := 81) C dX1_advance_81 rfl 1 rfl ?_
  refine g_geti (pc := 82) C (Cn := RX1) (T := TX1) (N := 9) (ci := 1) (k := 31) (j := 4) uX1_advance_X1 (by rfl) rfl (by decide) (by decide +kernel) (q := 0) rfl dX1_advance_82 ?_
  refine g_aload_n (pc := 85) C dX1_advance_85 rfl 1 rfl ?_
  refine g_getr (pc := 86) C (Cn := RX1) (T := TX1) (N := 9) (ci := 1) (k := 31) (j := 0) uX1_advance_X1 (by rfl) rfl (by decide) (by decide +kernel) (q := 32) rfl dX1_advance_86 ?_
  refine g_getiN (pc := 89) C (host := "MoundVotes") (Cn := RX5) (T := TX5) (N := 2) (ci := 5) (k := 32) (j := 1) uX1_advance_X5 (by rfl) rfl (by decide) (by decide +kernel) (q := 0) rfl dX1_advance_89 ?_
  refine g_icmp_lt (pc := 92) C (tgt := 111) dX1_advance_92 (by decide) h (fun hc92 h => ?_) (fun hc92 h => ?_)
  · refine g_iload_n (pc := 111) C dX1_advance_111 rfl 0 rfl ?_
    obtain ⟨t3, et3, h⟩ := bs h
    refine g_callSi (pc := 112) C (As := [.int t2]) (rest := []) (va_cwS 1 C.2.2.2.2.2.1 gX1_advance_X1_isLetter rfl rfl rfl (by decide +kernel) ⟨Nat.le_of_ble_eq_true rfl, Nat.le_of_ble_eq_true rfl⟩) (mX1_isLetter l Z  et3) rfl rfl (Nat.le_of_ble_eq_true rfl) dX1_advance_112 ?_
    refine g_if_eq (pc := 115) C (tgt := 138) dX1_advance_115 (by decide) h (fun hc115 h => ?_) (fun hc115 h => ?_)
    · refine g_iload_n (pc := 138) C dX1_advance_138 rfl 0 rfl ?_
      obtain ⟨t4, et4, h⟩ := bs h
      refine g_callSi (pc := 139) C (As := [.int t2]) (rest := []) (va_cwS 1 C.2.2.2.2.2.1 gX1_advance_X1_isFigure rfl rfl rfl (by decide +kernel) ⟨Nat.le_of_ble_eq_true rfl, Nat.le_of_ble_eq_true rfl⟩) (mX1_isFigure l Z  et4) rfl rfl (Nat.le_of_ble_eq_true rfl) dX1_advance_139 ?_
      refine g_if_eq (pc := 142) C (tgt := 152) dX1_advance_142 (by decide) h (fun hc142 h => ?_) (fun hc142 h => ?_)
      · refine g_iload_n (pc := 152) C dX1_advance_152 rfl 0 rfl ?_
        refine g_bipush (pc := 153) C (v := (59 : Int32)) dX1_advance_153 (by decide) ?_
        refine g_icmp_ne (pc := 155) C (tgt := 166) dX1_advance_155 (by decide) h (fun hc155 h => ?_) (fun hc155 h => ?_)
        · refine g_aload_n (pc := 166) C dX1_advance_166 rfl 1 rfl ?_
          refine g_iconst (pc := 167) C (v := (4 : Int32)) dX1_advance_167 (by decide) ?_
          obtain ⟨σ5, eσ5, h⟩ := bs h
          refine g_puti (pc := 168) C (Cn := RX1) (T := TX1) (N := 9) (ci := 1) (k := 31) (j := 6) uX1_advance_X1 (by rfl) rfl (by decide) (by decide +kernel) tyX1 tyX1_ok nmX1 rfl (by decide +kernel) rfl eσ5 dX1_advance_168 ?_
          refine g_aload_n (pc := 171) C dX1_advance_171 rfl 1 rfl ?_
          refine g_iconst (pc := 172) C (v := (1 : Int32)) dX1_advance_172 (by decide) ?_
          refine g_aload_n (pc := 173) C dX1_advance_173 rfl 1 rfl ?_
          refine g_geti (pc := 174) C (Cn := RX1) (T := TX1) (N := 9) (ci := 1) (k := 31) (j := 4) uX1_advance_X1 (by rfl) rfl (by decide) (by decide +kernel) (q := 0) rfl dX1_advance_174 ?_
          obtain ⟨σ6, eσ6, h⟩ := bs h
          refine g_callVv (pc := 177) C (As := [.int (1 : Int32), .int (σ5 31 4)]) (rest := []) (k := 31) (by rfl) (by rfl) (cwV 2 C.2.2.2.2.2.1 gX1_advance_X1_refuse rfl rfl rfl (by decide +kernel) ⟨Nat.le_of_ble_eq_true rfl, Nat.le_of_ble_eq_true rfl⟩) (mX1_refuse l Z  eσ6) rfl rfl (Nat.le_of_ble_eq_true rfl) dX1_advance_177 ?_
          exact g_vret C dX1_advance_180 (Option.some.inj h)
        · refine g_aload_n (pc := 158) C dX1_advance_158 rfl 1 rfl ?_
          refine g_iconst (pc := 159) C (v := (3 : Int32)) dX1_advance_159 (by decide) ?_
          obtain ⟨σ7, eσ7, h⟩ := bs h
          refine g_puti (pc := 160) C (Cn := RX1) (T := TX1) (N := 9) (ci := 1) (k := 31) (j := 6) uX1_advance_X1 (by rfl) rfl (by decide) (by decide +kernel) tyX1 tyX1_ok nmX1 rfl (by decide +kernel) rfl eσ7 dX1_advance_160 ?_
          refine g_goto (pc := 163) C (tgt := 180) dX1_advance_163 (by decide) ?_
          exact g_vret C dX1_advance_180 (Option.some.inj h)
      · refine g_aload_n (pc := 145) C dX1_advance_145 rfl 1 rfl ?_
        obtain ⟨σ8, eσ8, h⟩ := bs h
        refine g_callVv (pc := 146) C (As := []) (rest := []) (k := 31) (by rfl) (by rfl) (cwV 0 C.2.2.2.2.2.1 gX1_advance_X1_readNumber rfl rfl rfl (by decide +kernel) ⟨Nat.le_of_ble_eq_true rfl, Nat.le_of_ble_eq_true rfl⟩) (mX1_readNumber l Z  eσ8) rfl rfl (Nat.le_of_ble_eq_true rfl) dX1_advance_146 ?_
        refine g_goto (pc := 149) C (tgt := 180) dX1_advance_149 (by decide) ?_
        exact g_vret C dX1_advance_180 (Option.some.inj h)
    · refine g_aload_n (pc := 118) C dX1_advance_118 rfl 1 rfl ?_
      refine g_iconst (pc := 119) C (v := (1 : Int32)) dX1_advance_119 (by decide) ?_
      obtain ⟨σ9, eσ9, h⟩ := bs h
      refine g_puti (pc := 120) C (Cn := RX1) (T := TX1) (N := 9) (ci := 1) (k := 31) (j := 6) uX1_advance_X1 (by rfl) rfl (by decide) (by decide +kernel) tyX1 tyX1_ok nmX1 rfl (by decide +kernel) rfl eσ9 dX1_advance_120 ?_
      refine g_aload_n (pc := 123) C dX1_advance_123 rfl 1 rfl ?_
      refine g_aload_n (pc := 124) C dX1_advance_124 rfl 1 rfl ?_
      refine g_aload_n (pc := 125) C dX1_advance_125 rfl 1 rfl ?_
      refine g_geti (pc := 126) C (Cn := RX1) (T := TX1) (N := 9) (ci := 1) (k := 31) (j := 4) uX1_advance_X1 (by rfl) rfl (by decide) (by decide +kernel) (q := 0) rfl dX1_advance_126 ?_
      obtain ⟨t10, et10, h⟩ := bs h
      refine g_callVi (pc := 129) C (As := [.int (σ9 31 4)]) (rest := [.ref (ad Z 31)]) (k := 31) (by rfl) (by rfl) (cwV 1 C.2.2.2.2.2.1 gX1_advance_X1_endOfLetters rfl rfl rfl (by decide +kernel) ⟨Nat.le_of_ble_eq_true rfl, Nat.le_of_ble_eq_true rfl⟩) (mX1_endOfLetters l Z  et10) rfl rfl (Nat.le_of_ble_eq_true rfl) dX1_advance_129 ?_
      obtain ⟨σ11, eσ11, h⟩ := bs h
      refine g_puti (pc := 132) C (Cn := RX1) (T := TX1) (N := 9) (ci := 1) (k := 31) (j := 5) uX1_advance_X1 (by rfl) rfl (by decide) (by decide +kernel) tyX1 tyX1_ok nmX1 rfl (by decide +kernel) rfl eσ11 dX1_advance_132 ?_
      refine g_goto (pc := 135) C (tgt := 180) dX1_advance_135 (by decide) ?_
      exact g_vret C dX1_advance_180 (Option.some.inj h)
  · refine g_aload_n (pc := 95) C dX1_advance_95 rfl 1 rfl ?_
    refine g_iconst (pc := 96) C (v := (0 : Int32)) dX1_advance_96 (by decide) ?_
    obtain ⟨σ12, eσ12, h⟩ := bs h
    refine g_puti (pc := 97) C (Cn := RX1) (T := TX1) (N := 9) (ci := 1) (k := 31) (j := 6) uX1_advance_X1 (by rfl) rfl (by decide) (by decide +kernel) tyX1 tyX1_ok nmX1 rfl (by decide +kernel) rfl eσ12 dX1_advance_97 ?_
    refine g_aload_n (pc := 100) C dX1_advance_100 rfl 1 rfl ?_
    refine g_aload_n (pc := 101) C dX1_advance_101 rfl 1 rfl ?_
    refine g_geti (pc := 102) C (Cn := RX1) (T := TX1) (N := 9) (ci := 1) (k := 31) (j := 4) uX1_advance_X1 (by rfl) rfl (by decide) (by decide +kernel) (q := 0) rfl dX1_advance_102 ?_
    obtain ⟨σ13, eσ13, h⟩ := bs h
    refine g_puti (pc := 105) C (Cn := RX1) (T := TX1) (N := 9) (ci := 1) (k := 31) (j := 5) uX1_advance_X1 (by rfl) rfl (by decide) (by decide +kernel) tyX1 tyX1_ok nmX1 rfl (by decide +kernel) rfl eσ13 dX1_advance_105 ?_
    refine g_goto (pc := 108) C (tgt := 180) dX1_advance_108 (by decide) ?_
    exact g_vret C dX1_advance_180 (Option.some.inj h)
set_option maxHeartbeats 1000000 in
set_option maxRecDepth 20000 in
theorem kX1_advance_l16 {p : Program} {l : Launch} {e : Env} {s : State} {m : MethodId} {args : Array Value} {below : List Frame} {meth : Method} {c : Code} {Z : Sh} (C : Cx p s m args meth c cX1_advance 2 wsX1_advance RX1 none Z layX)  {u : Sg}   : ∀ (n : Nat) (σ : Sg), fX1_advance_l16 n σ = some u → G p l e rX1_advance s m args below meth c 2 Z layX (MQ below (QV Z layX u s.heap.size) args s 0 0 (pA Z layX s.heap.size)) σ 16 [(0, .ref (ad Z 31))] [] := by
  intro n
  induction n with
  | zero => intro σ h; exact absurd h (by simp [fX1_advance_l16])
  | succ n ih =>
    intro σ h
    rw [fX1_advance_l16] at h
    refine g_aload_n (pc := 16) C dX1_advance_16 rfl 0 rfl ?_
    refine g_geti (pc := 17) C (Cn := RX1) (T := TX1) (N := 9) (ci := 1) (k := 31) (j := 4) uX1_advance_X1 (by rfl) rfl (by decide) (by decide +kernel) (q := 0) rfl dX1_advance_17 ?_
    refine g_aload_n (pc := 20) C dX1_advance_20 rfl 0 rfl ?_
    refine g_getr (pc := 21) C (Cn := RX1) (T := TX1) (N := 9) (ci := 1) (k := 31) (j := 0) uX1_advance_X1 (by rfl) rfl (by decide) (by decide +kernel) (q := 32) rfl dX1_advance_21 ?_
    refine g_getiN (pc := 24) C (host := "MoundVotes") (Cn := RX5) (T := TX5) (N := 2) (ci := 5) (k := 32) (j := 1) uX1_advance_X5 (by rfl) rfl (by decide) (by decide +kernel) (q := 0) rfl dX1_advance_24 ?_
    refine g_icmp_ge (pc := 27) C (tgt := 59) dX1_advance_27 (by decide) h (fun hc27 h => ?_) (fun hc27 h => ?_)
    · exact g_sub [0] rfl (kX1_advance_b59 C    h)
    · refine g_aload_n (pc := 30) C dX1_advance_30 rfl 0 rfl ?_
      refine g_getr (pc := 31) C (Cn := RX1) (T := TX1) (N := 9) (ci := 1) (k := 31) (j := 0) uX1_advance_X1 (by rfl) rfl (by decide) (by decide +kernel) (q := 32) rfl dX1_advance_31 ?_
      refine g_aload_n (pc := 34) C dX1_advance_34 rfl 0 rfl ?_
      refine g_geti (pc := 35) C (Cn := RX1) (T := TX1) (N := 9) (ci := 1) (k := 31) (j := 4) uX1_advance_X1 (by rfl) rfl (by decide) (by decide +kernel) (q := 0) rfl dX1_advance_35 ?_
      obtain ⟨t1, et1, h⟩ := bs h
      refine g_callVi (pc := 38) C (As := [.int (σ 31 4)]) (rest := []) (k := 32) (by rfl) (by rfl) (cwV 1 C.2.2.2.2.2.1 gX1_advance_X5_at rfl rfl rfl (by decide +kernel) ⟨Nat.le_of_ble_eq_true rfl, Nat.le_of_ble_eq_true rfl⟩) (mX5_at l Z  et1) rfl rfl (Nat.le_of_ble_eq_true rfl) dX1_advance_38 ?_
      refine g_bipush (pc := 41) C (v := (32 : Int32)) dX1_advance_41 (by decide) ?_
      refine g_icmp_ne (pc := 43) C (tgt := 59) dX1_advance_43 (by decide) h (fun hc43 h => ?_) (fun hc43 h => ?_)
      · exact g_sub [0] rfl (kX1_advance_b59 C    h)
      · refine g_aload_n (pc := 46) C dX1_advance_46 rfl 0 rfl ?_
        refine g_dup (pc := 47) C rfl dX1_advance_47 ?_
        refine g_geti (pc := 48) C (Cn := RX1) (T := TX1) (N := 9) (ci := 1) (k := 31) (j := 4) uX1_advance_X1 (by rfl) rfl (by decide) (by decide +kernel) (q := 0) rfl dX1_advance_48 ?_
        refine g_iconst (pc := 51) C (v := (1 : Int32)) dX1_advance_51 (by decide) ?_
        refine g_iadd (pc := 52) C dX1_advance_52 ?_
        obtain ⟨σ2, eσ2, h⟩ := bs h
        refine g_puti (pc := 53) C (Cn := RX1) (T := TX1) (N := 9) (ci := 1) (k := 31) (j := 4) uX1_advance_X1 (by rfl) rfl (by decide) (by decide +kernel) tyX1 tyX1_ok nmX1 rfl (by decide +kernel) rfl eσ2 dX1_advance_53 ?_
        refine g_goto (pc := 56) C (tgt := 16) dX1_advance_56 (by decide) ?_
        exact g_sub [0] rfl (ih _ h)
set_option maxHeartbeats 1000000 in
set_option maxRecDepth 20000 in
theorem kX1_advance_e {p : Program} {l : Launch} {e : Env} {s : State} {m : MethodId} {args : Array Value} {below : List Frame} {meth : Method} {c : Code} {Z : Sh} (C : Cx p s m args meth c cX1_advance 2 wsX1_advance RX1 none Z layX) {σ : Sg}  {u : Sg}  (h : fX1_advance σ = some u) : G p l e rX1_advance s m args below meth c 2 Z layX (MQ below (QV Z layX u s.heap.size) args s 0 0 (pA Z layX s.heap.size)) σ 0 [(0, .ref (ad Z 31))] [] := by
  unfold fX1_advance at h
  refine g_aload_n (pc := 0) C dX1_advance_0 rfl 0 rfl ?_
  refine g_geti (pc := 1) C (Cn := RX1) (T := TX1) (N := 9) (ci := 1) (k := 31) (j := 2) uX1_advance_X1 (by rfl) rfl (by decide) (by decide +kernel) (q := 0) rfl dX1_advance_1 ?_
  refine g_if_eq (pc := 4) C (tgt := 8) dX1_advance_4 (by decide) h (fun hc4 h => ?_) (fun hc4 h => ?_)
  · refine g_aload_n (pc := 8) C dX1_advance_8 rfl 0 rfl ?_
    refine g_aload_n (pc := 9) C dX1_advance_9 rfl 0 rfl ?_
    refine g_geti (pc := 10) C (Cn := RX1) (T := TX1) (N := 9) (ci := 1) (k := 31) (j := 5) uX1_advance_X1 (by rfl) rfl (by decide) (by decide +kernel) (q := 0) rfl dX1_advance_10 ?_
    obtain ⟨σ1, eσ1, h⟩ := bs h
    refine g_puti (pc := 13) C (Cn := RX1) (T := TX1) (N := 9) (ci := 1) (k := 31) (j := 4) uX1_advance_X1 (by rfl) rfl (by decide) (by decide +kernel) tyX1 tyX1_ok nmX1 rfl (by decide +kernel) rfl eσ1 dX1_advance_13 ?_
    exact g_sub [0] rfl (kX1_advance_l16 C   _ _ h)
  · exact g_vret C dX1_advance_7 (Option.some.inj h)
theorem mX1_advance (l : Launch) (Z : Sh) {σ : Sg}  {u : Sg}  (h : fX1_advance σ = some u) : MV l Z layX yX1_advance wsX1_advance rX1_advance [.ref (ad Z 31)] σ u :=
  MV.of (cc := cX1_advance) (maxL := 2) (ret := none) (by decide) rfl (Nat.le_of_ble_eq_true rfl) (fun p e s m below meth c C => kX1_advance_e C  h)

def rX1_isName : Room := { frames := 4, cells := 0, slots := 0, locals := 85 }
theorem uX1_isName_X1 : ∀ w ∈ wsX10, w ∈ wsX1_isName := by decide +kernel
def fX1_isName_l28 (σ : Sg) (i0 : Nat)  : Nat → Int32 → Option (Int32)
  | 0, _ => none
  | n + 1, v2 => if (sLen i0) ≤ v2 then some (1 : Int32) else (fX5_at σ ((σ 31 4) + v2)).bind fun t1 => (rd (sBy i0) (lenS.getD i0 0) v2).bind fun t2 => if t1 = t2 then fX1_isName_l28 σ i0 n (v2 + 1) else some (0 : Int32)
def fX1_isName (σ : Sg) (i0 : Nat) : Option (Int32) := if (σ 31 6) = (1 : Int32) then if ((σ 31 5) - (σ 31 4)) = (sLen i0) then fX1_isName_l28 σ i0 2000 (0 : Int32) else some (0 : Int32) else some (0 : Int32)
set_option maxHeartbeats 1000000 in
set_option maxRecDepth 20000 in
theorem kX1_isName_l28 {p : Program} {l : Launch} {e : Env} {s : State} {m : MethodId} {args : Array Value} {below : List Frame} {meth : Method} {c : Code} {Z : Sh} (C : Cx p s m args meth c cX1_isName 3 wsX1_isName RX1 (some .boolean) Z layX) {σ : Sg} {i0 : Nat} {u : Int32} (h_i0 : i0 < 6)  : ∀ (n : Nat) (v2 : Int32), fX1_isName_l28 σ i0 n v2 = some u → G p l e rX1_isName s m args below meth c 3 Z layX (MQ below (QI Z layX σ u s.heap.size) args s 0 0 (pA Z layX s.heap.size)) σ 28 [(0, .ref (ad Z 31)), (1, .ref (sK Z i0)), (2, .int v2)] [] := by
  intro n
  induction n with
  | zero => intro v2 h; exact absurd h (by simp [fX1_isName_l28])
  | succ n ih =>
    intro v2 h
    rw [fX1_isName_l28] at h
    refine g_iload_n (pc := 28) C dX1_isName_28 rfl 2 rfl ?_
    refine g_aload_n (pc := 29) C dX1_isName_29 rfl 1 rfl ?_
    refine g_callVs (pc := 30) C (As := []) (rest := [.int v2]) h_i0 (cwV 0 C.2.2.2.2.2.1 gX1_isName_J0_length_8abf5 rfl rfl rfl (by decide +kernel) ⟨Nat.le_of_ble_eq_true rfl, Nat.le_of_ble_eq_true rfl⟩) (mJ0_length_8abf5 l Z h_i0) rfl rfl (Nat.le_of_ble_eq_true rfl) dX1_isName_30 ?_
    refine g_icmp_ge (pc := 33) C (tgt := 65) dX1_isName_33 (by decide) h (fun hc33 h => ?_) (fun hc33 h => ?_)
    · refine g_iconst (pc := 65) C (v := (1 : Int32)) dX1_isName_65 (by decide) ?_
      exact g_zret C dX1_isName_66 rfl (rz1.trans h)
    · refine g_aload_n (pc := 36) C dX1_isName_36 rfl 0 rfl ?_
      refine g_getr (pc := 37) C (Cn := RX1) (T := TX1) (N := 9) (ci := 1) (k := 31) (j := 0) uX1_isName_X1 (by rfl) rfl (by decide) (by decide +kernel) (q := 32) rfl dX1_isName_37 ?_
      refine g_aload_n (pc := 40) C dX1_isName_40 rfl 0 rfl ?_
      refine g_geti (pc := 41) C (Cn := RX1) (T := TX1) (N := 9) (ci := 1) (k := 31) (j := 4) uX1_isName_X1 (by rfl) rfl (by decide) (by decide +kernel) (q := 0) rfl dX1_isName_41 ?_
      refine g_iload_n (pc := 44) C dX1_isName_44 rfl 2 rfl ?_
      refine g_iadd (pc := 45) C dX1_isName_45 ?_
      obtain ⟨t1, et1, h⟩ := bs h
      refine g_callVi (pc := 46) C (As := [.int ((σ 31 4) + v2)]) (rest := []) (k := 32) (by rfl) (by rfl) (cwV 1 C.2.2.2.2.2.1 gX1_isName_X5_at rfl rfl rfl (by decide +kernel) ⟨Nat.le_of_ble_eq_true rfl, Nat.le_of_ble_eq_true rfl⟩) (mX5_at l Z  et1) rfl rfl (Nat.le_of_ble_eq_true rfl) dX1_isName_46 ?_
      refine g_aload_n (pc := 49) C dX1_isName_49 rfl 1 rfl ?_
      refine g_iload_n (pc := 50) C dX1_isName_50 rfl 2 rfl ?_
      obtain ⟨t2, et2, h⟩ := bs h
      refine g_callVs (pc := 51) C (As := [.int v2]) (rest := [.int t1]) h_i0 (cwV 1 C.2.2.2.2.2.1 gX1_isName_J0_charAt_5068e rfl rfl rfl (by decide +kernel) ⟨Nat.le_of_ble_eq_true rfl, Nat.le_of_ble_eq_true rfl⟩) (mJ0_charAt_5068e l Z h_i0 et2) rfl rfl (Nat.le_of_ble_eq_true rfl) dX1_isName_51 ?_
      refine g_icmp_eq (pc := 54) C (tgt := 59) dX1_isName_54 (by decide) h (fun hc54 h => ?_) (fun hc54 h => ?_)
      · refine g_iinc (pc := 59) C (j := 2) (v := (v2 + 1)) (lv2 := [(2, .int (v2 + 1)), (0, .ref (ad Z 31)), (1, .ref (sK Z i0))]) dX1_isName_59 rfl rfl (by decide) rfl ?_
        refine g_goto (pc := 62) C (tgt := 28) dX1_isName_62 (by decide) ?_
        exact g_sub [1, 2, 0] rfl (ih _ h)
      · refine g_iconst (pc := 57) C (v := (0 : Int32)) dX1_isName_57 (by decide) ?_
        exact g_zret C dX1_isName_58 rfl (rz0.trans h)
set_option maxHeartbeats 1000000 in
set_option maxRecDepth 20000 in
theorem kX1_isName_e {p : Program} {l : Launch} {e : Env} {s : State} {m : MethodId} {args : Array Value} {below : List Frame} {meth : Method} {c : Code} {Z : Sh} (C : Cx p s m args meth c cX1_isName 3 wsX1_isName RX1 (some .boolean) Z layX) {σ : Sg} {i0 : Nat} {u : Int32} (h_i0 : i0 < 6) (h : fX1_isName σ i0 = some u) : G p l e rX1_isName s m args below meth c 3 Z layX (MQ below (QI Z layX σ u s.heap.size) args s 0 0 (pA Z layX s.heap.size)) σ 0 [(0, .ref (ad Z 31)), (1, .ref (sK Z i0))] [] := by
  unfold fX1_isName at h
  refine g_aload_n (pc := 0) C dX1_isName_0 rfl 0 rfl ?_
  refine g_geti (pc := 1) C (Cn := RX1) (T := TX1) (N := 9) (ci := 1) (k := 31) (j := 6) uX1_isName_X1 (by rfl) rfl (by decide) (by decide +kernel) (q := 0) rfl dX1_isName_1 ?_
  refine g_iconst (pc := 4) C (v := (1 : Int32)) dX1_isName_4 (by decide) ?_
  refine g_icmp_ne (pc := 5) C (tgt := 24) dX1_isName_5 (by decide) h (fun hc5 h => ?_) (fun hc5 h => ?_)
  · refine g_iconst (pc := 24) C (v := (0 : Int32)) dX1_isName_24 (by decide) ?_
    exact g_zret C dX1_isName_25 rfl (rz0.trans h)
  · refine g_aload_n (pc := 8) C dX1_isName_8 rfl 0 rfl ?_
    refine g_geti (pc := 9) C (Cn := RX1) (T := TX1) (N := 9) (ci := 1) (k := 31) (j := 5) uX1_isName_X1 (by rfl) rfl (by decide) (by decide +kernel) (q := 0) rfl dX1_isName_9 ?_
    refine g_aload_n (pc := 12) C dX1_isName_12 rfl 0 rfl ?_
    refine g_geti (pc := 13) C (Cn := RX1) (T := TX1) (N := 9) (ci := 1) (k := 31) (j := 4) uX1_isName_X1 (by rfl) rfl (by decide) (by decide +kernel) (q := 0) rfl dX1_isName_13 ?_
    refine g_isub (pc := 16) C dX1_isName_16 ?_
    refine g_aload_n (pc := 17) C dX1_isName_17 rfl 1 rfl ?_
    refine g_callVs (pc := 18) C (As := []) (rest := [.int ((σ 31 5) - (σ 31 4))]) h_i0 (cwV 0 C.2.2.2.2.2.1 gX1_isName_J0_length_8abf5 rfl rfl rfl (by decide +kernel) ⟨Nat.le_of_ble_eq_true rfl, Nat.le_of_ble_eq_true rfl⟩) (mJ0_length_8abf5 l Z h_i0) rfl rfl (Nat.le_of_ble_eq_true rfl) dX1_isName_18 ?_
    refine g_icmp_eq (pc := 21) C (tgt := 26) dX1_isName_21 (by decide) h (fun hc21 h => ?_) (fun hc21 h => ?_)
    · refine g_iconst (pc := 26) C (v := (0 : Int32)) dX1_isName_26 (by decide) ?_
      refine g_istore_n (pc := 27) C (lv2 := [(2, .int (0 : Int32)), (0, .ref (ad Z 31)), (1, .ref (sK Z i0))]) dX1_isName_27 rfl (by decide) rfl ?_
      exact g_sub [1, 2, 0] rfl (kX1_isName_l28 C h_i0  _ _ h)
    · refine g_iconst (pc := 24) C (v := (0 : Int32)) dX1_isName_24 (by decide) ?_
      exact g_zret C dX1_isName_25 rfl (rz0.trans h)
theorem mX1_isName (l : Launch) (Z : Sh) {σ : Sg} {i0 : Nat} {u : Int32} (h_i0 : i0 < 6) (h : fX1_isName σ i0 = some u) : MI l Z layX yX1_isName wsX1_isName rX1_isName [.ref (ad Z 31), .ref (sK Z i0)] σ σ u :=
  MI.of (cc := cX1_isName) (maxL := 3) (ret := (some .boolean)) (by decide) rfl (Nat.le_of_ble_eq_true rfl) (fun p e s m below meth c C => kX1_isName_e C h_i0 h)

def rX1_beginning : Room := { frames := 5, cells := 0, slots := 0, locals := 107 }
def fX1_beginning (σ : Sg)  : Option (Int32) := (fX1_isName σ 0).bind fun t1 => if t1 = 0 then (fX1_isName σ 1).bind fun t2 => if t2 = 0 then (fX1_isName σ 2).bind fun t3 => if t3 = 0 then (fX1_isName σ 3).bind fun t4 => if t4 = 0 then (fX1_isName σ 4).bind fun t5 => if t5 = 0 then (fX1_isName σ 5).bind fun t6 => if t6 = 0 then some (-4 : Int32) else some (5 : Int32) else some (4 : Int32) else some (3 : Int32) else some (2 : Int32) else some (1 : Int32) else some (0 : Int32)
set_option maxHeartbeats 1000000 in
set_option maxRecDepth 20000 in
theorem kX1_beginning_e {p : Program} {l : Launch} {e : Env} {s : State} {m : MethodId} {args : Array Value} {below : List Frame} {meth : Method} {c : Code} {Z : Sh} (C : Cx p s m args meth c cX1_beginning 1 wsX1_beginning RX1 (some .int) Z layX) {σ : Sg}  {u : Int32}  (h : fX1_beginning σ = some u) : G p l e rX1_beginning s m args below meth c 1 Z layX (MQ below (QI Z layX σ u s.heap.size) args s 0 0 (pA Z layX s.heap.size)) σ 0 [(0, .ref (ad Z 31))] [] := by
  unfold fX1_beginning at h
  refine g_aload_n (pc := 0) C dX1_beginning_0 rfl 0 rfl ?_
  refine g_ldcS (pc := 1) C (i := 0) (by decide) rfl dX1_beginning_1 ?_
  obtain ⟨t1, et1, h⟩ := bs h
  refine g_callVi (pc := 3) C (As := [.ref (sK Z 0)]) (rest := []) (k := 31) (by rfl) (by rfl) (cwV 1 C.2.2.2.2.2.1 gX1_beginning_X1_isName rfl rfl rfl (by decide +kernel) ⟨Nat.le_of_ble_eq_true rfl, Nat.le_of_ble_eq_true rfl⟩) (mX1_isName l Z (by decide) et1) rfl rfl (Nat.le_of_ble_eq_true rfl) dX1_beginning_3 ?_
  refine g_if_eq (pc := 6) C (tgt := 13) dX1_beginning_6 (by decide) h (fun hc6 h => ?_) (fun hc6 h => ?_)
  · refine g_aload_n (pc := 13) C dX1_beginning_13 rfl 0 rfl ?_
    refine g_ldcS (pc := 14) C (i := 1) (by decide) rfl dX1_beginning_14 ?_
    obtain ⟨t2, et2, h⟩ := bs h
    refine g_callVi (pc := 16) C (As := [.ref (sK Z 1)]) (rest := []) (k := 31) (by rfl) (by rfl) (cwV 1 C.2.2.2.2.2.1 gX1_beginning_X1_isName rfl rfl rfl (by decide +kernel) ⟨Nat.le_of_ble_eq_true rfl, Nat.le_of_ble_eq_true rfl⟩) (mX1_isName l Z (by decide) et2) rfl rfl (Nat.le_of_ble_eq_true rfl) dX1_beginning_16 ?_
    refine g_if_eq (pc := 19) C (tgt := 26) dX1_beginning_19 (by decide) h (fun hc19 h => ?_) (fun hc19 h => ?_)
    · refine g_aload_n (pc := 26) C dX1_beginning_26 rfl 0 rfl ?_
      refine g_ldcS (pc := 27) C (i := 2) (by decide) rfl dX1_beginning_27 ?_
      obtain ⟨t3, et3, h⟩ := bs h
      refine g_callVi (pc := 29) C (As := [.ref (sK Z 2)]) (rest := []) (k := 31) (by rfl) (by rfl) (cwV 1 C.2.2.2.2.2.1 gX1_beginning_X1_isName rfl rfl rfl (by decide +kernel) ⟨Nat.le_of_ble_eq_true rfl, Nat.le_of_ble_eq_true rfl⟩) (mX1_isName l Z (by decide) et3) rfl rfl (Nat.le_of_ble_eq_true rfl) dX1_beginning_29 ?_
      refine g_if_eq (pc := 32) C (tgt := 39) dX1_beginning_32 (by decide) h (fun hc32 h => ?_) (fun hc32 h => ?_)
      · refine g_aload_n (pc := 39) C dX1_beginning_39 rfl 0 rfl ?_
        refine g_ldcS (pc := 40) C (i := 3) (by decide) rfl dX1_beginning_40 ?_
        obtain ⟨t4, et4, h⟩ := bs h
        refine g_callVi (pc := 42) C (As := [.ref (sK Z 3)]) (rest := []) (k := 31) (by rfl) (by rfl) (cwV 1 C.2.2.2.2.2.1 gX1_beginning_X1_isName rfl rfl rfl (by decide +kernel) ⟨Nat.le_of_ble_eq_true rfl, Nat.le_of_ble_eq_true rfl⟩) (mX1_isName l Z (by decide) et4) rfl rfl (Nat.le_of_ble_eq_true rfl) dX1_beginning_42 ?_
        refine g_if_eq (pc := 45) C (tgt := 52) dX1_beginning_45 (by decide) h (fun hc45 h => ?_) (fun hc45 h => ?_)
        · refine g_aload_n (pc := 52) C dX1_beginning_52 rfl 0 rfl ?_
          refine g_ldcS (pc := 53) C (i := 4) (by decide) rfl dX1_beginning_53 ?_
          obtain ⟨t5, et5, h⟩ := bs h
          refine g_callVi (pc := 55) C (As := [.ref (sK Z 4)]) (rest := []) (k := 31) (by rfl) (by rfl) (cwV 1 C.2.2.2.2.2.1 gX1_beginning_X1_isName rfl rfl rfl (by decide +kernel) ⟨Nat.le_of_ble_eq_true rfl, Nat.le_of_ble_eq_true rfl⟩) (mX1_isName l Z (by decide) et5) rfl rfl (Nat.le_of_ble_eq_true rfl) dX1_beginning_55 ?_
          refine g_if_eq (pc := 58) C (tgt := 65) dX1_beginning_58 (by decide) h (fun hc58 h => ?_) (fun hc58 h => ?_)
          · refine g_aload_n (pc := 65) C dX1_beginning_65 rfl 0 rfl ?_
            refine g_ldcS (pc := 66) C (i := 5) (by decide) rfl dX1_beginning_66 ?_
            obtain ⟨t6, et6, h⟩ := bs h
            refine g_callVi (pc := 68) C (As := [.ref (sK Z 5)]) (rest := []) (k := 31) (by rfl) (by rfl) (cwV 1 C.2.2.2.2.2.1 gX1_beginning_X1_isName rfl rfl rfl (by decide +kernel) ⟨Nat.le_of_ble_eq_true rfl, Nat.le_of_ble_eq_true rfl⟩) (mX1_isName l Z (by decide) et6) rfl rfl (Nat.le_of_ble_eq_true rfl) dX1_beginning_68 ?_
            refine g_if_eq (pc := 71) C (tgt := 78) dX1_beginning_71 (by decide) h (fun hc71 h => ?_) (fun hc71 h => ?_)
            · refine g_bipush (pc := 78) C (v := (-4 : Int32)) dX1_beginning_78 (by decide) ?_
              exact g_iret C dX1_beginning_80 rfl (Option.some.inj h)
            · refine g_iconst (pc := 74) C (v := (5 : Int32)) dX1_beginning_74 (by decide) ?_
              refine g_goto (pc := 75) C (tgt := 80) dX1_beginning_75 (by decide) ?_
              exact g_iret C dX1_beginning_80 rfl (Option.some.inj h)
          · refine g_iconst (pc := 61) C (v := (4 : Int32)) dX1_beginning_61 (by decide) ?_
            refine g_goto (pc := 62) C (tgt := 80) dX1_beginning_62 (by decide) ?_
            exact g_iret C dX1_beginning_80 rfl (Option.some.inj h)
        · refine g_iconst (pc := 48) C (v := (3 : Int32)) dX1_beginning_48 (by decide) ?_
          refine g_goto (pc := 49) C (tgt := 80) dX1_beginning_49 (by decide) ?_
          exact g_iret C dX1_beginning_80 rfl (Option.some.inj h)
      · refine g_iconst (pc := 35) C (v := (2 : Int32)) dX1_beginning_35 (by decide) ?_
        refine g_goto (pc := 36) C (tgt := 80) dX1_beginning_36 (by decide) ?_
        exact g_iret C dX1_beginning_80 rfl (Option.some.inj h)
    · refine g_iconst (pc := 22) C (v := (1 : Int32)) dX1_beginning_22 (by decide) ?_
      refine g_goto (pc := 23) C (tgt := 80) dX1_beginning_23 (by decide) ?_
      exact g_iret C dX1_beginning_80 rfl (Option.some.inj h)
  · refine g_iconst (pc := 9) C (v := (0 : Int32)) dX1_beginning_9 (by decide) ?_
    refine g_goto (pc := 10) C (tgt := 80) dX1_beginning_10 (by decide) ?_
    exact g_iret C dX1_beginning_80 rfl (Option.some.inj h)
theorem mX1_beginning (l : Launch) (Z : Sh) {σ : Sg}  {u : Int32}  (h : fX1_beginning σ = some u) : MI l Z layX yX1_beginning wsX1_beginning rX1_beginning [.ref (ad Z 31)] σ σ u :=
  MI.of (cc := cX1_beginning) (maxL := 1) (ret := (some .int)) (by decide) rfl (Nat.le_of_ble_eq_true rfl) (fun p e s m below meth c C => kX1_beginning_e C  h)

def rX1_number : Room := { frames := 3, cells := 0, slots := 0, locals := 64 }
theorem uX1_number_X1 : ∀ w ∈ wsX10, w ∈ wsX1_number := by decide +kernel
def fX1_number_b41 (v1 : Int32) (v2 : Int32)  (σ : Sg) : Option (Sg × Int32) := (fX1_advance σ).bind fun σ1 => some (σ1, (σ 31 7))
def fX1_number (σ : Sg) (v1 : Int32) (v2 : Int32) : Option (Sg × Int32) := if (σ 31 6) = (2 : Int32) then (fX7_within (σ 31 7) v1 v2).bind fun t1 => if t1 = 0 then (fX1_refuse σ (3 : Int32) (σ 31 4)).bind fun σ2 => fX1_number_b41 v1 v2 σ2 else fX1_number_b41 v1 v2 σ else (fX1_refuse σ (2 : Int32) (σ 31 4)).bind fun σ3 => fX1_number_b41 v1 v2 σ3
set_option maxHeartbeats 1000000 in
set_option maxRecDepth 20000 in
theorem kX1_number_b41 {p : Program} {l : Launch} {e : Env} {s : State} {m : MethodId} {args : Array Value} {below : List Frame} {meth : Method} {c : Code} {Z : Sh} (C : Cx p s m args meth c cX1_number 4 wsX1_number RX1 (some .int) Z layX) {v1 : Int32} {v2 : Int32} {u : Sg × Int32}   {σ : Sg} (h : fX1_number_b41 v1 v2 σ = some u) : G p l e rX1_number s m args below meth c 4 Z layX (MQ below (QI Z layX u.1 u.2 s.heap.size) args s 0 0 (pA Z layX s.heap.size)) σ 41 [(0, .ref (ad Z 31))] [] := by
  unfold fX1_number_b41 at h
  refine g_aload_n (pc := 41) C dX1_number_41 rfl 0 rfl ?_
  refine g_geti (pc := 42) C (Cn := RX1) (T := TX1) (N := 9) (ci := 1) (k := 31) (j := 7) uX1_number_X1 (by rfl) rfl (by decide) (by decide +kernel) (q := 0) rfl dX1_number_42 ?_
  refine g_istore_n (pc := 45) C (lv2 := [(3, .int (σ 31 7)), (0, .ref (ad Z 31))]) dX1_number_45 rfl (by decide) rfl ?_
  refine g_aload_n (pc := 46) C dX1_number_46 rfl 1 rfl ?_
  obtain ⟨σ1, eσ1, h⟩ := bs h
  refine g_callVv (pc := 47) C (As := []) (rest := []) (k := 31) (by rfl) (by rfl) (cwV 0 C.2.2.2.2.2.1 gX1_number_X1_advance rfl rfl rfl (by decide +kernel) ⟨Nat.le_of_ble_eq_true rfl, Nat.le_of_ble_eq_true rfl⟩) (mX1_advance l Z  eσ1) rfl rfl (Nat.le_of_ble_eq_true rfl) dX1_number_47 ?_
  refine g_iload_n (pc := 50) C dX1_number_50 rfl 0 rfl ?_
  exact g_iret C dX1_number_51 (pfst h) (psnd h)
set_option maxHeartbeats 1000000 in
set_option maxRecDepth 20000 in
theorem kX1_number_e {p : Program} {l : Launch} {e : Env} {s : State} {m : MethodId} {args : Array Value} {below : List Frame} {meth : Method} {c : Code} {Z : Sh} (C : Cx p s m args meth c cX1_number 4 wsX1_number RX1 (some .int) Z layX) {σ : Sg} {v1 : Int32} {v2 : Int32} {u : Sg × Int32}  (h : fX1_number σ v1 v2 = some u) : G p l e rX1_number s m args below meth c 4 Z layX (MQ below (QI Z layX u.1 u.2 s.heap.size) args s 0 0 (pA Z layX s.heap.size)) σ 0 [(0, .ref (ad Z 31)), (1, .int v1), (2, .int v2)] [] := by
  unfold fX1_number at h
  refine g_aload_n (pc := 0) C dX1_number_0 rfl 0 rfl ?_
  refine g_geti (pc := 1) C (Cn := RX1) (T := TX1) (N := 9) (ci := 1) (k := 31) (j := 6) uX1_number_X1 (by rfl) rfl (by decide) (by decide +kernel) (q := 0) rfl dX1_number_1 ?_
  refine g_iconst (pc := 4) C (v := (2 : Int32)) dX1_number_4 (by decide) ?_
  refine g_icmp_eq (pc := 5) C (tgt := 20) dX1_number_5 (by decide) h (fun hc5 h => ?_) (fun hc5 h => ?_)
  · refine g_aload_n (pc := 20) C dX1_number_20 rfl 0 rfl ?_
    refine g_geti (pc := 21) C (Cn := RX1) (T := TX1) (N := 9) (ci := 1) (k := 31) (j := 7) uX1_number_X1 (by rfl) rfl (by decide) (by decide +kernel) (q := 0) rfl dX1_number_21 ?_
    refine g_iload_n (pc := 24) C dX1_number_24 rfl 1 rfl ?_
    refine g_iload_n (pc := 25) C dX1_number_25 rfl 2 rfl ?_
    obtain ⟨t1, et1, h⟩ := bs h
    refine g_callSNi (pc := 26) C (As := [.int (σ 31 7), .int v1, .int v2]) (rest := []) ⟨va_cnB (y := yX7_within) 3 C.2.2.2.2.2.1 gX1_number_X7_within_n114 rfl rfl rfl (C.2.2.2.2.2.2.2.2.1 (.methodLinkNest "MoundVotes$Reader" 114 ⟨"MoundVotes", "within", "(III)Z"⟩ "MoundVotes") (by decide +kernel)) (C.2.2.2.2.2.1 (.initialized RX7) (by decide +kernel)) (by decide +kernel) ⟨Nat.le_of_ble_eq_true rfl, Nat.le_of_ble_eq_true rfl⟩, C.2.2.2.2.2.1 (.static yX7_within) (by decide +kernel), trivial⟩ (mX7_within l Z  et1) rfl rfl (Nat.le_of_ble_eq_true rfl) dX1_number_26 ?_
    refine g_if_ne (pc := 29) C (tgt := 41) dX1_number_29 (by decide) h (fun hc29 h => ?_) (fun hc29 h => ?_)
    · exact g_sub [0] rfl (kX1_number_b41 C    h)
    · refine g_aload_n (pc := 32) C dX1_number_32 rfl 0 rfl ?_
      refine g_iconst (pc := 33) C (v := (3 : Int32)) dX1_number_33 (by decide) ?_
      refine g_aload_n (pc := 34) C dX1_number_34 rfl 0 rfl ?_
      refine g_geti (pc := 35) C (Cn := RX1) (T := TX1) (N := 9) (ci := 1) (k := 31) (j := 4) uX1_number_X1 (by rfl) rfl (by decide) (by decide +kernel) (q := 0) rfl dX1_number_35 ?_
      obtain ⟨σ2, eσ2, h⟩ := bs h
      refine g_callVv (pc := 38) C (As := [.int (3 : Int32), .int (σ 31 4)]) (rest := []) (k := 31) (by rfl) (by rfl) (cwV 2 C.2.2.2.2.2.1 gX1_number_X1_refuse rfl rfl rfl (by decide +kernel) ⟨Nat.le_of_ble_eq_true rfl, Nat.le_of_ble_eq_true rfl⟩) (mX1_refuse l Z  eσ2) rfl rfl (Nat.le_of_ble_eq_true rfl) dX1_number_38 ?_
      exact g_sub [0] rfl (kX1_number_b41 C    h)
  · refine g_aload_n (pc := 8) C dX1_number_8 rfl 0 rfl ?_
    refine g_iconst (pc := 9) C (v := (2 : Int32)) dX1_number_9 (by decide) ?_
    refine g_aload_n (pc := 10) C dX1_number_10 rfl 0 rfl ?_
    refine g_geti (pc := 11) C (Cn := RX1) (T := TX1) (N := 9) (ci := 1) (k := 31) (j := 4) uX1_number_X1 (by rfl) rfl (by decide) (by decide +kernel) (q := 0) rfl dX1_number_11 ?_
    obtain ⟨σ3, eσ3, h⟩ := bs h
    refine g_callVv (pc := 14) C (As := [.int (2 : Int32), .int (σ 31 4)]) (rest := []) (k := 31) (by rfl) (by rfl) (cwV 2 C.2.2.2.2.2.1 gX1_number_X1_refuse rfl rfl rfl (by decide +kernel) ⟨Nat.le_of_ble_eq_true rfl, Nat.le_of_ble_eq_true rfl⟩) (mX1_refuse l Z  eσ3) rfl rfl (Nat.le_of_ble_eq_true rfl) dX1_number_14 ?_
    refine g_goto (pc := 17) C (tgt := 41) dX1_number_17 (by decide) ?_
    exact g_sub [0] rfl (kX1_number_b41 C    h)
theorem mX1_number (l : Launch) (Z : Sh) {σ : Sg} {v1 : Int32} {v2 : Int32} {u : Sg × Int32}  (h : fX1_number σ v1 v2 = some u) : MI l Z layX yX1_number wsX1_number rX1_number [.ref (ad Z 31), .int v1, .int v2] σ u.1 u.2 :=
  MI.of (cc := cX1_number) (maxL := 4) (ret := (some .int)) (by decide) rfl (Nat.le_of_ble_eq_true rfl) (fun p e s m below meth c C => kX1_number_e C  h)

def rX1_stop : Room := { frames := 1, cells := 0, slots := 0, locals := 22 }
theorem uX1_stop_X1 : ∀ w ∈ wsX10, w ∈ wsX1_stop := by decide +kernel
def fX1_stop (σ : Sg)  : Option (Sg) := if (σ 31 6) = (3 : Int32) then some σ else (fX1_refuse σ (2 : Int32) (σ 31 4)).bind fun σ1 => some σ1
set_option maxHeartbeats 1000000 in
set_option maxRecDepth 20000 in
theorem kX1_stop_e {p : Program} {l : Launch} {e : Env} {s : State} {m : MethodId} {args : Array Value} {below : List Frame} {meth : Method} {c : Code} {Z : Sh} (C : Cx p s m args meth c cX1_stop 1 wsX1_stop RX1 none Z layX) {σ : Sg}  {u : Sg}  (h : fX1_stop σ = some u) : G p l e rX1_stop s m args below meth c 1 Z layX (MQ below (QV Z layX u s.heap.size) args s 0 0 (pA Z layX s.heap.size)) σ 0 [(0, .ref (ad Z 31))] [] := by
  unfold fX1_stop at h
  refine g_aload_n (pc := 0) C dX1_stop_0 rfl 0 rfl ?_
  refine g_geti (pc := 1) C (Cn := RX1) (T := TX1) (N := 9) (ci := 1) (k := 31) (j := 6) uX1_stop_X1 (by rfl) rfl (by decide) (by decide +kernel) (q := 0) rfl dX1_stop_1 ?_
  refine g_iconst (pc := 4) C (v := (3 : Int32)) dX1_stop_4 (by decide) ?_
  refine g_icmp_eq (pc := 5) C (tgt := 17) dX1_stop_5 (by decide) h (fun hc5 h => ?_) (fun hc5 h => ?_)
  · exact g_vret C dX1_stop_17 (Option.some.inj h)
  · refine g_aload_n (pc := 8) C dX1_stop_8 rfl 0 rfl ?_
    refine g_iconst (pc := 9) C (v := (2 : Int32)) dX1_stop_9 (by decide) ?_
    refine g_aload_n (pc := 10) C dX1_stop_10 rfl 0 rfl ?_
    refine g_geti (pc := 11) C (Cn := RX1) (T := TX1) (N := 9) (ci := 1) (k := 31) (j := 4) uX1_stop_X1 (by rfl) rfl (by decide) (by decide +kernel) (q := 0) rfl dX1_stop_11 ?_
    obtain ⟨σ1, eσ1, h⟩ := bs h
    refine g_callVv (pc := 14) C (As := [.int (2 : Int32), .int (σ 31 4)]) (rest := []) (k := 31) (by rfl) (by rfl) (cwV 2 C.2.2.2.2.2.1 gX1_stop_X1_refuse rfl rfl rfl (by decide +kernel) ⟨Nat.le_of_ble_eq_true rfl, Nat.le_of_ble_eq_true rfl⟩) (mX1_refuse l Z  eσ1) rfl rfl (Nat.le_of_ble_eq_true rfl) dX1_stop_14 ?_
    exact g_vret C dX1_stop_17 (Option.some.inj h)
theorem mX1_stop (l : Launch) (Z : Sh) {σ : Sg}  {u : Sg}  (h : fX1_stop σ = some u) : MV l Z layX yX1_stop wsX1_stop rX1_stop [.ref (ad Z 31)] σ u :=
  MV.of (cc := cX1_stop) (maxL := 1) (ret := none) (by decide) rfl (Nat.le_of_ble_eq_true rfl) (fun p e s m below meth c C => kX1_stop_e C  h)

def rX2_addLord : Room := { frames := 0, cells := 0, slots := 0, locals := 0 }
theorem uX2_addLord_X2 : ∀ w ∈ wsX20, w ∈ wsX2_addLord := by decide +kernel
def fX2_addLord (σ : Sg) (a : Nat) (v1 : Int32) : Option (Sg) := if (4 : Int32) ≤ (σ a 0) then some σ else (wr σ (a + 1) 4 (σ a 0) v1).bind fun σ1 => (pf σ1 a 0 ((σ1 a 0) + (1 : Int32))).bind fun σ2 => some σ2
set_option maxHeartbeats 1000000 in
set_option maxRecDepth 20000 in
theorem kX2_addLord_e {p : Program} {l : Launch} {e : Env} {s : State} {m : MethodId} {args : Array Value} {below : List Frame} {meth : Method} {c : Code} {Z : Sh} (C : Cx p s m args meth c cX2_addLord 2 wsX2_addLord RX2 none Z layX) {σ : Sg} {a : Nat} {v1 : Int32} {u : Sg} (h_a : IsR a) (h : fX2_addLord σ a v1 = some u) : G p l e rX2_addLord s m args below meth c 2 Z layX (MQ below (QV Z layX u s.heap.size) args s 0 0 (pA Z layX s.heap.size)) σ 0 [(0, .ref (ad Z a)), (1, .int v1)] [] := by
  unfold fX2_addLord at h
  refine g_aload_n (pc := 0) C dX2_addLord_0 rfl 0 rfl ?_
  refine g_geti (pc := 1) C (Cn := RX2) (T := TX2) (N := 8) (ci := 2) (k := a) (j := 0) uX2_addLord_X2 h_a.1 rfl (by decide) (by decide +kernel) (q := 0) rfl dX2_addLord_1 ?_
  refine g_iconst (pc := 4) C (v := (4 : Int32)) dX2_addLord_4 (by decide) ?_
  refine g_icmp_ge (pc := 5) C (tgt := 28) dX2_addLord_5 (by decide) h (fun hc5 h => ?_) (fun hc5 h => ?_)
  · exact g_vret C dX2_addLord_28 (Option.some.inj h)
  · refine g_aload_n (pc := 8) C dX2_addLord_8 rfl 0 rfl ?_
    refine g_getr (pc := 9) C (Cn := RX2) (T := TX2) (N := 8) (ci := 2) (k := a) (j := 3) uX2_addLord_X2 h_a.1 rfl (by decide) (by decide +kernel) (q := (a + 1)) rfl dX2_addLord_9 ?_
    refine g_aload_n (pc := 12) C dX2_addLord_12 rfl 0 rfl ?_
    refine g_geti (pc := 13) C (Cn := RX2) (T := TX2) (N := 8) (ci := 2) (k := a) (j := 0) uX2_addLord_X2 h_a.1 rfl (by decide) (by decide +kernel) (q := 0) rfl dX2_addLord_13 ?_
    refine g_iload_n (pc := 16) C dX2_addLord_16 rfl 1 rfl ?_
    obtain ⟨σ1, eσ1, h⟩ := bs h
    refine g_iast (pc := 17) C (k := (a + 1)) (n := 4) h_a.2.1 eσ1 dX2_addLord_17 ?_
    refine g_aload_n (pc := 18) C dX2_addLord_18 rfl 0 rfl ?_
    refine g_dup (pc := 19) C rfl dX2_addLord_19 ?_
    refine g_geti (pc := 20) C (Cn := RX2) (T := TX2) (N := 8) (ci := 2) (k := a) (j := 0) uX2_addLord_X2 h_a.1 rfl (by decide) (by decide +kernel) (q := 0) rfl dX2_addLord_20 ?_
    refine g_iconst (pc := 23) C (v := (1 : Int32)) dX2_addLord_23 (by decide) ?_
    refine g_iadd (pc := 24) C dX2_addLord_24 ?_
    obtain ⟨σ2, eσ2, h⟩ := bs h
    refine g_puti (pc := 25) C (Cn := RX2) (T := TX2) (N := 8) (ci := 2) (k := a) (j := 0) uX2_addLord_X2 h_a.1 rfl (by decide) (by decide +kernel) tyX2 tyX2_ok nmX2 rfl (by decide +kernel) rfl eσ2 dX2_addLord_25 ?_
    exact g_vret C dX2_addLord_28 (Option.some.inj h)
theorem mX2_addLord (l : Launch) (Z : Sh) {σ : Sg} {a : Nat} {v1 : Int32} {u : Sg} (h_a : IsR a) (h : fX2_addLord σ a v1 = some u) : MV l Z layX yX2_addLord wsX2_addLord rX2_addLord [.ref (ad Z a), .int v1] σ u :=
  MV.of (cc := cX2_addLord) (maxL := 2) (ret := none) (by decide) rfl (Nat.le_of_ble_eq_true rfl) (fun p e s m below meth c C => kX2_addLord_e C h_a h)

def rX1_tellLord : Room := { frames := 4, cells := 0, slots := 0, locals := 87 }
theorem uX1_tellLord_X1 : ∀ w ∈ wsX10, w ∈ wsX1_tellLord := by decide +kernel
theorem uX1_tellLord_X2 : ∀ w ∈ wsX20, w ∈ wsX1_tellLord := by decide +kernel
def fX1_tellLord_b20   (σ : Sg) : Option (Sg) := (fX1_advance σ).bind fun σ1 => (fX1_number σ1 (0 : Int32) (99 : Int32)).bind fun u2 => (fX1_stop u2.1).bind fun σ3 => (fX2_addLord σ3 25 u2.2).bind fun σ4 => some σ4
def fX1_tellLord (σ : Sg)  : Option (Sg) := if (σ 25 0) < (4 : Int32) then fX1_tellLord_b20 σ else (fX1_refuse σ (5 : Int32) (σ 31 4)).bind fun σ1 => fX1_tellLord_b20 σ1
set_option maxHeartbeats 1000000 in
set_option maxRecDepth 20000 in
theorem kX1_tellLord_b20 {p : Program} {l : Launch} {e : Env} {s : State} {m : MethodId} {args : Array Value} {below : List Frame} {meth : Method} {c : Code} {Z : Sh} (C : Cx p s m args meth c cX1_tellLord 2 wsX1_tellLord RX1 none Z layX)  {u : Sg}   {σ : Sg} (h : fX1_tellLord_b20 σ = some u) : G p l e rX1_tellLord s m args below meth c 2 Z layX (MQ below (QV Z layX u s.heap.size) args s 0 0 (pA Z layX s.heap.size)) σ 20 [(0, .ref (ad Z 31))] [] := by
  unfold fX1_tellLord_b20 at h
  refine g_aload_n (pc := 20) C dX1_tellLord_20 rfl 0 rfl ?_
  obtain ⟨σ1, eσ1, h⟩ := bs h
  refine g_callVv (pc := 21) C (As := []) (rest := []) (k := 31) (by rfl) (by rfl) (cwV 0 C.2.2.2.2.2.1 gX1_tellLord_X1_advance rfl rfl rfl (by decide +kernel) ⟨Nat.le_of_ble_eq_true rfl, Nat.le_of_ble_eq_true rfl⟩) (mX1_advance l Z  eσ1) rfl rfl (Nat.le_of_ble_eq_true rfl) dX1_tellLord_21 ?_
  refine g_aload_n (pc := 24) C dX1_tellLord_24 rfl 0 rfl ?_
  refine g_iconst (pc := 25) C (v := (0 : Int32)) dX1_tellLord_25 (by decide) ?_
  refine g_bipush (pc := 26) C (v := (99 : Int32)) dX1_tellLord_26 (by decide) ?_
  obtain ⟨u2, eu2, h⟩ := bs h
  refine g_callVi (pc := 28) C (As := [.int (0 : Int32), .int (99 : Int32)]) (rest := []) (k := 31) (by rfl) (by rfl) (cwV 2 C.2.2.2.2.2.1 gX1_tellLord_X1_number rfl rfl rfl (by decide +kernel) ⟨Nat.le_of_ble_eq_true rfl, Nat.le_of_ble_eq_true rfl⟩) (mX1_number l Z  eu2) rfl rfl (Nat.le_of_ble_eq_true rfl) dX1_tellLord_28 ?_
  refine g_istore_n (pc := 31) C (lv2 := [(1, .int u2.2), (0, .ref (ad Z 31))]) dX1_tellLord_31 rfl (by decide) rfl ?_
  refine g_aload_n (pc := 32) C dX1_tellLord_32 rfl 1 rfl ?_
  obtain ⟨σ3, eσ3, h⟩ := bs h
  refine g_callVv (pc := 33) C (As := []) (rest := []) (k := 31) (by rfl) (by rfl) (cwV 0 C.2.2.2.2.2.1 gX1_tellLord_X1_stop rfl rfl rfl (by decide +kernel) ⟨Nat.le_of_ble_eq_true rfl, Nat.le_of_ble_eq_true rfl⟩) (mX1_stop l Z  eσ3) rfl rfl (Nat.le_of_ble_eq_true rfl) dX1_tellLord_33 ?_
  refine g_aload_n (pc := 36) C dX1_tellLord_36 rfl 1 rfl ?_
  refine g_getr (pc := 37) C (Cn := RX1) (T := TX1) (N := 9) (ci := 1) (k := 31) (j := 1) uX1_tellLord_X1 (by rfl) rfl (by decide) (by decide +kernel) (q := 25) rfl dX1_tellLord_37 ?_
  refine g_iload_n (pc := 40) C dX1_tellLord_40 rfl 0 rfl ?_
  obtain ⟨σ4, eσ4, h⟩ := bs h
  refine g_callVv (pc := 41) C (As := [.int u2.2]) (rest := []) (k := 25) (by rfl) (by rfl) (cwV 1 C.2.2.2.2.2.1 gX1_tellLord_X2_addLord rfl rfl rfl (by decide +kernel) ⟨Nat.le_of_ble_eq_true rfl, Nat.le_of_ble_eq_true rfl⟩) (mX2_addLord l Z isR25 eσ4) rfl rfl (Nat.le_of_ble_eq_true rfl) dX1_tellLord_41 ?_
  exact g_vret C dX1_tellLord_44 (Option.some.inj h)
set_option maxHeartbeats 1000000 in
set_option maxRecDepth 20000 in
theorem kX1_tellLord_e {p : Program} {l : Launch} {e : Env} {s : State} {m : MethodId} {args : Array Value} {below : List Frame} {meth : Method} {c : Code} {Z : Sh} (C : Cx p s m args meth c cX1_tellLord 2 wsX1_tellLord RX1 none Z layX) {σ : Sg}  {u : Sg}  (h : fX1_tellLord σ = some u) : G p l e rX1_tellLord s m args below meth c 2 Z layX (MQ below (QV Z layX u s.heap.size) args s 0 0 (pA Z layX s.heap.size)) σ 0 [(0, .ref (ad Z 31))] [] := by
  unfold fX1_tellLord at h
  refine g_aload_n (pc := 0) C dX1_tellLord_0 rfl 0 rfl ?_
  refine g_getr (pc := 1) C (Cn := RX1) (T := TX1) (N := 9) (ci := 1) (k := 31) (j := 1) uX1_tellLord_X1 (by rfl) rfl (by decide) (by decide +kernel) (q := 25) rfl dX1_tellLord_1 ?_
  refine g_getiN (pc := 4) C (host := "MoundVotes") (Cn := RX2) (T := TX2) (N := 8) (ci := 2) (k := 25) (j := 0) uX1_tellLord_X2 (by rfl) rfl (by decide) (by decide +kernel) (q := 0) rfl dX1_tellLord_4 ?_
  refine g_iconst (pc := 7) C (v := (4 : Int32)) dX1_tellLord_7 (by decide) ?_
  refine g_icmp_lt (pc := 8) C (tgt := 20) dX1_tellLord_8 (by decide) h (fun hc8 h => ?_) (fun hc8 h => ?_)
  · exact g_sub [0] rfl (kX1_tellLord_b20 C    h)
  · refine g_aload_n (pc := 11) C dX1_tellLord_11 rfl 0 rfl ?_
    refine g_iconst (pc := 12) C (v := (5 : Int32)) dX1_tellLord_12 (by decide) ?_
    refine g_aload_n (pc := 13) C dX1_tellLord_13 rfl 0 rfl ?_
    refine g_geti (pc := 14) C (Cn := RX1) (T := TX1) (N := 9) (ci := 1) (k := 31) (j := 4) uX1_tellLord_X1 (by rfl) rfl (by decide) (by decide +kernel) (q := 0) rfl dX1_tellLord_14 ?_
    obtain ⟨σ1, eσ1, h⟩ := bs h
    refine g_callVv (pc := 17) C (As := [.int (5 : Int32), .int (σ 31 4)]) (rest := []) (k := 31) (by rfl) (by rfl) (cwV 2 C.2.2.2.2.2.1 gX1_tellLord_X1_refuse rfl rfl rfl (by decide +kernel) ⟨Nat.le_of_ble_eq_true rfl, Nat.le_of_ble_eq_true rfl⟩) (mX1_refuse l Z  eσ1) rfl rfl (Nat.le_of_ble_eq_true rfl) dX1_tellLord_17 ?_
    exact g_sub [0] rfl (kX1_tellLord_b20 C    h)
theorem mX1_tellLord (l : Launch) (Z : Sh) {σ : Sg}  {u : Sg}  (h : fX1_tellLord σ = some u) : MV l Z layX yX1_tellLord wsX1_tellLord rX1_tellLord [.ref (ad Z 31)] σ u :=
  MV.of (cc := cX1_tellLord) (maxL := 2) (ret := none) (by decide) rfl (Nat.le_of_ble_eq_true rfl) (fun p e s m below meth c C => kX1_tellLord_e C  h)

def rX1_tellPrice : Room := { frames := 4, cells := 0, slots := 0, locals := 87 }
theorem uX1_tellPrice_X1 : ∀ w ∈ wsX10, w ∈ wsX1_tellPrice := by decide +kernel
theorem uX1_tellPrice_X2 : ∀ w ∈ wsX20, w ∈ wsX1_tellPrice := by decide +kernel
def fX1_tellPrice_b16   (σ : Sg) : Option (Sg) := (pz σ 31 8 (1 : Int32)).bind fun σ1 => (fX1_advance σ1).bind fun σ2 => (fX1_number σ2 (0 : Int32) (9 : Int32)).bind fun u3 => (pf u3.1 25 2 u3.2).bind fun σ4 => (fX1_stop σ4).bind fun σ5 => some σ5
def fX1_tellPrice (σ : Sg)  : Option (Sg) := if (σ 31 8) = 0 then fX1_tellPrice_b16 σ else (fX1_refuse σ (4 : Int32) (σ 31 4)).bind fun σ1 => fX1_tellPrice_b16 σ1
set_option maxHeartbeats 1000000 in
set_option maxRecDepth 20000 in
theorem kX1_tellPrice_b16 {p : Program} {l : Launch} {e : Env} {s : State} {m : MethodId} {args : Array Value} {below : List Frame} {meth : Method} {c : Code} {Z : Sh} (C : Cx p s m args meth c cX1_tellPrice 1 wsX1_tellPrice RX1 none Z layX)  {u : Sg}   {σ : Sg} (h : fX1_tellPrice_b16 σ = some u) : G p l e rX1_tellPrice s m args below meth c 1 Z layX (MQ below (QV Z layX u s.heap.size) args s 0 0 (pA Z layX s.heap.size)) σ 16 [(0, .ref (ad Z 31))] [] := by
  unfold fX1_tellPrice_b16 at h
  refine g_aload_n (pc := 16) C dX1_tellPrice_16 rfl 0 rfl ?_
  refine g_iconst (pc := 17) C (v := (1 : Int32)) dX1_tellPrice_17 (by decide) ?_
  obtain ⟨σ1, eσ1, h⟩ := bs h
  refine g_putz (pc := 18) C (Cn := RX1) (T := TX1) (N := 9) (ci := 1) (k := 31) (j := 8) uX1_tellPrice_X1 (by rfl) rfl (by decide) (by decide +kernel) tyX1 tyX1_ok nmX1 rfl (by decide +kernel) rfl eσ1 dX1_tellPrice_18 ?_
  refine g_aload_n (pc := 21) C dX1_tellPrice_21 rfl 0 rfl ?_
  obtain ⟨σ2, eσ2, h⟩ := bs h
  refine g_callVv (pc := 22) C (As := []) (rest := []) (k := 31) (by rfl) (by rfl) (cwV 0 C.2.2.2.2.2.1 gX1_tellPrice_X1_advance rfl rfl rfl (by decide +kernel) ⟨Nat.le_of_ble_eq_true rfl, Nat.le_of_ble_eq_true rfl⟩) (mX1_advance l Z  eσ2) rfl rfl (Nat.le_of_ble_eq_true rfl) dX1_tellPrice_22 ?_
  refine g_aload_n (pc := 25) C dX1_tellPrice_25 rfl 0 rfl ?_
  refine g_getr (pc := 26) C (Cn := RX1) (T := TX1) (N := 9) (ci := 1) (k := 31) (j := 1) uX1_tellPrice_X1 (by rfl) rfl (by decide) (by decide +kernel) (q := 25) rfl dX1_tellPrice_26 ?_
  refine g_aload_n (pc := 29) C dX1_tellPrice_29 rfl 0 rfl ?_
  refine g_iconst (pc := 30) C (v := (0 : Int32)) dX1_tellPrice_30 (by decide) ?_
  refine g_bipush (pc := 31) C (v := (9 : Int32)) dX1_tellPrice_31 (by decide) ?_
  obtain ⟨u3, eu3, h⟩ := bs h
  refine g_callVi (pc := 33) C (As := [.int (0 : Int32), .int (9 : Int32)]) (rest := [.ref (ad Z 25)]) (k := 31) (by rfl) (by rfl) (cwV 2 C.2.2.2.2.2.1 gX1_tellPrice_X1_number rfl rfl rfl (by decide +kernel) ⟨Nat.le_of_ble_eq_true rfl, Nat.le_of_ble_eq_true rfl⟩) (mX1_number l Z  eu3) rfl rfl (Nat.le_of_ble_eq_true rfl) dX1_tellPrice_33 ?_
  obtain ⟨σ4, eσ4, h⟩ := bs h
  refine g_putiN (pc := 36) C (host := "MoundVotes") (Cn := RX2) (T := TX2) (N := 8) (ci := 2) (k := 25) (j := 2) uX1_tellPrice_X2 (by rfl) rfl (by decide) (by decide +kernel) tyX2 tyX2_ok nmX2 rfl (by decide +kernel) rfl eσ4 dX1_tellPrice_36 ?_
  refine g_aload_n (pc := 39) C dX1_tellPrice_39 rfl 0 rfl ?_
  obtain ⟨σ5, eσ5, h⟩ := bs h
  refine g_callVv (pc := 40) C (As := []) (rest := []) (k := 31) (by rfl) (by rfl) (cwV 0 C.2.2.2.2.2.1 gX1_tellPrice_X1_stop rfl rfl rfl (by decide +kernel) ⟨Nat.le_of_ble_eq_true rfl, Nat.le_of_ble_eq_true rfl⟩) (mX1_stop l Z  eσ5) rfl rfl (Nat.le_of_ble_eq_true rfl) dX1_tellPrice_40 ?_
  exact g_vret C dX1_tellPrice_43 (Option.some.inj h)
set_option maxHeartbeats 1000000 in
set_option maxRecDepth 20000 in
theorem kX1_tellPrice_e {p : Program} {l : Launch} {e : Env} {s : State} {m : MethodId} {args : Array Value} {below : List Frame} {meth : Method} {c : Code} {Z : Sh} (C : Cx p s m args meth c cX1_tellPrice 1 wsX1_tellPrice RX1 none Z layX) {σ : Sg}  {u : Sg}  (h : fX1_tellPrice σ = some u) : G p l e rX1_tellPrice s m args below meth c 1 Z layX (MQ below (QV Z layX u s.heap.size) args s 0 0 (pA Z layX s.heap.size)) σ 0 [(0, .ref (ad Z 31))] [] := by
  unfold fX1_tellPrice at h
  refine g_aload_n (pc := 0) C dX1_tellPrice_0 rfl 0 rfl ?_
  refine g_geti (pc := 1) C (Cn := RX1) (T := TX1) (N := 9) (ci := 1) (k := 31) (j := 8) uX1_tellPrice_X1 (by rfl) rfl (by decide) (by decide +kernel) (q := 0) rfl dX1_tellPrice_1 ?_
  refine g_if_eq (pc := 4) C (tgt := 16) dX1_tellPrice_4 (by decide) h (fun hc4 h => ?_) (fun hc4 h => ?_)
  · exact g_sub [0] rfl (kX1_tellPrice_b16 C    h)
  · refine g_aload_n (pc := 7) C dX1_tellPrice_7 rfl 0 rfl ?_
    refine g_iconst (pc := 8) C (v := (4 : Int32)) dX1_tellPrice_8 (by decide) ?_
    refine g_aload_n (pc := 9) C dX1_tellPrice_9 rfl 0 rfl ?_
    refine g_geti (pc := 10) C (Cn := RX1) (T := TX1) (N := 9) (ci := 1) (k := 31) (j := 4) uX1_tellPrice_X1 (by rfl) rfl (by decide) (by decide +kernel) (q := 0) rfl dX1_tellPrice_10 ?_
    obtain ⟨σ1, eσ1, h⟩ := bs h
    refine g_callVv (pc := 13) C (As := [.int (4 : Int32), .int (σ 31 4)]) (rest := []) (k := 31) (by rfl) (by rfl) (cwV 2 C.2.2.2.2.2.1 gX1_tellPrice_X1_refuse rfl rfl rfl (by decide +kernel) ⟨Nat.le_of_ble_eq_true rfl, Nat.le_of_ble_eq_true rfl⟩) (mX1_refuse l Z  eσ1) rfl rfl (Nat.le_of_ble_eq_true rfl) dX1_tellPrice_13 ?_
    exact g_sub [0] rfl (kX1_tellPrice_b16 C    h)
theorem mX1_tellPrice (l : Launch) (Z : Sh) {σ : Sg}  {u : Sg}  (h : fX1_tellPrice σ = some u) : MV l Z layX yX1_tellPrice wsX1_tellPrice rX1_tellPrice [.ref (ad Z 31)] σ u :=
  MV.of (cc := cX1_tellPrice) (maxL := 1) (ret := none) (by decide) rfl (Nat.le_of_ble_eq_true rfl) (fun p e s m below meth c C => kX1_tellPrice_e C  h)

def rX2_addBorough : Room := { frames := 0, cells := 0, slots := 0, locals := 0 }
theorem uX2_addBorough_X2 : ∀ w ∈ wsX20, w ∈ wsX2_addBorough := by decide +kernel
def fX2_addBorough (σ : Sg) (a : Nat) (v1 : Int32) (v2 : Int32) (v3 : Int32) (v4 : Int32) : Option (Sg) := if (6 : Int32) ≤ (σ a 1) then some σ else (wr σ (a + 2) 6 (σ a 1) v1).bind fun σ1 => (wr σ1 (a + 3) 6 (σ1 a 1) v2).bind fun σ2 => (wr σ2 (a + 4) 6 (σ2 a 1) v3).bind fun σ3 => (wr σ3 (a + 5) 6 (σ3 a 1) v4).bind fun σ4 => (pf σ4 a 1 ((σ4 a 1) + (1 : Int32))).bind fun σ5 => some σ5
set_option maxHeartbeats 1000000 in
set_option maxRecDepth 20000 in
theorem kX2_addBorough_e {p : Program} {l : Launch} {e : Env} {s : State} {m : MethodId} {args : Array Value} {below : List Frame} {meth : Method} {c : Code} {Z : Sh} (C : Cx p s m args meth c cX2_addBorough 5 wsX2_addBorough RX2 none Z layX) {σ : Sg} {a : Nat} {v1 : Int32} {v2 : Int32} {v3 : Int32} {v4 : Int32} {u : Sg} (h_a : IsR a) (h : fX2_addBorough σ a v1 v2 v3 v4 = some u) : G p l e rX2_addBorough s m args below meth c 5 Z layX (MQ below (QV Z layX u s.heap.size) args s 0 0 (pA Z layX s.heap.size)) σ 0 [(0, .ref (ad Z a)), (1, .int v1), (2, .int v2), (3, .int v3), (4, .int v4)] [] := by
  unfold fX2_addBorough at h
  refine g_aload_n (pc := 0) C dX2_addBorough_0 rfl 0 rfl ?_
  refine g_geti (pc := 1) C (Cn := RX2) (T := TX2) (N := 8) (ci := 2) (k := a) (j := 1) uX2_addBorough_X2 h_a.1 rfl (by decide) (by decide +kernel) (q := 0) rfl dX2_addBorough_1 ?_
  refine g_bipush (pc := 4) C (v := (6 : Int32)) dX2_addBorough_4 (by decide) ?_
  refine g_icmp_ge (pc := 6) C (tgt := 60) dX2_addBorough_6 (by decide) h (fun hc6 h => ?_) (fun hc6 h => ?_)
  · exact g_vret C dX2_addBorough_60 (Option.some.inj h)
  · refine g_aload_n (pc := 9) C dX2_addBorough_9 rfl 0 rfl ?_
    refine g_getr (pc := 10) C (Cn := RX2) (T := TX2) (N := 8) (ci := 2) (k := a) (j := 4) uX2_addBorough_X2 h_a.1 rfl (by decide) (by decide +kernel) (q := (a + 2)) rfl dX2_addBorough_10 ?_
    refine g_aload_n (pc := 13) C dX2_addBorough_13 rfl 0 rfl ?_
    refine g_geti (pc := 14) C (Cn := RX2) (T := TX2) (N := 8) (ci := 2) (k := a) (j := 1) uX2_addBorough_X2 h_a.1 rfl (by decide) (by decide +kernel) (q := 0) rfl dX2_addBorough_14 ?_
    refine g_iload_n (pc := 17) C dX2_addBorough_17 rfl 1 rfl ?_
    obtain ⟨σ1, eσ1, h⟩ := bs h
    refine g_iast (pc := 18) C (k := (a + 2)) (n := 6) h_a.2.2.1 eσ1 dX2_addBorough_18 ?_
    refine g_aload_n (pc := 19) C dX2_addBorough_19 rfl 0 rfl ?_
    refine g_getr (pc := 20) C (Cn := RX2) (T := TX2) (N := 8) (ci := 2) (k := a) (j := 5) uX2_addBorough_X2 h_a.1 rfl (by decide) (by decide +kernel) (q := (a + 3)) rfl dX2_addBorough_20 ?_
    refine g_aload_n (pc := 23) C dX2_addBorough_23 rfl 0 rfl ?_
    refine g_geti (pc := 24) C (Cn := RX2) (T := TX2) (N := 8) (ci := 2) (k := a) (j := 1) uX2_addBorough_X2 h_a.1 rfl (by decide) (by decide +kernel) (q := 0) rfl dX2_addBorough_24 ?_
    refine g_iload_n (pc := 27) C dX2_addBorough_27 rfl 2 rfl ?_
    obtain ⟨σ2, eσ2, h⟩ := bs h
    refine g_iast (pc := 28) C (k := (a + 3)) (n := 6) h_a.2.2.2.1 eσ2 dX2_addBorough_28 ?_
    refine g_aload_n (pc := 29) C dX2_addBorough_29 rfl 0 rfl ?_
    refine g_getr (pc := 30) C (Cn := RX2) (T := TX2) (N := 8) (ci := 2) (k := a) (j := 6) uX2_addBorough_X2 h_a.1 rfl (by decide) (by decide +kernel) (q := (a + 4)) rfl dX2_addBorough_30 ?_
    refine g_aload_n (pc := 33) C dX2_addBorough_33 rfl 0 rfl ?_
    refine g_geti (pc := 34) C (Cn := RX2) (T := TX2) (N := 8) (ci := 2) (k := a) (j := 1) uX2_addBorough_X2 h_a.1 rfl (by decide) (by decide +kernel) (q := 0) rfl dX2_addBorough_34 ?_
    refine g_iload_n (pc := 37) C dX2_addBorough_37 rfl 3 rfl ?_
    obtain ⟨σ3, eσ3, h⟩ := bs h
    refine g_iast (pc := 38) C (k := (a + 4)) (n := 6) h_a.2.2.2.2.1 eσ3 dX2_addBorough_38 ?_
    refine g_aload_n (pc := 39) C dX2_addBorough_39 rfl 0 rfl ?_
    refine g_getr (pc := 40) C (Cn := RX2) (T := TX2) (N := 8) (ci := 2) (k := a) (j := 7) uX2_addBorough_X2 h_a.1 rfl (by decide) (by decide +kernel) (q := (a + 5)) rfl dX2_addBorough_40 ?_
    refine g_aload_n (pc := 43) C dX2_addBorough_43 rfl 0 rfl ?_
    refine g_geti (pc := 44) C (Cn := RX2) (T := TX2) (N := 8) (ci := 2) (k := a) (j := 1) uX2_addBorough_X2 h_a.1 rfl (by decide) (by decide +kernel) (q := 0) rfl dX2_addBorough_44 ?_
    refine g_iload (pc := 47) C dX2_addBorough_47 4 rfl ?_
    obtain ⟨σ4, eσ4, h⟩ := bs h
    refine g_iast (pc := 49) C (k := (a + 5)) (n := 6) h_a.2.2.2.2.2 eσ4 dX2_addBorough_49 ?_
    refine g_aload_n (pc := 50) C dX2_addBorough_50 rfl 0 rfl ?_
    refine g_dup (pc := 51) C rfl dX2_addBorough_51 ?_
    refine g_geti (pc := 52) C (Cn := RX2) (T := TX2) (N := 8) (ci := 2) (k := a) (j := 1) uX2_addBorough_X2 h_a.1 rfl (by decide) (by decide +kernel) (q := 0) rfl dX2_addBorough_52 ?_
    refine g_iconst (pc := 55) C (v := (1 : Int32)) dX2_addBorough_55 (by decide) ?_
    refine g_iadd (pc := 56) C dX2_addBorough_56 ?_
    obtain ⟨σ5, eσ5, h⟩ := bs h
    refine g_puti (pc := 57) C (Cn := RX2) (T := TX2) (N := 8) (ci := 2) (k := a) (j := 1) uX2_addBorough_X2 h_a.1 rfl (by decide) (by decide +kernel) tyX2 tyX2_ok nmX2 rfl (by decide +kernel) rfl eσ5 dX2_addBorough_57 ?_
    exact g_vret C dX2_addBorough_60 (Option.some.inj h)
theorem mX2_addBorough (l : Launch) (Z : Sh) {σ : Sg} {a : Nat} {v1 : Int32} {v2 : Int32} {v3 : Int32} {v4 : Int32} {u : Sg} (h_a : IsR a) (h : fX2_addBorough σ a v1 v2 v3 v4 = some u) : MV l Z layX yX2_addBorough wsX2_addBorough rX2_addBorough [.ref (ad Z a), .int v1, .int v2, .int v3, .int v4] σ u :=
  MV.of (cc := cX2_addBorough) (maxL := 5) (ret := none) (by decide) rfl (Nat.le_of_ble_eq_true rfl) (fun p e s m below meth c C => kX2_addBorough_e C h_a h)
