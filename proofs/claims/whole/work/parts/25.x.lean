def rX7_carry : Room := { frames := 3, cells := 0, slots := 0, locals := 65 }
theorem uX7_carry_X7 : ∀ w ∈ wsX70, w ∈ wsX7_carry := by decide +kernel
def fX7_carry (σ : Sg) (v1 : Int32) (v2 : Int32) : Option (Int32) := (fX2_hasLords σ 1 v1).bind fun t1 => if t1 = 0 then some (-1 : Int32) else if v2 = (0 : Int32) then (fX2_heldBy σ 1 v1).bind fun t2 => (fX2_seatsIn σ 1 t2).bind fun t3 => some t3 else if v2 = (1 : Int32) then (fX2_carries σ 1 v1).bind fun t4 => if t4 = 0 then some (0 : Int32) else some (1 : Int32) else some (-1 : Int32)
set_option maxHeartbeats 1000000 in
set_option maxRecDepth 20000 in
theorem kX7_carry_e {p : Program} {l : Launch} {e : Env} {s : State} {m : MethodId} {args : Array Value} {below : List Frame} {meth : Method} {c : Code} {Z : Sh} (C : Cx p s m args meth c cX7_carry 3 wsX7_carry RX7 (some .int) Z layX) {σ : Sg} {v1 : Int32} {v2 : Int32} {u : Int32}  (h : fX7_carry σ v1 v2 = some u) : G p l e rX7_carry s m args below meth c 3 Z layX (MQ below (QI Z layX σ u s.heap.size) args s 0 0 (pA Z layX s.heap.size)) σ 0 [(0, .ref (ad Z 0)), (1, .int v1), (2, .int v2)] [] := by
  unfold fX7_carry at h
  refine g_aload_n (pc := 0) C dX7_carry_0 rfl 0 rfl ?_
  refine g_getr (pc := 1) C (Cn := RX7) (T := TX7) (N := 11) (ci := 7) (k := 0) (j := 0) uX7_carry_X7 (by rfl) rfl (by decide) (by decide +kernel) (q := 1) rfl dX7_carry_1 ?_
  refine g_iload_n (pc := 4) C dX7_carry_4 rfl 1 rfl ?_
  obtain ⟨t1, et1, h⟩ := bs h
  refine g_callVi (pc := 5) C (As := [.int v1]) (rest := []) (k := 1) (by rfl) (by rfl) (cwV 1 C.2.2.2.2.2.1 gX7_carry_X2_hasLords rfl rfl rfl (by decide +kernel) ⟨Nat.le_of_ble_eq_true rfl, Nat.le_of_ble_eq_true rfl⟩) (mX2_hasLords l Z isR1 et1) rfl rfl (Nat.le_of_ble_eq_true rfl) dX7_carry_5 ?_
  refine g_if_ne (pc := 8) C (tgt := 13) dX7_carry_8 (by decide) h (fun hc8 h => ?_) (fun hc8 h => ?_)
  · refine g_iload_n (pc := 13) C dX7_carry_13 rfl 2 rfl ?_
    refine g_lk (pc := 14) C (off := 26) (tgt := 40) (0 : Int32) dX7_carry_14 (by decide) (by decide) (by decide) h (fun hc14 h => ?_) (fun hn14_0 h => ?_)
    · refine g_aload_n (pc := 40) C dX7_carry_40 rfl 0 rfl ?_
      refine g_getr (pc := 41) C (Cn := RX7) (T := TX7) (N := 11) (ci := 7) (k := 0) (j := 0) uX7_carry_X7 (by rfl) rfl (by decide) (by decide +kernel) (q := 1) rfl dX7_carry_41 ?_
      refine g_aload_n (pc := 44) C dX7_carry_44 rfl 0 rfl ?_
      refine g_getr (pc := 45) C (Cn := RX7) (T := TX7) (N := 11) (ci := 7) (k := 0) (j := 0) uX7_carry_X7 (by rfl) rfl (by decide) (by decide +kernel) (q := 1) rfl dX7_carry_45 ?_
      refine g_iload_n (pc := 48) C dX7_carry_48 rfl 1 rfl ?_
      obtain ⟨t2, et2, h⟩ := bs h
      refine g_callVi (pc := 49) C (As := [.int v1]) (rest := [.ref (ad Z 1)]) (k := 1) (by rfl) (by rfl) (cwV 1 C.2.2.2.2.2.1 gX7_carry_X2_heldBy rfl rfl rfl (by decide +kernel) ⟨Nat.le_of_ble_eq_true rfl, Nat.le_of_ble_eq_true rfl⟩) (mX2_heldBy l Z isR1 et2) rfl rfl (Nat.le_of_ble_eq_true rfl) dX7_carry_49 ?_
      obtain ⟨t3, et3, h⟩ := bs h
      refine g_callVi (pc := 52) C (As := [.int t2]) (rest := []) (k := 1) (by rfl) (by rfl) (cwV 1 C.2.2.2.2.2.1 gX7_carry_X2_seatsIn rfl rfl rfl (by decide +kernel) ⟨Nat.le_of_ble_eq_true rfl, Nat.le_of_ble_eq_true rfl⟩) (mX2_seatsIn l Z isR1 et3) rfl rfl (Nat.le_of_ble_eq_true rfl) dX7_carry_52 ?_
      exact g_iret C dX7_carry_55 rfl (Option.some.inj h)
    refine g_lk (pc := 14) C (off := 42) (tgt := 56) (1 : Int32) dX7_carry_14 (by decide) (by decide) (by decide) h (fun hc14 h => ?_) (fun hn14_1 h => ?_)
    · refine g_aload_n (pc := 56) C dX7_carry_56 rfl 0 rfl ?_
      refine g_getr (pc := 57) C (Cn := RX7) (T := TX7) (N := 11) (ci := 7) (k := 0) (j := 0) uX7_carry_X7 (by rfl) rfl (by decide) (by decide +kernel) (q := 1) rfl dX7_carry_57 ?_
      refine g_iload_n (pc := 60) C dX7_carry_60 rfl 1 rfl ?_
      obtain ⟨t4, et4, h⟩ := bs h
      refine g_callVi (pc := 61) C (As := [.int v1]) (rest := []) (k := 1) (by rfl) (by rfl) (cwV 1 C.2.2.2.2.2.1 gX7_carry_X2_carries rfl rfl rfl (by decide +kernel) ⟨Nat.le_of_ble_eq_true rfl, Nat.le_of_ble_eq_true rfl⟩) (mX2_carries l Z isR1 et4) rfl rfl (Nat.le_of_ble_eq_true rfl) dX7_carry_61 ?_
      refine g_if_eq (pc := 64) C (tgt := 71) dX7_carry_64 (by decide) h (fun hc64 h => ?_) (fun hc64 h => ?_)
      · refine g_iconst (pc := 71) C (v := (0 : Int32)) dX7_carry_71 (by decide) ?_
        exact g_iret C dX7_carry_72 rfl (Option.some.inj h)
      · refine g_iconst (pc := 67) C (v := (1 : Int32)) dX7_carry_67 (by decide) ?_
        refine g_goto (pc := 68) C (tgt := 72) dX7_carry_68 (by decide) ?_
        exact g_iret C dX7_carry_72 rfl (Option.some.inj h)
    refine g_lsw (pc := 14) C (off := 59) (tgt := 73) dX7_carry_14 (by decide) (by have z0 := ne_ti hn14_0; have z1 := ne_ti hn14_1; simp at z0 z1; simp [Op.lookupswitch.offset]; omega) (by decide) ?_
    refine g_iconst (pc := 73) C (v := (-1 : Int32)) dX7_carry_73 (by decide) ?_
    exact g_iret C dX7_carry_74 rfl (Option.some.inj h)
  · refine g_iconst (pc := 11) C (v := (-1 : Int32)) dX7_carry_11 (by decide) ?_
    exact g_iret C dX7_carry_12 rfl (Option.some.inj h)
theorem mX7_carry (l : Launch) (Z : Sh) {σ : Sg} {v1 : Int32} {v2 : Int32} {u : Int32}  (h : fX7_carry σ v1 v2 = some u) : MI l Z layX yX7_carry wsX7_carry rX7_carry [.ref (ad Z 0), .int v1, .int v2] σ σ u :=
  MI.of (cc := cX7_carry) (maxL := 3) (ret := (some .int)) (by decide) rfl (Nat.le_of_ble_eq_true rfl) (fun p e s m below meth c C => kX7_carry_e C  h)

def rX7_swings : Room := { frames := 3, cells := 0, slots := 0, locals := 68 }
theorem uX7_swings_X7 : ∀ w ∈ wsX70, w ∈ wsX7_swings := by decide +kernel
def fX7_swings (σ : Sg) (v1 : Int32) : Option (Sg × Int32) := (fX2_hasLord σ 1 v1).bind fun t1 => if t1 = 0 then some (σ, (-1 : Int32)) else (fX0_gather σ 1).bind fun σ2 => (fX0_swingsOf σ2 v1).bind fun u3 => some (u3.1, u3.2)
set_option maxHeartbeats 1000000 in
set_option maxRecDepth 20000 in
theorem kX7_swings_e {p : Program} {l : Launch} {e : Env} {s : State} {m : MethodId} {args : Array Value} {below : List Frame} {meth : Method} {c : Code} {Z : Sh} (C : Cx p s m args meth c cX7_swings 2 wsX7_swings RX7 (some .int) Z layX) {σ : Sg} {v1 : Int32} {u : Sg × Int32}  (h : fX7_swings σ v1 = some u) : G p l e rX7_swings s m args below meth c 2 Z layX (MQ below (QI Z layX u.1 u.2 s.heap.size) args s 0 0 (pA Z layX s.heap.size)) σ 0 [(0, .ref (ad Z 0)), (1, .int v1)] [] := by
  unfold fX7_swings at h
  refine g_aload_n (pc := 0) C dX7_swings_0 rfl 0 rfl ?_
  refine g_getr (pc := 1) C (Cn := RX7) (T := TX7) (N := 11) (ci := 7) (k := 0) (j := 0) uX7_swings_X7 (by rfl) rfl (by decide) (by decide +kernel) (q := 1) rfl dX7_swings_1 ?_
  refine g_iload_n (pc := 4) C dX7_swings_4 rfl 1 rfl ?_
  obtain ⟨t1, et1, h⟩ := bs h
  refine g_callVi (pc := 5) C (As := [.int v1]) (rest := []) (k := 1) (by rfl) (by rfl) (cwV 1 C.2.2.2.2.2.1 gX7_swings_X2_hasLord rfl rfl rfl (by decide +kernel) ⟨Nat.le_of_ble_eq_true rfl, Nat.le_of_ble_eq_true rfl⟩) (mX2_hasLord l Z isR1 et1) rfl rfl (Nat.le_of_ble_eq_true rfl) dX7_swings_5 ?_
  refine g_if_ne (pc := 8) C (tgt := 13) dX7_swings_8 (by decide) h (fun hc8 h => ?_) (fun hc8 h => ?_)
  · refine g_aload_n (pc := 13) C dX7_swings_13 rfl 0 rfl ?_
    refine g_getr (pc := 14) C (Cn := RX7) (T := TX7) (N := 11) (ci := 7) (k := 0) (j := 6) uX7_swings_X7 (by rfl) rfl (by decide) (by decide +kernel) (q := 34) rfl dX7_swings_14 ?_
    refine g_aload_n (pc := 17) C dX7_swings_17 rfl 0 rfl ?_
    refine g_getr (pc := 18) C (Cn := RX7) (T := TX7) (N := 11) (ci := 7) (k := 0) (j := 0) uX7_swings_X7 (by rfl) rfl (by decide) (by decide +kernel) (q := 1) rfl dX7_swings_18 ?_
    obtain ⟨σ2, eσ2, h⟩ := bs h
    refine g_callVv (pc := 21) C (As := [.ref (ad Z 1)]) (rest := []) (k := 34) (by rfl) (by rfl) (cwV 1 C.2.2.2.2.2.1 gX7_swings_X0_gather rfl rfl rfl (by decide +kernel) ⟨Nat.le_of_ble_eq_true rfl, Nat.le_of_ble_eq_true rfl⟩) (mX0_gather l Z isR1 eσ2) rfl rfl (Nat.le_of_ble_eq_true rfl) dX7_swings_21 ?_
    refine g_aload_n (pc := 24) C dX7_swings_24 rfl 0 rfl ?_
    refine g_getr (pc := 25) C (Cn := RX7) (T := TX7) (N := 11) (ci := 7) (k := 0) (j := 6) uX7_swings_X7 (by rfl) rfl (by decide) (by decide +kernel) (q := 34) rfl dX7_swings_25 ?_
    refine g_iload_n (pc := 28) C dX7_swings_28 rfl 1 rfl ?_
    obtain ⟨u3, eu3, h⟩ := bs h
    refine g_callVi (pc := 29) C (As := [.int v1]) (rest := []) (k := 34) (by rfl) (by rfl) (cwV 1 C.2.2.2.2.2.1 gX7_swings_X0_swingsOf rfl rfl rfl (by decide +kernel) ⟨Nat.le_of_ble_eq_true rfl, Nat.le_of_ble_eq_true rfl⟩) (mX0_swingsOf l Z  eu3) rfl rfl (Nat.le_of_ble_eq_true rfl) dX7_swings_29 ?_
    exact g_iret C dX7_swings_32 (pfst h) (psnd h)
  · refine g_iconst (pc := 11) C (v := (-1 : Int32)) dX7_swings_11 (by decide) ?_
    exact g_iret C dX7_swings_12 (pfst h) (psnd h)
theorem mX7_swings (l : Launch) (Z : Sh) {σ : Sg} {v1 : Int32} {u : Sg × Int32}  (h : fX7_swings σ v1 = some u) : MI l Z layX yX7_swings wsX7_swings rX7_swings [.ref (ad Z 0), .int v1] σ u.1 u.2 :=
  MI.of (cc := cX7_swings) (maxL := 2) (ret := (some .int)) (by decide) rfl (Nat.le_of_ble_eq_true rfl) (fun p e s m below meth c C => kX7_swings_e C  h)

def rX7_commonDivisor : Room := { frames := 0, cells := 0, slots := 0, locals := 0 }
def fX7_commonDivisor_l9 (v0 : Int64) (v2 : Int64)  : Nat → Int64 → Int64 → Int32 → Option (Int64)
  | 0, _, _, _ => none
  | n + 1, v4, v6, v8 => if (100 : Int32) ≤ v8 then some v4 else if (lg_cmp v6 (0 : Int64)) = 0 then some v4 else (rmL v4 v6).bind fun t1 => fX7_commonDivisor_l9 v0 v2 n v6 t1 (v8 + 1)
def fX7_commonDivisor (v0 : Int64) (v2 : Int64) : Option (Int64) := fX7_commonDivisor_l9 v0 v2 2000 v0 v2 (0 : Int32)
set_option maxHeartbeats 1000000 in
set_option maxRecDepth 20000 in
theorem kX7_commonDivisor_l9 {p : Program} {l : Launch} {e : Env} {s : State} {m : MethodId} {args : Array Value} {below : List Frame} {meth : Method} {c : Code} {Z : Sh} (C : Cx p s m args meth c cX7_commonDivisor 11 wsX7_commonDivisor RX7 (some .long) Z layX) {σ : Sg} {v0 : Int64} {v2 : Int64} {u : Int64}   : ∀ (n : Nat) (v4 : Int64) (v6 : Int64) (v8 : Int32), fX7_commonDivisor_l9 v0 v2 n v4 v6 v8 = some u → G p l e rX7_commonDivisor s m args below meth c 11 Z layX (MQ below (QL Z layX σ u s.heap.size) args s 0 0 (pA Z layX s.heap.size)) σ 9 [(4, .long v4), (6, .long v6), (8, .int v8)] [] := by
  intro n
  induction n with
  | zero => intro v4 v6 v8 h; exact absurd h (by simp [fX7_commonDivisor_l9])
  | succ n ih =>
    intro v4 v6 v8 h
    rw [fX7_commonDivisor_l9] at h
    refine g_iload (pc := 9) C dX7_commonDivisor_9 2 rfl ?_
    refine g_bipush (pc := 11) C (v := (100 : Int32)) dX7_commonDivisor_11 (by decide) ?_
    refine g_icmp_ge (pc := 13) C (tgt := 44) dX7_commonDivisor_13 (by decide) h (fun hc13 h => ?_) (fun hc13 h => ?_)
    · refine g_lload (pc := 44) C dX7_commonDivisor_44 0 rfl ?_
      exact g_lret C dX7_commonDivisor_46 rfl (Option.some.inj h)
    · refine g_lload (pc := 16) C dX7_commonDivisor_16 1 rfl ?_
      refine g_lconst (pc := 18) C (v := (0 : Int64)) dX7_commonDivisor_18 (by decide) ?_
      refine g_lcmp (pc := 19) C dX7_commonDivisor_19 ?_
      refine g_if_eq (pc := 20) C (tgt := 44) dX7_commonDivisor_20 (by decide) h (fun hc20 h => ?_) (fun hc20 h => ?_)
      · refine g_lload (pc := 44) C dX7_commonDivisor_44 0 rfl ?_
        exact g_lret C dX7_commonDivisor_46 rfl (Option.some.inj h)
      · refine g_lload (pc := 23) C dX7_commonDivisor_23 0 rfl ?_
        refine g_lload (pc := 25) C dX7_commonDivisor_25 1 rfl ?_
        obtain ⟨t1, et1, h⟩ := bs h
        refine g_lrem (pc := 27) C dX7_commonDivisor_27 et1 ?_
        refine g_lstore (pc := 28) C (lv2 := [(9, .long t1), (4, .long v4), (6, .long v6), (8, .int v8)]) dX7_commonDivisor_28 (by decide) rfl ?_
        refine g_lload (pc := 30) C dX7_commonDivisor_30 2 rfl ?_
        refine g_lstore (pc := 32) C (lv2 := [(4, .long v6), (9, .long t1), (6, .long v6), (8, .int v8)]) dX7_commonDivisor_32 (by decide) rfl ?_
        refine g_lload (pc := 34) C dX7_commonDivisor_34 1 rfl ?_
        refine g_lstore (pc := 36) C (lv2 := [(6, .long t1), (4, .long v6), (9, .long t1), (8, .int v8)]) dX7_commonDivisor_36 (by decide) rfl ?_
        refine g_iinc (pc := 38) C (j := 3) (v := (v8 + 1)) (lv2 := [(8, .int (v8 + 1)), (6, .long t1), (4, .long v6), (9, .long t1)]) dX7_commonDivisor_38 rfl rfl (by decide) rfl ?_
        refine g_goto (pc := 41) C (tgt := 9) dX7_commonDivisor_41 (by decide) ?_
        exact g_sub [2, 1, 0] rfl (ih _ _ _ h)
set_option maxHeartbeats 1000000 in
set_option maxRecDepth 20000 in
theorem kX7_commonDivisor_e {p : Program} {l : Launch} {e : Env} {s : State} {m : MethodId} {args : Array Value} {below : List Frame} {meth : Method} {c : Code} {Z : Sh} (C : Cx p s m args meth c cX7_commonDivisor 11 wsX7_commonDivisor RX7 (some .long) Z layX) {σ : Sg} {v0 : Int64} {v2 : Int64} {u : Int64}  (h : fX7_commonDivisor v0 v2 = some u) : G p l e rX7_commonDivisor s m args below meth c 11 Z layX (MQ below (QL Z layX σ u s.heap.size) args s 0 0 (pA Z layX s.heap.size)) σ 0 [(0, .long v0), (2, .long v2)] [] := by
  unfold fX7_commonDivisor at h
  refine g_lload_n (pc := 0) C dX7_commonDivisor_0 rfl 0 rfl ?_
  refine g_lstore (pc := 1) C (lv2 := [(4, .long v0), (0, .long v0), (2, .long v2)]) dX7_commonDivisor_1 (by decide) rfl ?_
  refine g_lload_n (pc := 3) C dX7_commonDivisor_3 rfl 2 rfl ?_
  refine g_lstore (pc := 4) C (lv2 := [(6, .long v2), (4, .long v0), (0, .long v0), (2, .long v2)]) dX7_commonDivisor_4 (by decide) rfl ?_
  refine g_iconst (pc := 6) C (v := (0 : Int32)) dX7_commonDivisor_6 (by decide) ?_
  refine g_istore (pc := 7) C (lv2 := [(8, .int (0 : Int32)), (6, .long v2), (4, .long v0), (0, .long v0), (2, .long v2)]) dX7_commonDivisor_7 (by decide) rfl ?_
  exact g_sub [2, 1, 0] rfl (kX7_commonDivisor_l9 C   _ _ _ _ h)
theorem mX7_commonDivisor (l : Launch) (Z : Sh) {σ : Sg} {v0 : Int64} {v2 : Int64} {u : Int64}  (h : fX7_commonDivisor v0 v2 = some u) : ML l Z layX yX7_commonDivisor wsX7_commonDivisor rX7_commonDivisor [.long v0, .long v2] σ σ u :=
  ML.of (cc := cX7_commonDivisor) (maxL := 11) (ret := (some .long)) (by decide) rfl (Nat.le_of_ble_eq_true rfl) (fun p e s m below meth c C => kX7_commonDivisor_e C  h)

def rX7_fraction : Room := { frames := 1, cells := 0, slots := 0, locals := 30 }
def fX7_fraction (v0 : Int64) (v2 : Int64) (v4 : Int32) : Option (Int64) := (fX7_commonDivisor v0 v2).bind fun t1 => if 0 < (lg_cmp t1 (0 : Int64)) then if v4 = 0 then (dvL v0 t1).bind fun t3 => some t3 else (dvL v2 t1).bind fun t2 => some t2 else some (0 : Int64)
set_option maxHeartbeats 1000000 in
set_option maxRecDepth 20000 in
theorem kX7_fraction_e {p : Program} {l : Launch} {e : Env} {s : State} {m : MethodId} {args : Array Value} {below : List Frame} {meth : Method} {c : Code} {Z : Sh} (C : Cx p s m args meth c cX7_fraction 7 wsX7_fraction RX7 (some .long) Z layX) {σ : Sg} {v0 : Int64} {v2 : Int64} {v4 : Int32} {u : Int64}  (h : fX7_fraction v0 v2 v4 = some u) : G p l e rX7_fraction s m args below meth c 7 Z layX (MQ below (QL Z layX σ u s.heap.size) args s 0 0 (pA Z layX s.heap.size)) σ 0 [(0, .long v0), (2, .long v2), (4, .int v4)] [] := by
  unfold fX7_fraction at h
  refine g_lload_n (pc := 0) C dX7_fraction_0 rfl 0 rfl ?_
  refine g_lload_n (pc := 1) C dX7_fraction_1 rfl 1 rfl ?_
  obtain ⟨t1, et1, h⟩ := bs h
  refine g_callSl (pc := 2) C (As := [.long v0, .long v2]) (rest := []) (va_cwS 2 C.2.2.2.2.2.1 gX7_fraction_X7_commonDivisor rfl rfl rfl (by decide +kernel) ⟨Nat.le_of_ble_eq_true rfl, Nat.le_of_ble_eq_true rfl⟩) (mX7_commonDivisor l Z  et1) rfl rfl (Nat.le_of_ble_eq_true rfl) dX7_fraction_2 ?_
  refine g_lstore (pc := 5) C (lv2 := [(5, .long t1), (0, .long v0), (2, .long v2), (4, .int v4)]) dX7_fraction_5 (by decide) rfl ?_
  refine g_lload (pc := 7) C dX7_fraction_7 0 rfl ?_
  refine g_lconst (pc := 9) C (v := (0 : Int64)) dX7_fraction_9 (by decide) ?_
  refine g_lcmp (pc := 10) C dX7_fraction_10 ?_
  refine g_if_gt (pc := 11) C (tgt := 18) dX7_fraction_11 (by decide) h (fun hc11 h => ?_) (fun hc11 h => ?_)
  · refine g_iload (pc := 18) C dX7_fraction_18 3 rfl ?_
    refine g_if_ne (pc := 20) C (tgt := 27) dX7_fraction_20 (by decide) h (fun hc20 h => ?_) (fun hc20 h => ?_)
    · refine g_lload_n (pc := 27) C dX7_fraction_27 rfl 2 rfl ?_
      refine g_lload (pc := 28) C dX7_fraction_28 0 rfl ?_
      obtain ⟨t2, et2, h⟩ := bs h
      refine g_ldiv (pc := 30) C dX7_fraction_30 et2 ?_
      exact g_lret C dX7_fraction_31 rfl (Option.some.inj h)
    · refine g_lload_n (pc := 23) C dX7_fraction_23 rfl 1 rfl ?_
      refine g_goto (pc := 24) C (tgt := 28) dX7_fraction_24 (by decide) ?_
      refine g_lload (pc := 28) C dX7_fraction_28 0 rfl ?_
      obtain ⟨t3, et3, h⟩ := bs h
      refine g_ldiv (pc := 30) C dX7_fraction_30 et3 ?_
      exact g_lret C dX7_fraction_31 rfl (Option.some.inj h)
  · refine g_lconst (pc := 14) C (v := (0 : Int64)) dX7_fraction_14 (by decide) ?_
    refine g_goto (pc := 15) C (tgt := 31) dX7_fraction_15 (by decide) ?_
    exact g_lret C dX7_fraction_31 rfl (Option.some.inj h)
theorem mX7_fraction (l : Launch) (Z : Sh) {σ : Sg} {v0 : Int64} {v2 : Int64} {v4 : Int32} {u : Int64}  (h : fX7_fraction v0 v2 v4 = some u) : ML l Z layX yX7_fraction wsX7_fraction rX7_fraction [.long v0, .long v2, .int v4] σ σ u :=
  ML.of (cc := cX7_fraction) (maxL := 7) (ret := (some .long)) (by decide) rfl (Nat.le_of_ble_eq_true rfl) (fun p e s m below meth c C => kX7_fraction_e C  h)

def rX7_share : Room := { frames := 3, cells := 0, slots := 0, locals := 68 }
theorem uX7_share_X7 : ∀ w ∈ wsX70, w ∈ wsX7_share := by decide +kernel
def fX7_share (σ : Sg) (v1 : Int32) (v2 : Int32) : Option (Sg × Int64) := (fX2_hasLord σ 1 v1).bind fun t1 => if t1 = 0 then some (σ, (-1 : Int64)) else (fX7_within v2 (0 : Int32) (1 : Int32)).bind fun t2 => if t2 = 0 then some (σ, (-1 : Int64)) else (fX0_gather σ 1).bind fun σ3 => (fX0_shareOf σ3 v1).bind fun u4 => (fX7_fraction u4.2.toInt64 (3628800 : Int64) v2).bind fun t5 => some (u4.1, t5)
set_option maxHeartbeats 1000000 in
set_option maxRecDepth 20000 in
theorem kX7_share_e {p : Program} {l : Launch} {e : Env} {s : State} {m : MethodId} {args : Array Value} {below : List Frame} {meth : Method} {c : Code} {Z : Sh} (C : Cx p s m args meth c cX7_share 3 wsX7_share RX7 (some .long) Z layX) {σ : Sg} {v1 : Int32} {v2 : Int32} {u : Sg × Int64}  (h : fX7_share σ v1 v2 = some u) : G p l e rX7_share s m args below meth c 3 Z layX (MQ below (QL Z layX u.1 u.2 s.heap.size) args s 0 0 (pA Z layX s.heap.size)) σ 0 [(0, .ref (ad Z 0)), (1, .int v1), (2, .int v2)] [] := by
  unfold fX7_share at h
  refine g_aload_n (pc := 0) C dX7_share_0 rfl 0 rfl ?_
  refine g_getr (pc := 1) C (Cn := RX7) (T := TX7) (N := 11) (ci := 7) (k := 0) (j := 0) uX7_share_X7 (by rfl) rfl (by decide) (by decide +kernel) (q := 1) rfl dX7_share_1 ?_
  refine g_iload_n (pc := 4) C dX7_share_4 rfl 1 rfl ?_
  obtain ⟨t1, et1, h⟩ := bs h
  refine g_callVi (pc := 5) C (As := [.int v1]) (rest := []) (k := 1) (by rfl) (by rfl) (cwV 1 C.2.2.2.2.2.1 gX7_share_X2_hasLord rfl rfl rfl (by decide +kernel) ⟨Nat.le_of_ble_eq_true rfl, Nat.le_of_ble_eq_true rfl⟩) (mX2_hasLord l Z isR1 et1) rfl rfl (Nat.le_of_ble_eq_true rfl) dX7_share_5 ?_
  refine g_if_eq (pc := 8) C (tgt := 20) dX7_share_8 (by decide) h (fun hc8 h => ?_) (fun hc8 h => ?_)
  · refine g_ldc2 (pc := 20) C (v := (-1 : Int64)) (by decide +kernel) dX7_share_20 ?_
    exact g_lret C dX7_share_23 (pfst h) (psnd h)
  · refine g_iload_n (pc := 11) C dX7_share_11 rfl 2 rfl ?_
    refine g_iconst (pc := 12) C (v := (0 : Int32)) dX7_share_12 (by decide) ?_
    refine g_iconst (pc := 13) C (v := (1 : Int32)) dX7_share_13 (by decide) ?_
    obtain ⟨t2, et2, h⟩ := bs h
    refine g_callSi (pc := 14) C (As := [.int v2, .int (0 : Int32), .int (1 : Int32)]) (rest := []) (va_cwS 3 C.2.2.2.2.2.1 gX7_share_X7_within rfl rfl rfl (by decide +kernel) ⟨Nat.le_of_ble_eq_true rfl, Nat.le_of_ble_eq_true rfl⟩) (mX7_within l Z  et2) rfl rfl (Nat.le_of_ble_eq_true rfl) dX7_share_14 ?_
    refine g_if_ne (pc := 17) C (tgt := 24) dX7_share_17 (by decide) h (fun hc17 h => ?_) (fun hc17 h => ?_)
    · refine g_aload_n (pc := 24) C dX7_share_24 rfl 0 rfl ?_
      refine g_getr (pc := 25) C (Cn := RX7) (T := TX7) (N := 11) (ci := 7) (k := 0) (j := 6) uX7_share_X7 (by rfl) rfl (by decide) (by decide +kernel) (q := 34) rfl dX7_share_25 ?_
      refine g_aload_n (pc := 28) C dX7_share_28 rfl 0 rfl ?_
      refine g_getr (pc := 29) C (Cn := RX7) (T := TX7) (N := 11) (ci := 7) (k := 0) (j := 0) uX7_share_X7 (by rfl) rfl (by decide) (by decide +kernel) (q := 1) rfl dX7_share_29 ?_
      obtain ⟨σ3, eσ3, h⟩ := bs h
      refine g_callVv (pc := 32) C (As := [.ref (ad Z 1)]) (rest := []) (k := 34) (by rfl) (by rfl) (cwV 1 C.2.2.2.2.2.1 gX7_share_X0_gather rfl rfl rfl (by decide +kernel) ⟨Nat.le_of_ble_eq_true rfl, Nat.le_of_ble_eq_true rfl⟩) (mX0_gather l Z isR1 eσ3) rfl rfl (Nat.le_of_ble_eq_true rfl) dX7_share_32 ?_
      refine g_aload_n (pc := 35) C dX7_share_35 rfl 0 rfl ?_
      refine g_getr (pc := 36) C (Cn := RX7) (T := TX7) (N := 11) (ci := 7) (k := 0) (j := 6) uX7_share_X7 (by rfl) rfl (by decide) (by decide +kernel) (q := 34) rfl dX7_share_36 ?_
      refine g_iload_n (pc := 39) C dX7_share_39 rfl 1 rfl ?_
      obtain ⟨u4, eu4, h⟩ := bs h
      refine g_callVi (pc := 40) C (As := [.int v1]) (rest := []) (k := 34) (by rfl) (by rfl) (cwV 1 C.2.2.2.2.2.1 gX7_share_X0_shareOf rfl rfl rfl (by decide +kernel) ⟨Nat.le_of_ble_eq_true rfl, Nat.le_of_ble_eq_true rfl⟩) (mX0_shareOf l Z  eu4) rfl rfl (Nat.le_of_ble_eq_true rfl) dX7_share_40 ?_
      refine g_i2l (pc := 43) C dX7_share_43 ?_
      refine g_ldc2 (pc := 44) C (v := (3628800 : Int64)) (by decide +kernel) dX7_share_44 ?_
      refine g_iload_n (pc := 47) C dX7_share_47 rfl 2 rfl ?_
      obtain ⟨t5, et5, h⟩ := bs h
      refine g_callSl (pc := 48) C (As := [.long u4.2.toInt64, .long (3628800 : Int64), .int v2]) (rest := []) (va_cwS 3 C.2.2.2.2.2.1 gX7_share_X7_fraction rfl rfl rfl (by decide +kernel) ⟨Nat.le_of_ble_eq_true rfl, Nat.le_of_ble_eq_true rfl⟩) (mX7_fraction l Z  et5) rfl rfl (Nat.le_of_ble_eq_true rfl) dX7_share_48 ?_
      exact g_lret C dX7_share_51 (pfst h) (psnd h)
    · refine g_ldc2 (pc := 20) C (v := (-1 : Int64)) (by decide +kernel) dX7_share_20 ?_
      exact g_lret C dX7_share_23 (pfst h) (psnd h)
theorem mX7_share (l : Launch) (Z : Sh) {σ : Sg} {v1 : Int32} {v2 : Int32} {u : Sg × Int64}  (h : fX7_share σ v1 v2 = some u) : ML l Z layX yX7_share wsX7_share rX7_share [.ref (ad Z 0), .int v1, .int v2] σ u.1 u.2 :=
  ML.of (cc := cX7_share) (maxL := 3) (ret := (some .long)) (by decide) rfl (Nat.le_of_ble_eq_true rfl) (fun p e s m below meth c C => kX7_share_e C  h)

def rJ6_bitCount_0f7a4 : Room := { frames := 0, cells := 0, slots := 0, locals := 0 }
def fJ6_bitCount_0f7a4 (v0 : Int32) : Option (Int32) := some ((((((((v0 - (((v0.toUInt32 >>> ((1 : Int32).toUInt32 &&& Int32.toUInt32 31)).toInt32) &&& (1431655765 : Int32))) &&& (858993459 : Int32)) + ((((v0 - (((v0.toUInt32 >>> ((1 : Int32).toUInt32 &&& Int32.toUInt32 31)).toInt32) &&& (1431655765 : Int32))).toUInt32 >>> ((2 : Int32).toUInt32 &&& Int32.toUInt32 31)).toInt32) &&& (858993459 : Int32))) + (((((v0 - (((v0.toUInt32 >>> ((1 : Int32).toUInt32 &&& Int32.toUInt32 31)).toInt32) &&& (1431655765 : Int32))) &&& (858993459 : Int32)) + ((((v0 - (((v0.toUInt32 >>> ((1 : Int32).toUInt32 &&& Int32.toUInt32 31)).toInt32) &&& (1431655765 : Int32))).toUInt32 >>> ((2 : Int32).toUInt32 &&& Int32.toUInt32 31)).toInt32) &&& (858993459 : Int32))).toUInt32 >>> ((4 : Int32).toUInt32 &&& Int32.toUInt32 31)).toInt32)) &&& (252645135 : Int32)) + (((((((v0 - (((v0.toUInt32 >>> ((1 : Int32).toUInt32 &&& Int32.toUInt32 31)).toInt32) &&& (1431655765 : Int32))) &&& (858993459 : Int32)) + ((((v0 - (((v0.toUInt32 >>> ((1 : Int32).toUInt32 &&& Int32.toUInt32 31)).toInt32) &&& (1431655765 : Int32))).toUInt32 >>> ((2 : Int32).toUInt32 &&& Int32.toUInt32 31)).toInt32) &&& (858993459 : Int32))) + (((((v0 - (((v0.toUInt32 >>> ((1 : Int32).toUInt32 &&& Int32.toUInt32 31)).toInt32) &&& (1431655765 : Int32))) &&& (858993459 : Int32)) + ((((v0 - (((v0.toUInt32 >>> ((1 : Int32).toUInt32 &&& Int32.toUInt32 31)).toInt32) &&& (1431655765 : Int32))).toUInt32 >>> ((2 : Int32).toUInt32 &&& Int32.toUInt32 31)).toInt32) &&& (858993459 : Int32))).toUInt32 >>> ((4 : Int32).toUInt32 &&& Int32.toUInt32 31)).toInt32)) &&& (252645135 : Int32)).toUInt32 >>> ((8 : Int32).toUInt32 &&& Int32.toUInt32 31)).toInt32)) + ((((((((v0 - (((v0.toUInt32 >>> ((1 : Int32).toUInt32 &&& Int32.toUInt32 31)).toInt32) &&& (1431655765 : Int32))) &&& (858993459 : Int32)) + ((((v0 - (((v0.toUInt32 >>> ((1 : Int32).toUInt32 &&& Int32.toUInt32 31)).toInt32) &&& (1431655765 : Int32))).toUInt32 >>> ((2 : Int32).toUInt32 &&& Int32.toUInt32 31)).toInt32) &&& (858993459 : Int32))) + (((((v0 - (((v0.toUInt32 >>> ((1 : Int32).toUInt32 &&& Int32.toUInt32 31)).toInt32) &&& (1431655765 : Int32))) &&& (858993459 : Int32)) + ((((v0 - (((v0.toUInt32 >>> ((1 : Int32).toUInt32 &&& Int32.toUInt32 31)).toInt32) &&& (1431655765 : Int32))).toUInt32 >>> ((2 : Int32).toUInt32 &&& Int32.toUInt32 31)).toInt32) &&& (858993459 : Int32))).toUInt32 >>> ((4 : Int32).toUInt32 &&& Int32.toUInt32 31)).toInt32)) &&& (252645135 : Int32)) + (((((((v0 - (((v0.toUInt32 >>> ((1 : Int32).toUInt32 &&& Int32.toUInt32 31)).toInt32) &&& (1431655765 : Int32))) &&& (858993459 : Int32)) + ((((v0 - (((v0.toUInt32 >>> ((1 : Int32).toUInt32 &&& Int32.toUInt32 31)).toInt32) &&& (1431655765 : Int32))).toUInt32 >>> ((2 : Int32).toUInt32 &&& Int32.toUInt32 31)).toInt32) &&& (858993459 : Int32))) + (((((v0 - (((v0.toUInt32 >>> ((1 : Int32).toUInt32 &&& Int32.toUInt32 31)).toInt32) &&& (1431655765 : Int32))) &&& (858993459 : Int32)) + ((((v0 - (((v0.toUInt32 >>> ((1 : Int32).toUInt32 &&& Int32.toUInt32 31)).toInt32) &&& (1431655765 : Int32))).toUInt32 >>> ((2 : Int32).toUInt32 &&& Int32.toUInt32 31)).toInt32) &&& (858993459 : Int32))).toUInt32 >>> ((4 : Int32).toUInt32 &&& Int32.toUInt32 31)).toInt32)) &&& (252645135 : Int32)).toUInt32 >>> ((8 : Int32).toUInt32 &&& Int32.toUInt32 31)).toInt32)).toUInt32 >>> ((16 : Int32).toUInt32 &&& Int32.toUInt32 31)).toInt32)) &&& (63 : Int32))
set_option maxHeartbeats 1000000 in
set_option maxRecDepth 20000 in
theorem kJ6_bitCount_0f7a4_e {p : Program} {l : Launch} {e : Env} {s : State} {m : MethodId} {args : Array Value} {below : List Frame} {meth : Method} {c : Code} {Z : Sh} (C : Cx p s m args meth c cJ6_bitCount_0f7a4 1 wsJ6_bitCount_0f7a4 RJ6 (some .int) Z layX) {σ : Sg} {v0 : Int32} {u : Int32}  (h : fJ6_bitCount_0f7a4 v0 = some u) : G p l e rJ6_bitCount_0f7a4 s m args below meth c 1 Z layX (MQ below (QI Z layX σ u s.heap.size) args s 0 0 (pA Z layX s.heap.size)) σ 0 [(0, .int v0)] [] := by
  unfold fJ6_bitCount_0f7a4 at h
  refine g_iload_n (pc := 0) C dJ6_bitCount_0f7a4_0 rfl 0 rfl ?_
  refine g_iload_n (pc := 1) C dJ6_bitCount_0f7a4_1 rfl 0 rfl ?_
  refine g_iconst (pc := 2) C (v := (1 : Int32)) dJ6_bitCount_0f7a4_2 (by decide) ?_
  refine g_iushr (pc := 3) C dJ6_bitCount_0f7a4_3 ?_
  refine g_ldcw (pc := 4) C (v := (1431655765 : Int32)) (by decide +kernel) dJ6_bitCount_0f7a4_4 ?_
  refine g_iand (pc := 7) C dJ6_bitCount_0f7a4_7 ?_
  refine g_isub (pc := 8) C dJ6_bitCount_0f7a4_8 ?_
  refine g_istore_n (pc := 9) C (lv2 := [(0, .int (v0 - (((v0.toUInt32 >>> ((1 : Int32).toUInt32 &&& Int32.toUInt32 31)).toInt32) &&& (1431655765 : Int32))))]) dJ6_bitCount_0f7a4_9 rfl (by decide) rfl ?_
  refine g_iload_n (pc := 10) C dJ6_bitCount_0f7a4_10 rfl 0 rfl ?_
  refine g_ldcw (pc := 11) C (v := (858993459 : Int32)) (by decide +kernel) dJ6_bitCount_0f7a4_11 ?_
  refine g_iand (pc := 14) C dJ6_bitCount_0f7a4_14 ?_
  refine g_iload_n (pc := 15) C dJ6_bitCount_0f7a4_15 rfl 0 rfl ?_
  refine g_iconst (pc := 16) C (v := (2 : Int32)) dJ6_bitCount_0f7a4_16 (by decide) ?_
  refine g_iushr (pc := 17) C dJ6_bitCount_0f7a4_17 ?_
  refine g_ldcw (pc := 18) C (v := (858993459 : Int32)) (by decide +kernel) dJ6_bitCount_0f7a4_18 ?_
  refine g_iand (pc := 21) C dJ6_bitCount_0f7a4_21 ?_
  refine g_iadd (pc := 22) C dJ6_bitCount_0f7a4_22 ?_
  refine g_istore_n (pc := 23) C (lv2 := [(0, .int (((v0 - (((v0.toUInt32 >>> ((1 : Int32).toUInt32 &&& Int32.toUInt32 31)).toInt32) &&& (1431655765 : Int32))) &&& (858993459 : Int32)) + ((((v0 - (((v0.toUInt32 >>> ((1 : Int32).toUInt32 &&& Int32.toUInt32 31)).toInt32) &&& (1431655765 : Int32))).toUInt32 >>> ((2 : Int32).toUInt32 &&& Int32.toUInt32 31)).toInt32) &&& (858993459 : Int32))))]) dJ6_bitCount_0f7a4_23 rfl (by decide) rfl ?_
  refine g_iload_n (pc := 24) C dJ6_bitCount_0f7a4_24 rfl 0 rfl ?_
  refine g_iload_n (pc := 25) C dJ6_bitCount_0f7a4_25 rfl 0 rfl ?_
  refine g_iconst (pc := 26) C (v := (4 : Int32)) dJ6_bitCount_0f7a4_26 (by decide) ?_
  refine g_iushr (pc := 27) C dJ6_bitCount_0f7a4_27 ?_
  refine g_iadd (pc := 28) C dJ6_bitCount_0f7a4_28 ?_
  refine g_ldcw (pc := 29) C (v := (252645135 : Int32)) (by decide +kernel) dJ6_bitCount_0f7a4_29 ?_
  refine g_iand (pc := 32) C dJ6_bitCount_0f7a4_32 ?_
  refine g_istore_n (pc := 33) C (lv2 := [(0, .int (((((v0 - (((v0.toUInt32 >>> ((1 : Int32).toUInt32 &&& Int32.toUInt32 31)).toInt32) &&& (1431655765 : Int32))) &&& (858993459 : Int32)) + ((((v0 - (((v0.toUInt32 >>> ((1 : Int32).toUInt32 &&& Int32.toUInt32 31)).toInt32) &&& (1431655765 : Int32))).toUInt32 >>> ((2 : Int32).toUInt32 &&& Int32.toUInt32 31)).toInt32) &&& (858993459 : Int32))) + (((((v0 - (((v0.toUInt32 >>> ((1 : Int32).toUInt32 &&& Int32.toUInt32 31)).toInt32) &&& (1431655765 : Int32))) &&& (858993459 : Int32)) + ((((v0 - (((v0.toUInt32 >>> ((1 : Int32).toUInt32 &&& Int32.toUInt32 31)).toInt32) &&& (1431655765 : Int32))).toUInt32 >>> ((2 : Int32).toUInt32 &&& Int32.toUInt32 31)).toInt32) &&& (858993459 : Int32))).toUInt32 >>> ((4 : Int32).toUInt32 &&& Int32.toUInt32 31)).toInt32)) &&& (252645135 : Int32)))]) dJ6_bitCount_0f7a4_33 rfl (by decide) rfl ?_
  refine g_iload_n (pc := 34) C dJ6_bitCount_0f7a4_34 rfl 0 rfl ?_
  refine g_iload_n (pc := 35) C dJ6_bitCount_0f7a4_35 rfl 0 rfl ?_
  refine g_bipush (pc := 36) C (v := (8 : Int32)) dJ6_bitCount_0f7a4_36 (by decide) ?_
  refine g_iushr (pc := 38) C dJ6_bitCount_0f7a4_38 ?_
  refine g_iadd (pc := 39) C dJ6_bitCount_0f7a4_39 ?_
  refine g_istore_n (pc := 40) C (lv2 := [(0, .int ((((((v0 - (((v0.toUInt32 >>> ((1 : Int32).toUInt32 &&& Int32.toUInt32 31)).toInt32) &&& (1431655765 : Int32))) &&& (858993459 : Int32)) + ((((v0 - (((v0.toUInt32 >>> ((1 : Int32).toUInt32 &&& Int32.toUInt32 31)).toInt32) &&& (1431655765 : Int32))).toUInt32 >>> ((2 : Int32).toUInt32 &&& Int32.toUInt32 31)).toInt32) &&& (858993459 : Int32))) + (((((v0 - (((v0.toUInt32 >>> ((1 : Int32).toUInt32 &&& Int32.toUInt32 31)).toInt32) &&& (1431655765 : Int32))) &&& (858993459 : Int32)) + ((((v0 - (((v0.toUInt32 >>> ((1 : Int32).toUInt32 &&& Int32.toUInt32 31)).toInt32) &&& (1431655765 : Int32))).toUInt32 >>> ((2 : Int32).toUInt32 &&& Int32.toUInt32 31)).toInt32) &&& (858993459 : Int32))).toUInt32 >>> ((4 : Int32).toUInt32 &&& Int32.toUInt32 31)).toInt32)) &&& (252645135 : Int32)) + (((((((v0 - (((v0.toUInt32 >>> ((1 : Int32).toUInt32 &&& Int32.toUInt32 31)).toInt32) &&& (1431655765 : Int32))) &&& (858993459 : Int32)) + ((((v0 - (((v0.toUInt32 >>> ((1 : Int32).toUInt32 &&& Int32.toUInt32 31)).toInt32) &&& (1431655765 : Int32))).toUInt32 >>> ((2 : Int32).toUInt32 &&& Int32.toUInt32 31)).toInt32) &&& (858993459 : Int32))) + (((((v0 - (((v0.toUInt32 >>> ((1 : Int32).toUInt32 &&& Int32.toUInt32 31)).toInt32) &&& (1431655765 : Int32))) &&& (858993459 : Int32)) + ((((v0 - (((v0.toUInt32 >>> ((1 : Int32).toUInt32 &&& Int32.toUInt32 31)).toInt32) &&& (1431655765 : Int32))).toUInt32 >>> ((2 : Int32).toUInt32 &&& Int32.toUInt32 31)).toInt32) &&& (858993459 : Int32))).toUInt32 >>> ((4 : Int32).toUInt32 &&& Int32.toUInt32 31)).toInt32)) &&& (252645135 : Int32)).toUInt32 >>> ((8 : Int32).toUInt32 &&& Int32.toUInt32 31)).toInt32)))]) dJ6_bitCount_0f7a4_40 rfl (by decide) rfl ?_
  refine g_iload_n (pc := 41) C dJ6_bitCount_0f7a4_41 rfl 0 rfl ?_
  refine g_iload_n (pc := 42) C dJ6_bitCount_0f7a4_42 rfl 0 rfl ?_
  refine g_bipush (pc := 43) C (v := (16 : Int32)) dJ6_bitCount_0f7a4_43 (by decide) ?_
  refine g_iushr (pc := 45) C dJ6_bitCount_0f7a4_45 ?_
  refine g_iadd (pc := 46) C dJ6_bitCount_0f7a4_46 ?_
  refine g_istore_n (pc := 47) C (lv2 := [(0, .int (((((((v0 - (((v0.toUInt32 >>> ((1 : Int32).toUInt32 &&& Int32.toUInt32 31)).toInt32) &&& (1431655765 : Int32))) &&& (858993459 : Int32)) + ((((v0 - (((v0.toUInt32 >>> ((1 : Int32).toUInt32 &&& Int32.toUInt32 31)).toInt32) &&& (1431655765 : Int32))).toUInt32 >>> ((2 : Int32).toUInt32 &&& Int32.toUInt32 31)).toInt32) &&& (858993459 : Int32))) + (((((v0 - (((v0.toUInt32 >>> ((1 : Int32).toUInt32 &&& Int32.toUInt32 31)).toInt32) &&& (1431655765 : Int32))) &&& (858993459 : Int32)) + ((((v0 - (((v0.toUInt32 >>> ((1 : Int32).toUInt32 &&& Int32.toUInt32 31)).toInt32) &&& (1431655765 : Int32))).toUInt32 >>> ((2 : Int32).toUInt32 &&& Int32.toUInt32 31)).toInt32) &&& (858993459 : Int32))).toUInt32 >>> ((4 : Int32).toUInt32 &&& Int32.toUInt32 31)).toInt32)) &&& (252645135 : Int32)) + (((((((v0 - (((v0.toUInt32 >>> ((1 : Int32).toUInt32 &&& Int32.toUInt32 31)).toInt32) &&& (1431655765 : Int32))) &&& (858993459 : Int32)) + ((((v0 - (((v0.toUInt32 >>> ((1 : Int32).toUInt32 &&& Int32.toUInt32 31)).toInt32) &&& (1431655765 : Int32))).toUInt32 >>> ((2 : Int32).toUInt32 &&& Int32.toUInt32 31)).toInt32) &&& (858993459 : Int32))) + (((((v0 - (((v0.toUInt32 >>> ((1 : Int32).toUInt32 &&& Int32.toUInt32 31)).toInt32) &&& (1431655765 : Int32))) &&& (858993459 : Int32)) + ((((v0 - (((v0.toUInt32 >>> ((1 : Int32).toUInt32 &&& Int32.toUInt32 31)).toInt32) &&& (1431655765 : Int32))).toUInt32 >>> ((2 : Int32).toUInt32 &&& Int32.toUInt32 31)).toInt32) &&& (858993459 : Int32))).toUInt32 >>> ((4 : Int32).toUInt32 &&& Int32.toUInt32 31)).toInt32)) &&& (252645135 : Int32)).toUInt32 >>> ((8 : Int32).toUInt32 &&& Int32.toUInt32 31)).toInt32)) + ((((((((v0 - (((v0.toUInt32 >>> ((1 : Int32).toUInt32 &&& Int32.toUInt32 31)).toInt32) &&& (1431655765 : Int32))) &&& (858993459 : Int32)) + ((((v0 - (((v0.toUInt32 >>> ((1 : Int32).toUInt32 &&& Int32.toUInt32 31)).toInt32) &&& (1431655765 : Int32))).toUInt32 >>> ((2 : Int32).toUInt32 &&& Int32.toUInt32 31)).toInt32) &&& (858993459 : Int32))) + (((((v0 - (((v0.toUInt32 >>> ((1 : Int32).toUInt32 &&& Int32.toUInt32 31)).toInt32) &&& (1431655765 : Int32))) &&& (858993459 : Int32)) + ((((v0 - (((v0.toUInt32 >>> ((1 : Int32).toUInt32 &&& Int32.toUInt32 31)).toInt32) &&& (1431655765 : Int32))).toUInt32 >>> ((2 : Int32).toUInt32 &&& Int32.toUInt32 31)).toInt32) &&& (858993459 : Int32))).toUInt32 >>> ((4 : Int32).toUInt32 &&& Int32.toUInt32 31)).toInt32)) &&& (252645135 : Int32)) + (((((((v0 - (((v0.toUInt32 >>> ((1 : Int32).toUInt32 &&& Int32.toUInt32 31)).toInt32) &&& (1431655765 : Int32))) &&& (858993459 : Int32)) + ((((v0 - (((v0.toUInt32 >>> ((1 : Int32).toUInt32 &&& Int32.toUInt32 31)).toInt32) &&& (1431655765 : Int32))).toUInt32 >>> ((2 : Int32).toUInt32 &&& Int32.toUInt32 31)).toInt32) &&& (858993459 : Int32))) + (((((v0 - (((v0.toUInt32 >>> ((1 : Int32).toUInt32 &&& Int32.toUInt32 31)).toInt32) &&& (1431655765 : Int32))) &&& (858993459 : Int32)) + ((((v0 - (((v0.toUInt32 >>> ((1 : Int32).toUInt32 &&& Int32.toUInt32 31)).toInt32) &&& (1431655765 : Int32))).toUInt32 >>> ((2 : Int32).toUInt32 &&& Int32.toUInt32 31)).toInt32) &&& (858993459 : Int32))).toUInt32 >>> ((4 : Int32).toUInt32 &&& Int32.toUInt32 31)).toInt32)) &&& (252645135 : Int32)).toUInt32 >>> ((8 : Int32).toUInt32 &&& Int32.toUInt32 31)).toInt32)).toUInt32 >>> ((16 : Int32).toUInt32 &&& Int32.toUInt32 31)).toInt32)))]) dJ6_bitCount_0f7a4_47 rfl (by decide) rfl ?_
  refine g_iload_n (pc := 48) C dJ6_bitCount_0f7a4_48 rfl 0 rfl ?_
  refine g_bipush (pc := 49) C (v := (63 : Int32)) dJ6_bitCount_0f7a4_49 (by decide) ?_
  refine g_iand (pc := 51) C dJ6_bitCount_0f7a4_51 ?_
  exact g_iret C dJ6_bitCount_0f7a4_52 rfl (Option.some.inj h)
theorem mJ6_bitCount_0f7a4 (l : Launch) (Z : Sh) {σ : Sg} {v0 : Int32} {u : Int32}  (h : fJ6_bitCount_0f7a4 v0 = some u) : MI l Z layX yJ6_bitCount_0f7a4 wsJ6_bitCount_0f7a4 rJ6_bitCount_0f7a4 [.int v0] σ σ u :=
  MI.of (cc := cJ6_bitCount_0f7a4) (maxL := 1) (ret := (some .int)) (by decide) rfl (Nat.le_of_ble_eq_true rfl) (fun p e s m below meth c C => kJ6_bitCount_0f7a4_e C  h)

def rX7_alone : Room := { frames := 3, cells := 0, slots := 0, locals := 68 }
theorem uX7_alone_X2 : ∀ w ∈ wsX20, w ∈ wsX7_alone := by decide +kernel
theorem uX7_alone_X7 : ∀ w ∈ wsX70, w ∈ wsX7_alone := by decide +kernel
def fX7_alone (σ : Sg) (v1 : Int32) (v2 : Int32) : Option (Sg × Int64) := (fX2_hasBorough σ 1 v1).bind fun t1 => if t1 = 0 then some (σ, (-1 : Int64)) else (fX7_within v2 (0 : Int32) (1 : Int32)).bind fun t2 => if t2 = 0 then some (σ, (-1 : Int64)) else (rd (σ 6) 6 v1).bind fun t3 => if t3 = (-4 : Int32) then (fX0_gather σ 1).bind fun σ4 => (fX2_ownerless σ4 1).bind fun t5 => (fJ6_bitCount_0f7a4 (t5 &&& (((1 : Int32) <<< (v1 &&& 31)) - (1 : Int32)))).bind fun t6 => (fX0_shareOf σ4 ((σ4 1 0) + t6)).bind fun u7 => (fX7_fraction u7.2.toInt64 (3628800 : Int64) v2).bind fun t8 => some (u7.1, t8) else some (σ, (-2 : Int64))
set_option maxHeartbeats 1000000 in
set_option maxRecDepth 20000 in
theorem kX7_alone_e {p : Program} {l : Launch} {e : Env} {s : State} {m : MethodId} {args : Array Value} {below : List Frame} {meth : Method} {c : Code} {Z : Sh} (C : Cx p s m args meth c cX7_alone 4 wsX7_alone RX7 (some .long) Z layX) {σ : Sg} {v1 : Int32} {v2 : Int32} {u : Sg × Int64}  (h : fX7_alone σ v1 v2 = some u) : G p l e rX7_alone s m args below meth c 4 Z layX (MQ below (QL Z layX u.1 u.2 s.heap.size) args s 0 0 (pA Z layX s.heap.size)) σ 0 [(0, .ref (ad Z 0)), (1, .int v1), (2, .int v2)] [] := by
  unfold fX7_alone at h
  refine g_aload_n (pc := 0) C dX7_alone_0 rfl 0 rfl ?_
  refine g_getr (pc := 1) C (Cn := RX7) (T := TX7) (N := 11) (ci := 7) (k := 0) (j := 0) uX7_alone_X7 (by rfl) rfl (by decide) (by decide +kernel) (q := 1) rfl dX7_alone_1 ?_
  refine g_iload_n (pc := 4) C dX7_alone_4 rfl 1 rfl ?_
  obtain ⟨t1, et1, h⟩ := bs h
  refine g_callVi (pc := 5) C (As := [.int v1]) (rest := []) (k := 1) (by rfl) (by rfl) (cwV 1 C.2.2.2.2.2.1 gX7_alone_X2_hasBorough rfl rfl rfl (by decide +kernel) ⟨Nat.le_of_ble_eq_true rfl, Nat.le_of_ble_eq_true rfl⟩) (mX2_hasBorough l Z isR1 et1) rfl rfl (Nat.le_of_ble_eq_true rfl) dX7_alone_5 ?_
  refine g_if_eq (pc := 8) C (tgt := 20) dX7_alone_8 (by decide) h (fun hc8 h => ?_) (fun hc8 h => ?_)
  · refine g_ldc2 (pc := 20) C (v := (-1 : Int64)) (by decide +kernel) dX7_alone_20 ?_
    exact g_lret C dX7_alone_23 (pfst h) (psnd h)
  · refine g_iload_n (pc := 11) C dX7_alone_11 rfl 2 rfl ?_
    refine g_iconst (pc := 12) C (v := (0 : Int32)) dX7_alone_12 (by decide) ?_
    refine g_iconst (pc := 13) C (v := (1 : Int32)) dX7_alone_13 (by decide) ?_
    obtain ⟨t2, et2, h⟩ := bs h
    refine g_callSi (pc := 14) C (As := [.int v2, .int (0 : Int32), .int (1 : Int32)]) (rest := []) (va_cwS 3 C.2.2.2.2.2.1 gX7_alone_X7_within rfl rfl rfl (by decide +kernel) ⟨Nat.le_of_ble_eq_true rfl, Nat.le_of_ble_eq_true rfl⟩) (mX7_within l Z  et2) rfl rfl (Nat.le_of_ble_eq_true rfl) dX7_alone_14 ?_
    refine g_if_ne (pc := 17) C (tgt := 24) dX7_alone_17 (by decide) h (fun hc17 h => ?_) (fun hc17 h => ?_)
    · refine g_aload_n (pc := 24) C dX7_alone_24 rfl 0 rfl ?_
      refine g_getr (pc := 25) C (Cn := RX7) (T := TX7) (N := 11) (ci := 7) (k := 0) (j := 0) uX7_alone_X7 (by rfl) rfl (by decide) (by decide +kernel) (q := 1) rfl dX7_alone_25 ?_
      refine g_getrN (pc := 28) C (host := "MoundVotes") (Cn := RX2) (T := TX2) (N := 8) (ci := 2) (k := 1) (j := 7) uX7_alone_X2 (by rfl) rfl (by decide) (by decide +kernel) (q := 6) rfl dX7_alone_28 ?_
      refine g_iload_n (pc := 31) C dX7_alone_31 rfl 1 rfl ?_
      obtain ⟨t3, et3, h⟩ := bs h
      refine g_iald (pc := 32) C (k := 6) (n := 6) (by rfl) et3 dX7_alone_32 ?_
      refine g_bipush (pc := 33) C (v := (-4 : Int32)) dX7_alone_33 (by decide) ?_
      refine g_icmp_eq (pc := 35) C (tgt := 42) dX7_alone_35 (by decide) h (fun hc35 h => ?_) (fun hc35 h => ?_)
      · refine g_aload_n (pc := 42) C dX7_alone_42 rfl 0 rfl ?_
        refine g_getr (pc := 43) C (Cn := RX7) (T := TX7) (N := 11) (ci := 7) (k := 0) (j := 6) uX7_alone_X7 (by rfl) rfl (by decide) (by decide +kernel) (q := 34) rfl dX7_alone_43 ?_
        refine g_aload_n (pc := 46) C dX7_alone_46 rfl 0 rfl ?_
        refine g_getr (pc := 47) C (Cn := RX7) (T := TX7) (N := 11) (ci := 7) (k := 0) (j := 0) uX7_alone_X7 (by rfl) rfl (by decide) (by decide +kernel) (q := 1) rfl dX7_alone_47 ?_
        obtain ⟨σ4, eσ4, h⟩ := bs h
        refine g_callVv (pc := 50) C (As := [.ref (ad Z 1)]) (rest := []) (k := 34) (by rfl) (by rfl) (cwV 1 C.2.2.2.2.2.1 gX7_alone_X0_gather rfl rfl rfl (by decide +kernel) ⟨Nat.le_of_ble_eq_true rfl, Nat.le_of_ble_eq_true rfl⟩) (mX0_gather l Z isR1 eσ4) rfl rfl (Nat.le_of_ble_eq_true rfl) dX7_alone_50 ?_
        refine g_aload_n (pc := 53) C dX7_alone_53 rfl 0 rfl ?_
        refine g_getr (pc := 54) C (Cn := RX7) (T := TX7) (N := 11) (ci := 7) (k := 0) (j := 0) uX7_alone_X7 (by rfl) rfl (by decide) (by decide +kernel) (q := 1) rfl dX7_alone_54 ?_
        obtain ⟨t5, et5, h⟩ := bs h
        refine g_callVi (pc := 57) C (As := []) (rest := []) (k := 1) (by rfl) (by rfl) (cwV 0 C.2.2.2.2.2.1 gX7_alone_X2_ownerless rfl rfl rfl (by decide +kernel) ⟨Nat.le_of_ble_eq_true rfl, Nat.le_of_ble_eq_true rfl⟩) (mX2_ownerless l Z isR1 et5) rfl rfl (Nat.le_of_ble_eq_true rfl) dX7_alone_57 ?_
        refine g_iconst (pc := 60) C (v := (1 : Int32)) dX7_alone_60 (by decide) ?_
        refine g_iload_n (pc := 61) C dX7_alone_61 rfl 1 rfl ?_
        refine g_ishl (pc := 62) C dX7_alone_62 ?_
        refine g_iconst (pc := 63) C (v := (1 : Int32)) dX7_alone_63 (by decide) ?_
        refine g_isub (pc := 64) C dX7_alone_64 ?_
        refine g_iand (pc := 65) C dX7_alone_65 ?_
        obtain ⟨t6, et6, h⟩ := bs h
        refine g_callSi (pc := 66) C (As := [.int (t5 &&& (((1 : Int32) <<< (v1 &&& 31)) - (1 : Int32)))]) (rest := []) (va_cwS 1 C.2.2.2.2.2.1 gX7_alone_J6_bitCount_0f7a4 rfl rfl rfl (by decide +kernel) ⟨Nat.le_of_ble_eq_true rfl, Nat.le_of_ble_eq_true rfl⟩) (mJ6_bitCount_0f7a4 l Z  et6) rfl rfl (Nat.le_of_ble_eq_true rfl) dX7_alone_66 ?_
        refine g_istore_n (pc := 69) C (lv2 := [(3, .int t6), (0, .ref (ad Z 0)), (1, .int v1), (2, .int v2)]) dX7_alone_69 rfl (by decide) rfl ?_
        refine g_aload_n (pc := 70) C dX7_alone_70 rfl 1 rfl ?_
        refine g_getr (pc := 71) C (Cn := RX7) (T := TX7) (N := 11) (ci := 7) (k := 0) (j := 6) uX7_alone_X7 (by rfl) rfl (by decide) (by decide +kernel) (q := 34) rfl dX7_alone_71 ?_
        refine g_aload_n (pc := 74) C dX7_alone_74 rfl 1 rfl ?_
        refine g_getr (pc := 75) C (Cn := RX7) (T := TX7) (N := 11) (ci := 7) (k := 0) (j := 0) uX7_alone_X7 (by rfl) rfl (by decide) (by decide +kernel) (q := 1) rfl dX7_alone_75 ?_
        refine g_getiN (pc := 78) C (host := "MoundVotes") (Cn := RX2) (T := TX2) (N := 8) (ci := 2) (k := 1) (j := 0) uX7_alone_X2 (by rfl) rfl (by decide) (by decide +kernel) (q := 0) rfl dX7_alone_78 ?_
        refine g_iload_n (pc := 81) C dX7_alone_81 rfl 0 rfl ?_
        refine g_iadd (pc := 82) C dX7_alone_82 ?_
        obtain ⟨u7, eu7, h⟩ := bs h
        refine g_callVi (pc := 83) C (As := [.int ((σ4 1 0) + t6)]) (rest := []) (k := 34) (by rfl) (by rfl) (cwV 1 C.2.2.2.2.2.1 gX7_alone_X0_shareOf rfl rfl rfl (by decide +kernel) ⟨Nat.le_of_ble_eq_true rfl, Nat.le_of_ble_eq_true rfl⟩) (mX0_shareOf l Z  eu7) rfl rfl (Nat.le_of_ble_eq_true rfl) dX7_alone_83 ?_
        refine g_i2l (pc := 86) C dX7_alone_86 ?_
        refine g_ldc2 (pc := 87) C (v := (3628800 : Int64)) (by decide +kernel) dX7_alone_87 ?_
        refine g_iload_n (pc := 90) C dX7_alone_90 rfl 3 rfl ?_
        obtain ⟨t8, et8, h⟩ := bs h
        refine g_callSl (pc := 91) C (As := [.long u7.2.toInt64, .long (3628800 : Int64), .int v2]) (rest := []) (va_cwS 3 C.2.2.2.2.2.1 gX7_alone_X7_fraction rfl rfl rfl (by decide +kernel) ⟨Nat.le_of_ble_eq_true rfl, Nat.le_of_ble_eq_true rfl⟩) (mX7_fraction l Z  et8) rfl rfl (Nat.le_of_ble_eq_true rfl) dX7_alone_91 ?_
        exact g_lret C dX7_alone_94 (pfst h) (psnd h)
      · refine g_ldc2 (pc := 38) C (v := (-2 : Int64)) (by decide +kernel) dX7_alone_38 ?_
        exact g_lret C dX7_alone_41 (pfst h) (psnd h)
    · refine g_ldc2 (pc := 20) C (v := (-1 : Int64)) (by decide +kernel) dX7_alone_20 ?_
      exact g_lret C dX7_alone_23 (pfst h) (psnd h)
theorem mX7_alone (l : Launch) (Z : Sh) {σ : Sg} {v1 : Int32} {v2 : Int32} {u : Sg × Int64}  (h : fX7_alone σ v1 v2 = some u) : ML l Z layX yX7_alone wsX7_alone rX7_alone [.ref (ad Z 0), .int v1, .int v2] σ u.1 u.2 :=
  ML.of (cc := cX7_alone) (maxL := 4) (ret := (some .long)) (by decide) rfl (Nat.le_of_ble_eq_true rfl) (fun p e s m below meth c C => kX7_alone_e C  h)

def rX7_costOrSet : Room := { frames := 4, cells := 0, slots := 0, locals := 87 }
theorem uX7_costOrSet_X7 : ∀ w ∈ wsX70, w ∈ wsX7_costOrSet := by decide +kernel
def fX7_costOrSet (σ : Sg) (v1 : Int32) (v2 : Int32) : Option (Int32) := if v1 = (-4 : Int32) then some v1 else if v2 = (1 : Int32) then some v1 else (fX2_costOfAll σ 1 v1).bind fun t1 => some t1
set_option maxHeartbeats 1000000 in
set_option maxRecDepth 20000 in
theorem kX7_costOrSet_e {p : Program} {l : Launch} {e : Env} {s : State} {m : MethodId} {args : Array Value} {below : List Frame} {meth : Method} {c : Code} {Z : Sh} (C : Cx p s m args meth c cX7_costOrSet 3 wsX7_costOrSet RX7 (some .int) Z layX) {σ : Sg} {v1 : Int32} {v2 : Int32} {u : Int32}  (h : fX7_costOrSet σ v1 v2 = some u) : G p l e rX7_costOrSet s m args below meth c 3 Z layX (MQ below (QI Z layX σ u s.heap.size) args s 0 0 (pA Z layX s.heap.size)) σ 0 [(0, .ref (ad Z 0)), (1, .int v1), (2, .int v2)] [] := by
  unfold fX7_costOrSet at h
  refine g_iload_n (pc := 0) C dX7_costOrSet_0 rfl 1 rfl ?_
  refine g_bipush (pc := 1) C (v := (-4 : Int32)) dX7_costOrSet_1 (by decide) ?_
  refine g_icmp_eq (pc := 3) C (tgt := 11) dX7_costOrSet_3 (by decide) h (fun hc3 h => ?_) (fun hc3 h => ?_)
  · refine g_iload_n (pc := 11) C dX7_costOrSet_11 rfl 1 rfl ?_
    refine g_goto (pc := 12) C (tgt := 23) dX7_costOrSet_12 (by decide) ?_
    exact g_iret C dX7_costOrSet_23 rfl (Option.some.inj h)
  · refine g_iload_n (pc := 6) C dX7_costOrSet_6 rfl 2 rfl ?_
    refine g_iconst (pc := 7) C (v := (1 : Int32)) dX7_costOrSet_7 (by decide) ?_
    refine g_icmp_ne (pc := 8) C (tgt := 15) dX7_costOrSet_8 (by decide) h (fun hc8 h => ?_) (fun hc8 h => ?_)
    · refine g_aload_n (pc := 15) C dX7_costOrSet_15 rfl 0 rfl ?_
      refine g_getr (pc := 16) C (Cn := RX7) (T := TX7) (N := 11) (ci := 7) (k := 0) (j := 0) uX7_costOrSet_X7 (by rfl) rfl (by decide) (by decide +kernel) (q := 1) rfl dX7_costOrSet_16 ?_
      refine g_iload_n (pc := 19) C dX7_costOrSet_19 rfl 1 rfl ?_
      obtain ⟨t1, et1, h⟩ := bs h
      refine g_callVi (pc := 20) C (As := [.int v1]) (rest := []) (k := 1) (by rfl) (by rfl) (cwV 1 C.2.2.2.2.2.1 gX7_costOrSet_X2_costOfAll rfl rfl rfl (by decide +kernel) ⟨Nat.le_of_ble_eq_true rfl, Nat.le_of_ble_eq_true rfl⟩) (mX2_costOfAll l Z isR1 et1) rfl rfl (Nat.le_of_ble_eq_true rfl) dX7_costOrSet_20 ?_
      exact g_iret C dX7_costOrSet_23 rfl (Option.some.inj h)
    · refine g_iload_n (pc := 11) C dX7_costOrSet_11 rfl 1 rfl ?_
      refine g_goto (pc := 12) C (tgt := 23) dX7_costOrSet_12 (by decide) ?_
      exact g_iret C dX7_costOrSet_23 rfl (Option.some.inj h)
theorem mX7_costOrSet (l : Launch) (Z : Sh) {σ : Sg} {v1 : Int32} {v2 : Int32} {u : Int32}  (h : fX7_costOrSet σ v1 v2 = some u) : MI l Z layX yX7_costOrSet wsX7_costOrSet rX7_costOrSet [.ref (ad Z 0), .int v1, .int v2] σ σ u :=
  MI.of (cc := cX7_costOrSet) (maxL := 3) (ret := (some .int)) (by decide) rfl (Nat.le_of_ble_eq_true rfl) (fun p e s m below meth c C => kX7_costOrSet_e C  h)

def rX7_cheap : Room := { frames := 5, cells := 0, slots := 0, locals := 114 }
theorem uX7_cheap_X7 : ∀ w ∈ wsX70, w ∈ wsX7_cheap := by decide +kernel
def fX7_cheap (σ : Sg) (v1 : Int32) (v2 : Int32) : Option (Int32) := (fX2_hasLord σ 1 v1).bind fun t1 => if t1 = 0 then some (-1 : Int32) else (fX7_within v2 (0 : Int32) (1 : Int32)).bind fun t2 => if t2 = 0 then some (-1 : Int32) else (fX2_heldBy σ 1 ((1 : Int32) <<< (v1 &&& 31))).bind fun t3 => (fX2_everyBorough σ 1).bind fun t4 => (fX2_seatsIn σ 1 t3).bind fun t5 => (fX2_cheapestMajority σ 1 (t4 &&& (t3 ^^^ (-1 : Int32))) t5).bind fun t6 => (fX7_costOrSet σ t6 v2).bind fun t7 => some t7
set_option maxHeartbeats 1000000 in
set_option maxRecDepth 20000 in
theorem kX7_cheap_e {p : Program} {l : Launch} {e : Env} {s : State} {m : MethodId} {args : Array Value} {below : List Frame} {meth : Method} {c : Code} {Z : Sh} (C : Cx p s m args meth c cX7_cheap 5 wsX7_cheap RX7 (some .int) Z layX) {σ : Sg} {v1 : Int32} {v2 : Int32} {u : Int32}  (h : fX7_cheap σ v1 v2 = some u) : G p l e rX7_cheap s m args below meth c 5 Z layX (MQ below (QI Z layX σ u s.heap.size) args s 0 0 (pA Z layX s.heap.size)) σ 0 [(0, .ref (ad Z 0)), (1, .int v1), (2, .int v2)] [] := by
  unfold fX7_cheap at h
  refine g_aload_n (pc := 0) C dX7_cheap_0 rfl 0 rfl ?_
  refine g_getr (pc := 1) C (Cn := RX7) (T := TX7) (N := 11) (ci := 7) (k := 0) (j := 0) uX7_cheap_X7 (by rfl) rfl (by decide) (by decide +kernel) (q := 1) rfl dX7_cheap_1 ?_
  refine g_iload_n (pc := 4) C dX7_cheap_4 rfl 1 rfl ?_
  obtain ⟨t1, et1, h⟩ := bs h
  refine g_callVi (pc := 5) C (As := [.int v1]) (rest := []) (k := 1) (by rfl) (by rfl) (cwV 1 C.2.2.2.2.2.1 gX7_cheap_X2_hasLord rfl rfl rfl (by decide +kernel) ⟨Nat.le_of_ble_eq_true rfl, Nat.le_of_ble_eq_true rfl⟩) (mX2_hasLord l Z isR1 et1) rfl rfl (Nat.le_of_ble_eq_true rfl) dX7_cheap_5 ?_
  refine g_if_eq (pc := 8) C (tgt := 20) dX7_cheap_8 (by decide) h (fun hc8 h => ?_) (fun hc8 h => ?_)
  · refine g_iconst (pc := 20) C (v := (-1 : Int32)) dX7_cheap_20 (by decide) ?_
    exact g_iret C dX7_cheap_21 rfl (Option.some.inj h)
  · refine g_iload_n (pc := 11) C dX7_cheap_11 rfl 2 rfl ?_
    refine g_iconst (pc := 12) C (v := (0 : Int32)) dX7_cheap_12 (by decide) ?_
    refine g_iconst (pc := 13) C (v := (1 : Int32)) dX7_cheap_13 (by decide) ?_
    obtain ⟨t2, et2, h⟩ := bs h
    refine g_callSi (pc := 14) C (As := [.int v2, .int (0 : Int32), .int (1 : Int32)]) (rest := []) (va_cwS 3 C.2.2.2.2.2.1 gX7_cheap_X7_within rfl rfl rfl (by decide +kernel) ⟨Nat.le_of_ble_eq_true rfl, Nat.le_of_ble_eq_true rfl⟩) (mX7_within l Z  et2) rfl rfl (Nat.le_of_ble_eq_true rfl) dX7_cheap_14 ?_
    refine g_if_ne (pc := 17) C (tgt := 22) dX7_cheap_17 (by decide) h (fun hc17 h => ?_) (fun hc17 h => ?_)
    · refine g_aload_n (pc := 22) C dX7_cheap_22 rfl 0 rfl ?_
      refine g_getr (pc := 23) C (Cn := RX7) (T := TX7) (N := 11) (ci := 7) (k := 0) (j := 0) uX7_cheap_X7 (by rfl) rfl (by decide) (by decide +kernel) (q := 1) rfl dX7_cheap_23 ?_
      refine g_iconst (pc := 26) C (v := (1 : Int32)) dX7_cheap_26 (by decide) ?_
      refine g_iload_n (pc := 27) C dX7_cheap_27 rfl 1 rfl ?_
      refine g_ishl (pc := 28) C dX7_cheap_28 ?_
      obtain ⟨t3, et3, h⟩ := bs h
      refine g_callVi (pc := 29) C (As := [.int ((1 : Int32) <<< (v1 &&& 31))]) (rest := []) (k := 1) (by rfl) (by rfl) (cwV 1 C.2.2.2.2.2.1 gX7_cheap_X2_heldBy rfl rfl rfl (by decide +kernel) ⟨Nat.le_of_ble_eq_true rfl, Nat.le_of_ble_eq_true rfl⟩) (mX2_heldBy l Z isR1 et3) rfl rfl (Nat.le_of_ble_eq_true rfl) dX7_cheap_29 ?_
      refine g_istore_n (pc := 32) C (lv2 := [(3, .int t3), (0, .ref (ad Z 0)), (1, .int v1), (2, .int v2)]) dX7_cheap_32 rfl (by decide) rfl ?_
      refine g_aload_n (pc := 33) C dX7_cheap_33 rfl 1 rfl ?_
      refine g_getr (pc := 34) C (Cn := RX7) (T := TX7) (N := 11) (ci := 7) (k := 0) (j := 0) uX7_cheap_X7 (by rfl) rfl (by decide) (by decide +kernel) (q := 1) rfl dX7_cheap_34 ?_
      refine g_aload_n (pc := 37) C dX7_cheap_37 rfl 1 rfl ?_
      refine g_getr (pc := 38) C (Cn := RX7) (T := TX7) (N := 11) (ci := 7) (k := 0) (j := 0) uX7_cheap_X7 (by rfl) rfl (by decide) (by decide +kernel) (q := 1) rfl dX7_cheap_38 ?_
      obtain ⟨t4, et4, h⟩ := bs h
      refine g_callVi (pc := 41) C (As := []) (rest := [.ref (ad Z 1)]) (k := 1) (by rfl) (by rfl) (cwV 0 C.2.2.2.2.2.1 gX7_cheap_X2_everyBorough rfl rfl rfl (by decide +kernel) ⟨Nat.le_of_ble_eq_true rfl, Nat.le_of_ble_eq_true rfl⟩) (mX2_everyBorough l Z isR1 et4) rfl rfl (Nat.le_of_ble_eq_true rfl) dX7_cheap_41 ?_
      refine g_iload_n (pc := 44) C dX7_cheap_44 rfl 0 rfl ?_
      refine g_iconst (pc := 45) C (v := (-1 : Int32)) dX7_cheap_45 (by decide) ?_
      refine g_ixor (pc := 46) C dX7_cheap_46 ?_
      refine g_iand (pc := 47) C dX7_cheap_47 ?_
      refine g_aload_n (pc := 48) C dX7_cheap_48 rfl 1 rfl ?_
      refine g_getr (pc := 49) C (Cn := RX7) (T := TX7) (N := 11) (ci := 7) (k := 0) (j := 0) uX7_cheap_X7 (by rfl) rfl (by decide) (by decide +kernel) (q := 1) rfl dX7_cheap_49 ?_
      refine g_iload_n (pc := 52) C dX7_cheap_52 rfl 0 rfl ?_
      obtain ⟨t5, et5, h⟩ := bs h
      refine g_callVi (pc := 53) C (As := [.int t3]) (rest := [.int (t4 &&& (t3 ^^^ (-1 : Int32))), .ref (ad Z 1)]) (k := 1) (by rfl) (by rfl) (cwV 1 C.2.2.2.2.2.1 gX7_cheap_X2_seatsIn rfl rfl rfl (by decide +kernel) ⟨Nat.le_of_ble_eq_true rfl, Nat.le_of_ble_eq_true rfl⟩) (mX2_seatsIn l Z isR1 et5) rfl rfl (Nat.le_of_ble_eq_true rfl) dX7_cheap_53 ?_
      obtain ⟨t6, et6, h⟩ := bs h
      refine g_callVi (pc := 56) C (As := [.int (t4 &&& (t3 ^^^ (-1 : Int32))), .int t5]) (rest := []) (k := 1) (by rfl) (by rfl) (cwV 2 C.2.2.2.2.2.1 gX7_cheap_X2_cheapestMajority rfl rfl rfl (by decide +kernel) ⟨Nat.le_of_ble_eq_true rfl, Nat.le_of_ble_eq_true rfl⟩) (mX2_cheapestMajority l Z isR1 et6) rfl rfl (Nat.le_of_ble_eq_true rfl) dX7_cheap_56 ?_
      refine g_istore (pc := 59) C (lv2 := [(4, .int t6), (3, .int t3), (0, .ref (ad Z 0)), (1, .int v1), (2, .int v2)]) dX7_cheap_59 (by decide) rfl ?_
      refine g_aload_n (pc := 61) C dX7_cheap_61 rfl 2 rfl ?_
      refine g_iload (pc := 62) C dX7_cheap_62 0 rfl ?_
      refine g_iload_n (pc := 64) C dX7_cheap_64 rfl 4 rfl ?_
      obtain ⟨t7, et7, h⟩ := bs h
      refine g_callVi (pc := 65) C (As := [.int t6, .int v2]) (rest := []) (k := 0) (by rfl) (by rfl) (cwV 2 C.2.2.2.2.2.1 gX7_cheap_X7_costOrSet rfl rfl rfl (by decide +kernel) ⟨Nat.le_of_ble_eq_true rfl, Nat.le_of_ble_eq_true rfl⟩) (mX7_costOrSet l Z  et7) rfl rfl (Nat.le_of_ble_eq_true rfl) dX7_cheap_65 ?_
      exact g_iret C dX7_cheap_68 rfl (Option.some.inj h)
    · refine g_iconst (pc := 20) C (v := (-1 : Int32)) dX7_cheap_20 (by decide) ?_
      exact g_iret C dX7_cheap_21 rfl (Option.some.inj h)
theorem mX7_cheap (l : Launch) (Z : Sh) {σ : Sg} {v1 : Int32} {v2 : Int32} {u : Int32}  (h : fX7_cheap σ v1 v2 = some u) : MI l Z layX yX7_cheap wsX7_cheap rX7_cheap [.ref (ad Z 0), .int v1, .int v2] σ σ u :=
  MI.of (cc := cX7_cheap) (maxL := 5) (ret := (some .int)) (by decide) rfl (Nat.le_of_ble_eq_true rfl) (fun p e s m below meth c C => kX7_cheap_e C  h)

def rX7_able : Room := { frames := 4, cells := 0, slots := 0, locals := 86 }
theorem uX7_able_X2 : ∀ w ∈ wsX20, w ∈ wsX7_able := by decide +kernel
theorem uX7_able_X7 : ∀ w ∈ wsX70, w ∈ wsX7_able := by decide +kernel
def fX7_able_l17 (σ : Sg) (v1 : Int32)  : Nat → Int32 → Int32 → Option (Int32)
  | 0, _, _ => none
  | n + 1, v2, v3 => if (σ 1 1) ≤ v3 then some v2 else (fX2_canBuy σ 1 v1 v3).bind fun t1 => if t1 = 0 then fX7_able_l17 σ v1 n v2 (v3 + 1) else fX7_able_l17 σ v1 n (v2 ||| ((1 : Int32) <<< (v3 &&& 31))) (v3 + 1)
def fX7_able (σ : Sg) (v1 : Int32) : Option (Int32) := (fX2_hasLord σ 1 v1).bind fun t1 => if t1 = 0 then some (-1 : Int32) else fX7_able_l17 σ v1 2000 (0 : Int32) (0 : Int32)
set_option maxHeartbeats 1000000 in
set_option maxRecDepth 20000 in
theorem kX7_able_l17 {p : Program} {l : Launch} {e : Env} {s : State} {m : MethodId} {args : Array Value} {below : List Frame} {meth : Method} {c : Code} {Z : Sh} (C : Cx p s m args meth c cX7_able 4 wsX7_able RX7 (some .int) Z layX) {σ : Sg} {v1 : Int32} {u : Int32}   : ∀ (n : Nat) (v2 : Int32) (v3 : Int32), fX7_able_l17 σ v1 n v2 v3 = some u → G p l e rX7_able s m args below meth c 4 Z layX (MQ below (QI Z layX σ u s.heap.size) args s 0 0 (pA Z layX s.heap.size)) σ 17 [(0, .ref (ad Z 0)), (1, .int v1), (2, .int v2), (3, .int v3)] [] := by
  intro n
  induction n with
  | zero => intro v2 v3 h; exact absurd h (by simp [fX7_able_l17])
  | succ n ih =>
    intro v2 v3 h
    rw [fX7_able_l17] at h
    refine g_iload_n (pc := 17) C dX7_able_17 rfl 3 rfl ?_
    refine g_aload_n (pc := 18) C dX7_able_18 rfl 0 rfl ?_
    refine g_getr (pc := 19) C (Cn := RX7) (T := TX7) (N := 11) (ci := 7) (k := 0) (j := 0) uX7_able_X7 (by rfl) rfl (by decide) (by decide +kernel) (q := 1) rfl dX7_able_19 ?_
    refine g_getiN (pc := 22) C (host := "MoundVotes") (Cn := RX2) (T := TX2) (N := 8) (ci := 2) (k := 1) (j := 1) uX7_able_X2 (by rfl) rfl (by decide) (by decide +kernel) (q := 0) rfl dX7_able_22 ?_
    refine g_icmp_ge (pc := 25) C (tgt := 52) dX7_able_25 (by decide) h (fun hc25 h => ?_) (fun hc25 h => ?_)
    · refine g_iload_n (pc := 52) C dX7_able_52 rfl 2 rfl ?_
      exact g_iret C dX7_able_53 rfl (Option.some.inj h)
    · refine g_aload_n (pc := 28) C dX7_able_28 rfl 0 rfl ?_
      refine g_getr (pc := 29) C (Cn := RX7) (T := TX7) (N := 11) (ci := 7) (k := 0) (j := 0) uX7_able_X7 (by rfl) rfl (by decide) (by decide +kernel) (q := 1) rfl dX7_able_29 ?_
      refine g_iload_n (pc := 32) C dX7_able_32 rfl 1 rfl ?_
      refine g_iload_n (pc := 33) C dX7_able_33 rfl 3 rfl ?_
      obtain ⟨t1, et1, h⟩ := bs h
      refine g_callVi (pc := 34) C (As := [.int v1, .int v3]) (rest := []) (k := 1) (by rfl) (by rfl) (cwV 2 C.2.2.2.2.2.1 gX7_able_X2_canBuy rfl rfl rfl (by decide +kernel) ⟨Nat.le_of_ble_eq_true rfl, Nat.le_of_ble_eq_true rfl⟩) (mX2_canBuy l Z isR1 et1) rfl rfl (Nat.le_of_ble_eq_true rfl) dX7_able_34 ?_
      refine g_if_eq (pc := 37) C (tgt := 46) dX7_able_37 (by decide) h (fun hc37 h => ?_) (fun hc37 h => ?_)
      · refine g_iinc (pc := 46) C (j := 3) (v := (v3 + 1)) (lv2 := [(3, .int (v3 + 1)), (0, .ref (ad Z 0)), (1, .int v1), (2, .int v2)]) dX7_able_46 rfl rfl (by decide) rfl ?_
        refine g_goto (pc := 49) C (tgt := 17) dX7_able_49 (by decide) ?_
        exact g_sub [1, 2, 3, 0] rfl (ih _ _ h)
      · refine g_iload_n (pc := 40) C dX7_able_40 rfl 2 rfl ?_
        refine g_iconst (pc := 41) C (v := (1 : Int32)) dX7_able_41 (by decide) ?_
        refine g_iload_n (pc := 42) C dX7_able_42 rfl 3 rfl ?_
        refine g_ishl (pc := 43) C dX7_able_43 ?_
        refine g_ior (pc := 44) C dX7_able_44 ?_
        refine g_istore_n (pc := 45) C (lv2 := [(2, .int (v2 ||| ((1 : Int32) <<< (v3 &&& 31)))), (0, .ref (ad Z 0)), (1, .int v1), (3, .int v3)]) dX7_able_45 rfl (by decide) rfl ?_
        refine g_iinc (pc := 46) C (j := 3) (v := (v3 + 1)) (lv2 := [(3, .int (v3 + 1)), (2, .int (v2 ||| ((1 : Int32) <<< (v3 &&& 31)))), (0, .ref (ad Z 0)), (1, .int v1)]) dX7_able_46 rfl rfl (by decide) rfl ?_
        refine g_goto (pc := 49) C (tgt := 17) dX7_able_49 (by decide) ?_
        exact g_sub [2, 3, 1, 0] rfl (ih _ _ h)
set_option maxHeartbeats 1000000 in
set_option maxRecDepth 20000 in
theorem kX7_able_e {p : Program} {l : Launch} {e : Env} {s : State} {m : MethodId} {args : Array Value} {below : List Frame} {meth : Method} {c : Code} {Z : Sh} (C : Cx p s m args meth c cX7_able 4 wsX7_able RX7 (some .int) Z layX) {σ : Sg} {v1 : Int32} {u : Int32}  (h : fX7_able σ v1 = some u) : G p l e rX7_able s m args below meth c 4 Z layX (MQ below (QI Z layX σ u s.heap.size) args s 0 0 (pA Z layX s.heap.size)) σ 0 [(0, .ref (ad Z 0)), (1, .int v1)] [] := by
  unfold fX7_able at h
  refine g_aload_n (pc := 0) C dX7_able_0 rfl 0 rfl ?_
  refine g_getr (pc := 1) C (Cn := RX7) (T := TX7) (N := 11) (ci := 7) (k := 0) (j := 0) uX7_able_X7 (by rfl) rfl (by decide) (by decide +kernel) (q := 1) rfl dX7_able_1 ?_
  refine g_iload_n (pc := 4) C dX7_able_4 rfl 1 rfl ?_
  obtain ⟨t1, et1, h⟩ := bs h
  refine g_callVi (pc := 5) C (As := [.int v1]) (rest := []) (k := 1) (by rfl) (by rfl) (cwV 1 C.2.2.2.2.2.1 gX7_able_X2_hasLord rfl rfl rfl (by decide +kernel) ⟨Nat.le_of_ble_eq_true rfl, Nat.le_of_ble_eq_true rfl⟩) (mX2_hasLord l Z isR1 et1) rfl rfl (Nat.le_of_ble_eq_true rfl) dX7_able_5 ?_
  refine g_if_ne (pc := 8) C (tgt := 13) dX7_able_8 (by decide) h (fun hc8 h => ?_) (fun hc8 h => ?_)
  · refine g_iconst (pc := 13) C (v := (0 : Int32)) dX7_able_13 (by decide) ?_
    refine g_istore_n (pc := 14) C (lv2 := [(2, .int (0 : Int32)), (0, .ref (ad Z 0)), (1, .int v1)]) dX7_able_14 rfl (by decide) rfl ?_
    refine g_iconst (pc := 15) C (v := (0 : Int32)) dX7_able_15 (by decide) ?_
    refine g_istore_n (pc := 16) C (lv2 := [(3, .int (0 : Int32)), (2, .int (0 : Int32)), (0, .ref (ad Z 0)), (1, .int v1)]) dX7_able_16 rfl (by decide) rfl ?_
    exact g_sub [2, 3, 1, 0] rfl (kX7_able_l17 C   _ _ _ h)
  · refine g_iconst (pc := 11) C (v := (-1 : Int32)) dX7_able_11 (by decide) ?_
    exact g_iret C dX7_able_12 rfl (Option.some.inj h)
theorem mX7_able (l : Launch) (Z : Sh) {σ : Sg} {v1 : Int32} {u : Int32}  (h : fX7_able σ v1 = some u) : MI l Z layX yX7_able wsX7_able rX7_able [.ref (ad Z 0), .int v1] σ σ u :=
  MI.of (cc := cX7_able) (maxL := 4) (ret := (some .int)) (by decide) rfl (Nat.le_of_ble_eq_true rfl) (fun p e s m below meth c C => kX7_able_e C  h)

def rX7_climb : Room := { frames := 4, cells := 0, slots := 0, locals := 86 }
theorem uX7_climb_X2 : ∀ w ∈ wsX20, w ∈ wsX7_climb := by decide +kernel
theorem uX7_climb_X7 : ∀ w ∈ wsX70, w ∈ wsX7_climb := by decide +kernel
def fX7_climb_l39 (v1 : Int32)  : Nat → Sg → Int32 → Int32 → Int32 → Option (Sg × Int32)
  | 0, _, _, _, _ => none
  | n + 1, σ, v2, v3, v4 => if (σ 1 1) ≤ v4 then some (σ, v3) else (fX2_canBuy σ 1 v1 v4).bind fun t1 => if t1 = 0 then fX7_climb_l39 v1 n σ v2 v3 (v4 + 1) else (fX2_copyFrom σ 7 1).bind fun σ2 => (wr σ2 12 6 v4 v1).bind fun σ3 => (fX0_gather σ3 7).bind fun σ4 => (fX0_shareOf σ4 v1).bind fun u5 => if u5.2 ≤ v2 then fX7_climb_l39 v1 n u5.1 v2 v3 (v4 + 1) else fX7_climb_l39 v1 n u5.1 u5.2 v4 (v4 + 1)
def fX7_climb (σ : Sg) (v1 : Int32) : Option (Sg × Int32) := (fX2_hasLord σ 1 v1).bind fun t1 => if t1 = 0 then some (σ, (-1 : Int32)) else (fX0_gather σ 1).bind fun σ2 => (fX0_shareOf σ2 v1).bind fun u3 => fX7_climb_l39 v1 2000 u3.1 u3.2 (-4 : Int32) (0 : Int32)
set_option maxHeartbeats 1000000 in
set_option maxRecDepth 20000 in
theorem kX7_climb_l39 {p : Program} {l : Launch} {e : Env} {s : State} {m : MethodId} {args : Array Value} {below : List Frame} {meth : Method} {c : Code} {Z : Sh} (C : Cx p s m args meth c cX7_climb 6 wsX7_climb RX7 (some .int) Z layX) {v1 : Int32} {u : Sg × Int32}   : ∀ (n : Nat) (σ : Sg) (v2 : Int32) (v3 : Int32) (v4 : Int32), fX7_climb_l39 v1 n σ v2 v3 v4 = some u → G p l e rX7_climb s m args below meth c 6 Z layX (MQ below (QI Z layX u.1 u.2 s.heap.size) args s 0 0 (pA Z layX s.heap.size)) σ 39 [(0, .ref (ad Z 0)), (1, .int v1), (2, .int v2), (3, .int v3), (4, .int v4)] [] := by
  intro n
  induction n with
  | zero => intro σ v2 v3 v4 h; exact absurd h (by simp [fX7_climb_l39])
  | succ n ih =>
    intro σ v2 v3 v4 h
    rw [fX7_climb_l39] at h
    refine g_iload (pc := 39) C dX7_climb_39 4 rfl ?_
    refine g_aload_n (pc := 41) C dX7_climb_41 rfl 0 rfl ?_
    refine g_getr (pc := 42) C (Cn := RX7) (T := TX7) (N := 11) (ci := 7) (k := 0) (j := 0) uX7_climb_X7 (by rfl) rfl (by decide) (by decide +kernel) (q := 1) rfl dX7_climb_42 ?_
    refine g_getiN (pc := 45) C (host := "MoundVotes") (Cn := RX2) (T := TX2) (N := 8) (ci := 2) (k := 1) (j := 1) uX7_climb_X2 (by rfl) rfl (by decide) (by decide +kernel) (q := 0) rfl dX7_climb_45 ?_
    refine g_icmp_ge (pc := 48) C (tgt := 125) dX7_climb_48 (by decide) h (fun hc48 h => ?_) (fun hc48 h => ?_)
    · refine g_iload_n (pc := 125) C dX7_climb_125 rfl 3 rfl ?_
      exact g_iret C dX7_climb_126 (pfst h) (psnd h)
    · refine g_aload_n (pc := 51) C dX7_climb_51 rfl 0 rfl ?_
      refine g_getr (pc := 52) C (Cn := RX7) (T := TX7) (N := 11) (ci := 7) (k := 0) (j := 0) uX7_climb_X7 (by rfl) rfl (by decide) (by decide +kernel) (q := 1) rfl dX7_climb_52 ?_
      refine g_iload_n (pc := 55) C dX7_climb_55 rfl 1 rfl ?_
      refine g_iload (pc := 56) C dX7_climb_56 4 rfl ?_
      obtain ⟨t1, et1, h⟩ := bs h
      refine g_callVi (pc := 58) C (As := [.int v1, .int v4]) (rest := []) (k := 1) (by rfl) (by rfl) (cwV 2 C.2.2.2.2.2.1 gX7_climb_X2_canBuy rfl rfl rfl (by decide +kernel) ⟨Nat.le_of_ble_eq_true rfl, Nat.le_of_ble_eq_true rfl⟩) (mX2_canBuy l Z isR1 et1) rfl rfl (Nat.le_of_ble_eq_true rfl) dX7_climb_58 ?_
      refine g_if_eq (pc := 61) C (tgt := 119) dX7_climb_61 (by decide) h (fun hc61 h => ?_) (fun hc61 h => ?_)
      · refine g_iinc (pc := 119) C (j := 4) (v := (v4 + 1)) (lv2 := [(4, .int (v4 + 1)), (0, .ref (ad Z 0)), (1, .int v1), (2, .int v2), (3, .int v3)]) dX7_climb_119 rfl rfl (by decide) rfl ?_
        refine g_goto (pc := 122) C (tgt := 39) dX7_climb_122 (by decide) ?_
        exact g_sub [1, 2, 3, 4, 0] rfl (ih _ _ _ _ h)
      · refine g_aload_n (pc := 64) C dX7_climb_64 rfl 0 rfl ?_
        refine g_getr (pc := 65) C (Cn := RX7) (T := TX7) (N := 11) (ci := 7) (k := 0) (j := 1) uX7_climb_X7 (by rfl) rfl (by decide) (by decide +kernel) (q := 7) rfl dX7_climb_65 ?_
        refine g_aload_n (pc := 68) C dX7_climb_68 rfl 0 rfl ?_
        refine g_getr (pc := 69) C (Cn := RX7) (T := TX7) (N := 11) (ci := 7) (k := 0) (j := 0) uX7_climb_X7 (by rfl) rfl (by decide) (by decide +kernel) (q := 1) rfl dX7_climb_69 ?_
        obtain ⟨σ2, eσ2, h⟩ := bs h
        refine g_callVv (pc := 72) C (As := [.ref (ad Z 1)]) (rest := []) (k := 7) (by rfl) (by rfl) (cwV 1 C.2.2.2.2.2.1 gX7_climb_X2_copyFrom rfl rfl rfl (by decide +kernel) ⟨Nat.le_of_ble_eq_true rfl, Nat.le_of_ble_eq_true rfl⟩) (mX2_copyFrom l Z isR7 isR1 eσ2) rfl rfl (Nat.le_of_ble_eq_true rfl) dX7_climb_72 ?_
        refine g_aload_n (pc := 75) C dX7_climb_75 rfl 0 rfl ?_
        refine g_getr (pc := 76) C (Cn := RX7) (T := TX7) (N := 11) (ci := 7) (k := 0) (j := 1) uX7_climb_X7 (by rfl) rfl (by decide) (by decide +kernel) (q := 7) rfl dX7_climb_76 ?_
        refine g_getrN (pc := 79) C (host := "MoundVotes") (Cn := RX2) (T := TX2) (N := 8) (ci := 2) (k := 7) (j := 7) uX7_climb_X2 (by rfl) rfl (by decide) (by decide +kernel) (q := 12) rfl dX7_climb_79 ?_
        refine g_iload (pc := 82) C dX7_climb_82 4 rfl ?_
        refine g_iload_n (pc := 84) C dX7_climb_84 rfl 1 rfl ?_
        obtain ⟨σ3, eσ3, h⟩ := bs h
        refine g_iast (pc := 85) C (k := 12) (n := 6) (by rfl) eσ3 dX7_climb_85 ?_
        refine g_aload_n (pc := 86) C dX7_climb_86 rfl 0 rfl ?_
        refine g_getr (pc := 87) C (Cn := RX7) (T := TX7) (N := 11) (ci := 7) (k := 0) (j := 6) uX7_climb_X7 (by rfl) rfl (by decide) (by decide +kernel) (q := 34) rfl dX7_climb_87 ?_
        refine g_aload_n (pc := 90) C dX7_climb_90 rfl 0 rfl ?_
        refine g_getr (pc := 91) C (Cn := RX7) (T := TX7) (N := 11) (ci := 7) (k := 0) (j := 1) uX7_climb_X7 (by rfl) rfl (by decide) (by decide +kernel) (q := 7) rfl dX7_climb_91 ?_
        obtain ⟨σ4, eσ4, h⟩ := bs h
        refine g_callVv (pc := 94) C (As := [.ref (ad Z 7)]) (rest := []) (k := 34) (by rfl) (by rfl) (cwV 1 C.2.2.2.2.2.1 gX7_climb_X0_gather rfl rfl rfl (by decide +kernel) ⟨Nat.le_of_ble_eq_true rfl, Nat.le_of_ble_eq_true rfl⟩) (mX0_gather l Z isR7 eσ4) rfl rfl (Nat.le_of_ble_eq_true rfl) dX7_climb_94 ?_
        refine g_aload_n (pc := 97) C dX7_climb_97 rfl 0 rfl ?_
        refine g_getr (pc := 98) C (Cn := RX7) (T := TX7) (N := 11) (ci := 7) (k := 0) (j := 6) uX7_climb_X7 (by rfl) rfl (by decide) (by decide +kernel) (q := 34) rfl dX7_climb_98 ?_
        refine g_iload_n (pc := 101) C dX7_climb_101 rfl 1 rfl ?_
        obtain ⟨u5, eu5, h⟩ := bs h
        refine g_callVi (pc := 102) C (As := [.int v1]) (rest := []) (k := 34) (by rfl) (by rfl) (cwV 1 C.2.2.2.2.2.1 gX7_climb_X0_shareOf rfl rfl rfl (by decide +kernel) ⟨Nat.le_of_ble_eq_true rfl, Nat.le_of_ble_eq_true rfl⟩) (mX0_shareOf l Z  eu5) rfl rfl (Nat.le_of_ble_eq_true rfl) dX7_climb_102 ?_
        refine g_istore (pc := 105) C (lv2 := [(5, .int u5.2), (0, .ref (ad Z 0)), (1, .int v1), (2, .int v2), (3, .int v3), (4, .int v4)]) dX7_climb_105 (by decide) rfl ?_
        refine g_iload (pc := 107) C dX7_climb_107 0 rfl ?_
        refine g_iload_n (pc := 109) C dX7_climb_109 rfl 3 rfl ?_
        refine g_icmp_le (pc := 110) C (tgt := 119) dX7_climb_110 (by decide) h (fun hc110 h => ?_) (fun hc110 h => ?_)
        · refine g_iinc (pc := 119) C (j := 5) (v := (v4 + 1)) (lv2 := [(4, .int (v4 + 1)), (5, .int u5.2), (0, .ref (ad Z 0)), (1, .int v1), (2, .int v2), (3, .int v3)]) dX7_climb_119 rfl rfl (by decide) rfl ?_
          refine g_goto (pc := 122) C (tgt := 39) dX7_climb_122 (by decide) ?_
          exact g_sub [2, 3, 4, 5, 0] rfl (ih _ _ _ _ h)
        · refine g_iload (pc := 113) C dX7_climb_113 0 rfl ?_
          refine g_istore_n (pc := 115) C (lv2 := [(2, .int u5.2), (5, .int u5.2), (0, .ref (ad Z 0)), (1, .int v1), (3, .int v3), (4, .int v4)]) dX7_climb_115 rfl (by decide) rfl ?_
          refine g_iload (pc := 116) C dX7_climb_116 5 rfl ?_
          refine g_istore_n (pc := 118) C (lv2 := [(3, .int v4), (2, .int u5.2), (5, .int u5.2), (0, .ref (ad Z 0)), (1, .int v1), (4, .int v4)]) dX7_climb_118 rfl (by decide) rfl ?_
          refine g_iinc (pc := 119) C (j := 5) (v := (v4 + 1)) (lv2 := [(4, .int (v4 + 1)), (3, .int v4), (2, .int u5.2), (5, .int u5.2), (0, .ref (ad Z 0)), (1, .int v1)]) dX7_climb_119 rfl rfl (by decide) rfl ?_
          refine g_goto (pc := 122) C (tgt := 39) dX7_climb_122 (by decide) ?_
          exact g_sub [4, 5, 2, 1, 0] rfl (ih _ _ _ _ h)
set_option maxHeartbeats 1000000 in
set_option maxRecDepth 20000 in
theorem kX7_climb_e {p : Program} {l : Launch} {e : Env} {s : State} {m : MethodId} {args : Array Value} {below : List Frame} {meth : Method} {c : Code} {Z : Sh} (C : Cx p s m args meth c cX7_climb 6 wsX7_climb RX7 (some .int) Z layX) {σ : Sg} {v1 : Int32} {u : Sg × Int32}  (h : fX7_climb σ v1 = some u) : G p l e rX7_climb s m args below meth c 6 Z layX (MQ below (QI Z layX u.1 u.2 s.heap.size) args s 0 0 (pA Z layX s.heap.size)) σ 0 [(0, .ref (ad Z 0)), (1, .int v1)] [] := by
  unfold fX7_climb at h
  refine g_aload_n (pc := 0) C dX7_climb_0 rfl 0 rfl ?_
  refine g_getr (pc := 1) C (Cn := RX7) (T := TX7) (N := 11) (ci := 7) (k := 0) (j := 0) uX7_climb_X7 (by rfl) rfl (by decide) (by decide +kernel) (q := 1) rfl dX7_climb_1 ?_
  refine g_iload_n (pc := 4) C dX7_climb_4 rfl 1 rfl ?_
  obtain ⟨t1, et1, h⟩ := bs h
  refine g_callVi (pc := 5) C (As := [.int v1]) (rest := []) (k := 1) (by rfl) (by rfl) (cwV 1 C.2.2.2.2.2.1 gX7_climb_X2_hasLord rfl rfl rfl (by decide +kernel) ⟨Nat.le_of_ble_eq_true rfl, Nat.le_of_ble_eq_true rfl⟩) (mX2_hasLord l Z isR1 et1) rfl rfl (Nat.le_of_ble_eq_true rfl) dX7_climb_5 ?_
  refine g_if_ne (pc := 8) C (tgt := 13) dX7_climb_8 (by decide) h (fun hc8 h => ?_) (fun hc8 h => ?_)
  · refine g_aload_n (pc := 13) C dX7_climb_13 rfl 0 rfl ?_
    refine g_getr (pc := 14) C (Cn := RX7) (T := TX7) (N := 11) (ci := 7) (k := 0) (j := 6) uX7_climb_X7 (by rfl) rfl (by decide) (by decide +kernel) (q := 34) rfl dX7_climb_14 ?_
    refine g_aload_n (pc := 17) C dX7_climb_17 rfl 0 rfl ?_
    refine g_getr (pc := 18) C (Cn := RX7) (T := TX7) (N := 11) (ci := 7) (k := 0) (j := 0) uX7_climb_X7 (by rfl) rfl (by decide) (by decide +kernel) (q := 1) rfl dX7_climb_18 ?_
    obtain ⟨σ2, eσ2, h⟩ := bs h
    refine g_callVv (pc := 21) C (As := [.ref (ad Z 1)]) (rest := []) (k := 34) (by rfl) (by rfl) (cwV 1 C.2.2.2.2.2.1 gX7_climb_X0_gather rfl rfl rfl (by decide +kernel) ⟨Nat.le_of_ble_eq_true rfl, Nat.le_of_ble_eq_true rfl⟩) (mX0_gather l Z isR1 eσ2) rfl rfl (Nat.le_of_ble_eq_true rfl) dX7_climb_21 ?_
    refine g_aload_n (pc := 24) C dX7_climb_24 rfl 0 rfl ?_
    refine g_getr (pc := 25) C (Cn := RX7) (T := TX7) (N := 11) (ci := 7) (k := 0) (j := 6) uX7_climb_X7 (by rfl) rfl (by decide) (by decide +kernel) (q := 34) rfl dX7_climb_25 ?_
    refine g_iload_n (pc := 28) C dX7_climb_28 rfl 1 rfl ?_
    obtain ⟨u3, eu3, h⟩ := bs h
    refine g_callVi (pc := 29) C (As := [.int v1]) (rest := []) (k := 34) (by rfl) (by rfl) (cwV 1 C.2.2.2.2.2.1 gX7_climb_X0_shareOf rfl rfl rfl (by decide +kernel) ⟨Nat.le_of_ble_eq_true rfl, Nat.le_of_ble_eq_true rfl⟩) (mX0_shareOf l Z  eu3) rfl rfl (Nat.le_of_ble_eq_true rfl) dX7_climb_29 ?_
    refine g_istore_n (pc := 32) C (lv2 := [(2, .int u3.2), (0, .ref (ad Z 0)), (1, .int v1)]) dX7_climb_32 rfl (by decide) rfl ?_
    refine g_bipush (pc := 33) C (v := (-4 : Int32)) dX7_climb_33 (by decide) ?_
    refine g_istore_n (pc := 35) C (lv2 := [(3, .int (-4 : Int32)), (2, .int u3.2), (0, .ref (ad Z 0)), (1, .int v1)]) dX7_climb_35 rfl (by decide) rfl ?_
    refine g_iconst (pc := 36) C (v := (0 : Int32)) dX7_climb_36 (by decide) ?_
    refine g_istore (pc := 37) C (lv2 := [(4, .int (0 : Int32)), (3, .int (-4 : Int32)), (2, .int u3.2), (0, .ref (ad Z 0)), (1, .int v1)]) dX7_climb_37 (by decide) rfl ?_
    exact g_sub [3, 4, 2, 1, 0] rfl (kX7_climb_l39 C   _ _ _ _ _ h)
  · refine g_iconst (pc := 11) C (v := (-1 : Int32)) dX7_climb_11 (by decide) ?_
    exact g_iret C dX7_climb_12 (pfst h) (psnd h)
theorem mX7_climb (l : Launch) (Z : Sh) {σ : Sg} {v1 : Int32} {u : Sg × Int32}  (h : fX7_climb σ v1 = some u) : MI l Z layX yX7_climb wsX7_climb rX7_climb [.ref (ad Z 0), .int v1] σ u.1 u.2 :=
  MI.of (cc := cX7_climb) (maxL := 6) (ret := (some .int)) (by decide) rfl (Nat.le_of_ble_eq_true rfl) (fun p e s m below meth c C => kX7_climb_e C  h)

def rX7_small : Room := { frames := 4, cells := 0, slots := 0, locals := 88 }
theorem uX7_small_X4 : ∀ w ∈ wsX40, w ∈ wsX7_small := by decide +kernel
theorem uX7_small_X7 : ∀ w ∈ wsX70, w ∈ wsX7_small := by decide +kernel
def fX7_small (σ : Sg) (v1 : Int32) : Option (Sg × Int32) := (fX7_within v1 (0 : Int32) (5 : Int32)).bind fun t1 => if t1 = 0 then some (σ, (-1 : Int32)) else (fX4_rank σ 1).bind fun σ2 => if (σ2 40 1) ≤ v1 then some (σ2, (-4 : Int32)) else (rd (σ2 41) 6 v1).bind fun t3 => some (σ2, t3)
set_option maxHeartbeats 1000000 in
set_option maxRecDepth 20000 in
theorem kX7_small_e {p : Program} {l : Launch} {e : Env} {s : State} {m : MethodId} {args : Array Value} {below : List Frame} {meth : Method} {c : Code} {Z : Sh} (C : Cx p s m args meth c cX7_small 2 wsX7_small RX7 (some .int) Z layX) {σ : Sg} {v1 : Int32} {u : Sg × Int32}  (h : fX7_small σ v1 = some u) : G p l e rX7_small s m args below meth c 2 Z layX (MQ below (QI Z layX u.1 u.2 s.heap.size) args s 0 0 (pA Z layX s.heap.size)) σ 0 [(0, .ref (ad Z 0)), (1, .int v1)] [] := by
  unfold fX7_small at h
  refine g_iload_n (pc := 0) C dX7_small_0 rfl 1 rfl ?_
  refine g_iconst (pc := 1) C (v := (0 : Int32)) dX7_small_1 (by decide) ?_
  refine g_iconst (pc := 2) C (v := (5 : Int32)) dX7_small_2 (by decide) ?_
  obtain ⟨t1, et1, h⟩ := bs h
  refine g_callSi (pc := 3) C (As := [.int v1, .int (0 : Int32), .int (5 : Int32)]) (rest := []) (va_cwS 3 C.2.2.2.2.2.1 gX7_small_X7_within rfl rfl rfl (by decide +kernel) ⟨Nat.le_of_ble_eq_true rfl, Nat.le_of_ble_eq_true rfl⟩) (mX7_within l Z  et1) rfl rfl (Nat.le_of_ble_eq_true rfl) dX7_small_3 ?_
  refine g_if_ne (pc := 6) C (tgt := 11) dX7_small_6 (by decide) h (fun hc6 h => ?_) (fun hc6 h => ?_)
  · refine g_aload_n (pc := 11) C dX7_small_11 rfl 0 rfl ?_
    refine g_getr (pc := 12) C (Cn := RX7) (T := TX7) (N := 11) (ci := 7) (k := 0) (j := 8) uX7_small_X7 (by rfl) rfl (by decide) (by decide +kernel) (q := 40) rfl dX7_small_12 ?_
    refine g_aload_n (pc := 15) C dX7_small_15 rfl 0 rfl ?_
    refine g_getr (pc := 16) C (Cn := RX7) (T := TX7) (N := 11) (ci := 7) (k := 0) (j := 0) uX7_small_X7 (by rfl) rfl (by decide) (by decide +kernel) (q := 1) rfl dX7_small_16 ?_
    obtain ⟨σ2, eσ2, h⟩ := bs h
    refine g_callVv (pc := 19) C (As := [.ref (ad Z 1)]) (rest := []) (k := 40) (by rfl) (by rfl) (cwV 1 C.2.2.2.2.2.1 gX7_small_X4_rank rfl rfl rfl (by decide +kernel) ⟨Nat.le_of_ble_eq_true rfl, Nat.le_of_ble_eq_true rfl⟩) (mX4_rank l Z isR1 eσ2) rfl rfl (Nat.le_of_ble_eq_true rfl) dX7_small_19 ?_
    refine g_iload_n (pc := 22) C dX7_small_22 rfl 1 rfl ?_
    refine g_aload_n (pc := 23) C dX7_small_23 rfl 0 rfl ?_
    refine g_getr (pc := 24) C (Cn := RX7) (T := TX7) (N := 11) (ci := 7) (k := 0) (j := 8) uX7_small_X7 (by rfl) rfl (by decide) (by decide +kernel) (q := 40) rfl dX7_small_24 ?_
    refine g_getiN (pc := 27) C (host := "MoundVotes") (Cn := RX4) (T := TX4) (N := 2) (ci := 4) (k := 40) (j := 1) uX7_small_X4 (by rfl) rfl (by decide) (by decide +kernel) (q := 0) rfl dX7_small_27 ?_
    refine g_icmp_ge (pc := 30) C (tgt := 45) dX7_small_30 (by decide) h (fun hc30 h => ?_) (fun hc30 h => ?_)
    · refine g_bipush (pc := 45) C (v := (-4 : Int32)) dX7_small_45 (by decide) ?_
      exact g_iret C dX7_small_47 (pfst h) (psnd h)
    · refine g_aload_n (pc := 33) C dX7_small_33 rfl 0 rfl ?_
      refine g_getr (pc := 34) C (Cn := RX7) (T := TX7) (N := 11) (ci := 7) (k := 0) (j := 8) uX7_small_X7 (by rfl) rfl (by decide) (by decide +kernel) (q := 40) rfl dX7_small_34 ?_
      refine g_getrN (pc := 37) C (host := "MoundVotes") (Cn := RX4) (T := TX4) (N := 2) (ci := 4) (k := 40) (j := 0) uX7_small_X4 (by rfl) rfl (by decide) (by decide +kernel) (q := 41) rfl dX7_small_37 ?_
      refine g_iload_n (pc := 40) C dX7_small_40 rfl 1 rfl ?_
      obtain ⟨t3, et3, h⟩ := bs h
      refine g_iald (pc := 41) C (k := 41) (n := 6) (by rfl) et3 dX7_small_41 ?_
      refine g_goto (pc := 42) C (tgt := 47) dX7_small_42 (by decide) ?_
      exact g_iret C dX7_small_47 (pfst h) (psnd h)
  · refine g_iconst (pc := 9) C (v := (-1 : Int32)) dX7_small_9 (by decide) ?_
    exact g_iret C dX7_small_10 (pfst h) (psnd h)
theorem mX7_small (l : Launch) (Z : Sh) {σ : Sg} {v1 : Int32} {u : Sg × Int32}  (h : fX7_small σ v1 = some u) : MI l Z layX yX7_small wsX7_small rX7_small [.ref (ad Z 0), .int v1] σ u.1 u.2 :=
  MI.of (cc := cX7_small) (maxL := 2) (ret := (some .int)) (by decide) rfl (Nat.le_of_ble_eq_true rfl) (fun p e s m below meth c C => kX7_small_e C  h)
