def rX2_carries : Room := { frames := 2, cells := 0, slots := 0, locals := 44 }
def fX2_carries (σ : Sg) (a : Nat) (v1 : Int32) : Option (Int32) := (fX2_heldBy σ a v1).bind fun t1 => (fX2_seatsIn σ a t1).bind fun t2 => (fX2_everyBorough σ a).bind fun t3 => (fX2_seatsIn σ a t3).bind fun t4 => if ((2 : Int32) * t2) ≤ t4 then some (0 : Int32) else some (1 : Int32)
set_option maxHeartbeats 1000000 in
set_option maxRecDepth 20000 in
theorem kX2_carries_e {p : Program} {l : Launch} {e : Env} {s : State} {m : MethodId} {args : Array Value} {below : List Frame} {meth : Method} {c : Code} {Z : Sh} (C : Cx p s m args meth c cX2_carries 2 wsX2_carries RX2 (some .boolean) Z layX) {σ : Sg} {a : Nat} {v1 : Int32} {u : Int32} (h_a : IsR a) (h : fX2_carries σ a v1 = some u) : G p l e rX2_carries s m args below meth c 2 Z layX (MQ below (QI Z layX σ u s.heap.size) args s 0 0 (pA Z layX s.heap.size)) σ 0 [(0, .ref (ad Z a)), (1, .int v1)] [] := by
  unfold fX2_carries at h
  refine g_iconst (pc := 0) C (v := (2 : Int32)) dX2_carries_0 (by decide) ?_
  refine g_aload_n (pc := 1) C dX2_carries_1 rfl 0 rfl ?_
  refine g_aload_n (pc := 2) C dX2_carries_2 rfl 0 rfl ?_
  refine g_iload_n (pc := 3) C dX2_carries_3 rfl 1 rfl ?_
  obtain ⟨t1, et1, h⟩ := bs h
  refine g_callVi (pc := 4) C (As := [.int v1]) (rest := [.ref (ad Z a), .int (2 : Int32)]) (k := a) h_a.1 (by rfl) (cwV 1 C.2.2.2.2.2.1 gX2_carries_X2_heldBy rfl rfl rfl (by decide +kernel) ⟨Nat.le_of_ble_eq_true rfl, Nat.le_of_ble_eq_true rfl⟩) (mX2_heldBy l Z h_a et1) rfl rfl (Nat.le_of_ble_eq_true rfl) dX2_carries_4 ?_
  obtain ⟨t2, et2, h⟩ := bs h
  refine g_callVi (pc := 7) C (As := [.int t1]) (rest := [.int (2 : Int32)]) (k := a) h_a.1 (by rfl) (cwV 1 C.2.2.2.2.2.1 gX2_carries_X2_seatsIn rfl rfl rfl (by decide +kernel) ⟨Nat.le_of_ble_eq_true rfl, Nat.le_of_ble_eq_true rfl⟩) (mX2_seatsIn l Z h_a et2) rfl rfl (Nat.le_of_ble_eq_true rfl) dX2_carries_7 ?_
  refine g_imul (pc := 10) C dX2_carries_10 ?_
  refine g_aload_n (pc := 11) C dX2_carries_11 rfl 0 rfl ?_
  refine g_aload_n (pc := 12) C dX2_carries_12 rfl 0 rfl ?_
  obtain ⟨t3, et3, h⟩ := bs h
  refine g_callVi (pc := 13) C (As := []) (rest := [.ref (ad Z a), .int ((2 : Int32) * t2)]) (k := a) h_a.1 (by rfl) (cwV 0 C.2.2.2.2.2.1 gX2_carries_X2_everyBorough rfl rfl rfl (by decide +kernel) ⟨Nat.le_of_ble_eq_true rfl, Nat.le_of_ble_eq_true rfl⟩) (mX2_everyBorough l Z h_a et3) rfl rfl (Nat.le_of_ble_eq_true rfl) dX2_carries_13 ?_
  obtain ⟨t4, et4, h⟩ := bs h
  refine g_callVi (pc := 16) C (As := [.int t3]) (rest := [.int ((2 : Int32) * t2)]) (k := a) h_a.1 (by rfl) (cwV 1 C.2.2.2.2.2.1 gX2_carries_X2_seatsIn rfl rfl rfl (by decide +kernel) ⟨Nat.le_of_ble_eq_true rfl, Nat.le_of_ble_eq_true rfl⟩) (mX2_seatsIn l Z h_a et4) rfl rfl (Nat.le_of_ble_eq_true rfl) dX2_carries_16 ?_
  refine g_icmp_le (pc := 19) C (tgt := 26) dX2_carries_19 (by decide) h (fun hc19 h => ?_) (fun hc19 h => ?_)
  · refine g_iconst (pc := 26) C (v := (0 : Int32)) dX2_carries_26 (by decide) ?_
    exact g_zret C dX2_carries_27 rfl (rz0.trans h)
  · refine g_iconst (pc := 22) C (v := (1 : Int32)) dX2_carries_22 (by decide) ?_
    refine g_goto (pc := 23) C (tgt := 27) dX2_carries_23 (by decide) ?_
    exact g_zret C dX2_carries_27 rfl (rz1.trans h)
theorem mX2_carries (l : Launch) (Z : Sh) {σ : Sg} {a : Nat} {v1 : Int32} {u : Int32} (h_a : IsR a) (h : fX2_carries σ a v1 = some u) : MI l Z layX yX2_carries wsX2_carries rX2_carries [.ref (ad Z a), .int v1] σ σ u :=
  MI.of (cc := cX2_carries) (maxL := 2) (ret := (some .boolean)) (by decide) rfl (Nat.le_of_ble_eq_true rfl) (fun p e s m below meth c C => kX2_carries_e C h_a h)

def rX2_canBuy : Room := { frames := 3, cells := 0, slots := 0, locals := 64 }
theorem uX2_canBuy_X2 : ∀ w ∈ wsX20, w ∈ wsX2_canBuy := by decide +kernel
def fX2_canBuy (σ : Sg) (a : Nat) (v1 : Int32) (v2 : Int32) : Option (Int32) := (fX2_hasLord σ a v1).bind fun t1 => if t1 = 0 then some (0 : Int32) else (fX2_hasBorough σ a v2).bind fun t2 => if t2 = 0 then some (0 : Int32) else (rd (σ (a + 5)) 6 v2).bind fun t3 => if t3 = v1 then some (0 : Int32) else (rd (σ (a + 1)) 4 v1).bind fun t4 => (fX2_costOf σ a v2).bind fun t5 => if t4 < t5 then some (0 : Int32) else some (1 : Int32)
set_option maxHeartbeats 1000000 in
set_option maxRecDepth 20000 in
theorem kX2_canBuy_e {p : Program} {l : Launch} {e : Env} {s : State} {m : MethodId} {args : Array Value} {below : List Frame} {meth : Method} {c : Code} {Z : Sh} (C : Cx p s m args meth c cX2_canBuy 3 wsX2_canBuy RX2 (some .boolean) Z layX) {σ : Sg} {a : Nat} {v1 : Int32} {v2 : Int32} {u : Int32} (h_a : IsR a) (h : fX2_canBuy σ a v1 v2 = some u) : G p l e rX2_canBuy s m args below meth c 3 Z layX (MQ below (QI Z layX σ u s.heap.size) args s 0 0 (pA Z layX s.heap.size)) σ 0 [(0, .ref (ad Z a)), (1, .int v1), (2, .int v2)] [] := by
  unfold fX2_canBuy at h
  refine g_aload_n (pc := 0) C dX2_canBuy_0 rfl 0 rfl ?_
  refine g_iload_n (pc := 1) C dX2_canBuy_1 rfl 1 rfl ?_
  obtain ⟨t1, et1, h⟩ := bs h
  refine g_callVi (pc := 2) C (As := [.int v1]) (rest := []) (k := a) h_a.1 (by rfl) (cwV 1 C.2.2.2.2.2.1 gX2_canBuy_X2_hasLord rfl rfl rfl (by decide +kernel) ⟨Nat.le_of_ble_eq_true rfl, Nat.le_of_ble_eq_true rfl⟩) (mX2_hasLord l Z h_a et1) rfl rfl (Nat.le_of_ble_eq_true rfl) dX2_canBuy_2 ?_
  refine g_if_eq (pc := 5) C (tgt := 44) dX2_canBuy_5 (by decide) h (fun hc5 h => ?_) (fun hc5 h => ?_)
  · refine g_iconst (pc := 44) C (v := (0 : Int32)) dX2_canBuy_44 (by decide) ?_
    exact g_zret C dX2_canBuy_45 rfl (rz0.trans h)
  · refine g_aload_n (pc := 8) C dX2_canBuy_8 rfl 0 rfl ?_
    refine g_iload_n (pc := 9) C dX2_canBuy_9 rfl 2 rfl ?_
    obtain ⟨t2, et2, h⟩ := bs h
    refine g_callVi (pc := 10) C (As := [.int v2]) (rest := []) (k := a) h_a.1 (by rfl) (cwV 1 C.2.2.2.2.2.1 gX2_canBuy_X2_hasBorough rfl rfl rfl (by decide +kernel) ⟨Nat.le_of_ble_eq_true rfl, Nat.le_of_ble_eq_true rfl⟩) (mX2_hasBorough l Z h_a et2) rfl rfl (Nat.le_of_ble_eq_true rfl) dX2_canBuy_10 ?_
    refine g_if_eq (pc := 13) C (tgt := 44) dX2_canBuy_13 (by decide) h (fun hc13 h => ?_) (fun hc13 h => ?_)
    · refine g_iconst (pc := 44) C (v := (0 : Int32)) dX2_canBuy_44 (by decide) ?_
      exact g_zret C dX2_canBuy_45 rfl (rz0.trans h)
    · refine g_aload_n (pc := 16) C dX2_canBuy_16 rfl 0 rfl ?_
      refine g_getr (pc := 17) C (Cn := RX2) (T := TX2) (N := 8) (ci := 2) (k := a) (j := 7) uX2_canBuy_X2 h_a.1 rfl (by decide) (by decide +kernel) (q := (a + 5)) rfl dX2_canBuy_17 ?_
      refine g_iload_n (pc := 20) C dX2_canBuy_20 rfl 2 rfl ?_
      obtain ⟨t3, et3, h⟩ := bs h
      refine g_iald (pc := 21) C (k := (a + 5)) (n := 6) h_a.2.2.2.2.2 et3 dX2_canBuy_21 ?_
      refine g_iload_n (pc := 22) C dX2_canBuy_22 rfl 1 rfl ?_
      refine g_icmp_eq (pc := 23) C (tgt := 44) dX2_canBuy_23 (by decide) h (fun hc23 h => ?_) (fun hc23 h => ?_)
      · refine g_iconst (pc := 44) C (v := (0 : Int32)) dX2_canBuy_44 (by decide) ?_
        exact g_zret C dX2_canBuy_45 rfl (rz0.trans h)
      · refine g_aload_n (pc := 26) C dX2_canBuy_26 rfl 0 rfl ?_
        refine g_getr (pc := 27) C (Cn := RX2) (T := TX2) (N := 8) (ci := 2) (k := a) (j := 3) uX2_canBuy_X2 h_a.1 rfl (by decide) (by decide +kernel) (q := (a + 1)) rfl dX2_canBuy_27 ?_
        refine g_iload_n (pc := 30) C dX2_canBuy_30 rfl 1 rfl ?_
        obtain ⟨t4, et4, h⟩ := bs h
        refine g_iald (pc := 31) C (k := (a + 1)) (n := 4) h_a.2.1 et4 dX2_canBuy_31 ?_
        refine g_aload_n (pc := 32) C dX2_canBuy_32 rfl 0 rfl ?_
        refine g_iload_n (pc := 33) C dX2_canBuy_33 rfl 2 rfl ?_
        obtain ⟨t5, et5, h⟩ := bs h
        refine g_callVi (pc := 34) C (As := [.int v2]) (rest := [.int t4]) (k := a) h_a.1 (by rfl) (cwV 1 C.2.2.2.2.2.1 gX2_canBuy_X2_costOf rfl rfl rfl (by decide +kernel) ⟨Nat.le_of_ble_eq_true rfl, Nat.le_of_ble_eq_true rfl⟩) (mX2_costOf l Z h_a et5) rfl rfl (Nat.le_of_ble_eq_true rfl) dX2_canBuy_34 ?_
        refine g_icmp_lt (pc := 37) C (tgt := 44) dX2_canBuy_37 (by decide) h (fun hc37 h => ?_) (fun hc37 h => ?_)
        · refine g_iconst (pc := 44) C (v := (0 : Int32)) dX2_canBuy_44 (by decide) ?_
          exact g_zret C dX2_canBuy_45 rfl (rz0.trans h)
        · refine g_iconst (pc := 40) C (v := (1 : Int32)) dX2_canBuy_40 (by decide) ?_
          refine g_goto (pc := 41) C (tgt := 45) dX2_canBuy_41 (by decide) ?_
          exact g_zret C dX2_canBuy_45 rfl (rz1.trans h)
theorem mX2_canBuy (l : Launch) (Z : Sh) {σ : Sg} {a : Nat} {v1 : Int32} {v2 : Int32} {u : Int32} (h_a : IsR a) (h : fX2_canBuy σ a v1 v2 = some u) : MI l Z layX yX2_canBuy wsX2_canBuy rX2_canBuy [.ref (ad Z a), .int v1, .int v2] σ σ u :=
  MI.of (cc := cX2_canBuy) (maxL := 3) (ret := (some .boolean)) (by decide) rfl (Nat.le_of_ble_eq_true rfl) (fun p e s m below meth c C => kX2_canBuy_e C h_a h)

def rX2_sell : Room := { frames := 4, cells := 0, slots := 0, locals := 86 }
theorem uX2_sell_X2 : ∀ w ∈ wsX20, w ∈ wsX2_sell := by decide +kernel
def fX2_sell_b65 (a : Nat) (v1 : Int32) (v2 : Int32)  (σ : Sg) : Option (Sg × Int32) := (wr σ (a + 5) 6 v2 v1).bind fun σ1 => some (σ1, (1 : Int32))
def fX2_sell (σ : Sg) (a : Nat) (v1 : Int32) (v2 : Int32) : Option (Sg × Int32) := (fX2_canBuy σ a v1 v2).bind fun t1 => if t1 = 0 then some (σ, (0 : Int32)) else (fX2_costOf σ a v2).bind fun t2 => (rd (σ (a + 5)) 6 v2).bind fun t3 => (rd (σ (a + 1)) 4 v1).bind fun t4 => (wr σ (a + 1) 4 v1 (t4 - t2)).bind fun σ5 => (fX2_hasLord σ5 a t3).bind fun t6 => if t6 = 0 then fX2_sell_b65 a v1 v2 σ5 else (rd (σ5 (a + 1)) 4 t3).bind fun t7 => (wr σ5 (a + 1) 4 t3 (imin (t7 + t2) (99 : Int32))).bind fun σ8 => fX2_sell_b65 a v1 v2 σ8
set_option maxHeartbeats 1000000 in
set_option maxRecDepth 20000 in
theorem kX2_sell_b65 {p : Program} {l : Launch} {e : Env} {s : State} {m : MethodId} {args : Array Value} {below : List Frame} {meth : Method} {c : Code} {Z : Sh} (C : Cx p s m args meth c cX2_sell 5 wsX2_sell RX2 (some .boolean) Z layX) {a : Nat} {v1 : Int32} {v2 : Int32} {u : Sg × Int32} (h_a : IsR a)  {σ : Sg} (h : fX2_sell_b65 a v1 v2 σ = some u) : G p l e rX2_sell s m args below meth c 5 Z layX (MQ below (QI Z layX u.1 u.2 s.heap.size) args s 0 0 (pA Z layX s.heap.size)) σ 65 [(0, .ref (ad Z a)), (1, .int v1), (2, .int v2)] [] := by
  unfold fX2_sell_b65 at h
  refine g_aload_n (pc := 65) C dX2_sell_65 rfl 0 rfl ?_
  refine g_getr (pc := 66) C (Cn := RX2) (T := TX2) (N := 8) (ci := 2) (k := a) (j := 7) uX2_sell_X2 h_a.1 rfl (by decide) (by decide +kernel) (q := (a + 5)) rfl dX2_sell_66 ?_
  refine g_iload_n (pc := 69) C dX2_sell_69 rfl 2 rfl ?_
  refine g_iload_n (pc := 70) C dX2_sell_70 rfl 1 rfl ?_
  obtain ⟨σ1, eσ1, h⟩ := bs h
  refine g_iast (pc := 71) C (k := (a + 5)) (n := 6) h_a.2.2.2.2.2 eσ1 dX2_sell_71 ?_
  refine g_iconst (pc := 72) C (v := (1 : Int32)) dX2_sell_72 (by decide) ?_
  exact g_zret C dX2_sell_73 (pfst h) (rz1.trans (congrArg some (psnd h)))
set_option maxHeartbeats 1000000 in
set_option maxRecDepth 20000 in
theorem kX2_sell_e {p : Program} {l : Launch} {e : Env} {s : State} {m : MethodId} {args : Array Value} {below : List Frame} {meth : Method} {c : Code} {Z : Sh} (C : Cx p s m args meth c cX2_sell 5 wsX2_sell RX2 (some .boolean) Z layX) {σ : Sg} {a : Nat} {v1 : Int32} {v2 : Int32} {u : Sg × Int32} (h_a : IsR a) (h : fX2_sell σ a v1 v2 = some u) : G p l e rX2_sell s m args below meth c 5 Z layX (MQ below (QI Z layX u.1 u.2 s.heap.size) args s 0 0 (pA Z layX s.heap.size)) σ 0 [(0, .ref (ad Z a)), (1, .int v1), (2, .int v2)] [] := by
  unfold fX2_sell at h
  refine g_aload_n (pc := 0) C dX2_sell_0 rfl 0 rfl ?_
  refine g_iload_n (pc := 1) C dX2_sell_1 rfl 1 rfl ?_
  refine g_iload_n (pc := 2) C dX2_sell_2 rfl 2 rfl ?_
  obtain ⟨t1, et1, h⟩ := bs h
  refine g_callVi (pc := 3) C (As := [.int v1, .int v2]) (rest := []) (k := a) h_a.1 (by rfl) (cwV 2 C.2.2.2.2.2.1 gX2_sell_X2_canBuy rfl rfl rfl (by decide +kernel) ⟨Nat.le_of_ble_eq_true rfl, Nat.le_of_ble_eq_true rfl⟩) (mX2_canBuy l Z h_a et1) rfl rfl (Nat.le_of_ble_eq_true rfl) dX2_sell_3 ?_
  refine g_if_ne (pc := 6) C (tgt := 11) dX2_sell_6 (by decide) h (fun hc6 h => ?_) (fun hc6 h => ?_)
  · refine g_aload_n (pc := 11) C dX2_sell_11 rfl 0 rfl ?_
    refine g_iload_n (pc := 12) C dX2_sell_12 rfl 2 rfl ?_
    obtain ⟨t2, et2, h⟩ := bs h
    refine g_callVi (pc := 13) C (As := [.int v2]) (rest := []) (k := a) h_a.1 (by rfl) (cwV 1 C.2.2.2.2.2.1 gX2_sell_X2_costOf rfl rfl rfl (by decide +kernel) ⟨Nat.le_of_ble_eq_true rfl, Nat.le_of_ble_eq_true rfl⟩) (mX2_costOf l Z h_a et2) rfl rfl (Nat.le_of_ble_eq_true rfl) dX2_sell_13 ?_
    refine g_istore_n (pc := 16) C (lv2 := [(3, .int t2), (0, .ref (ad Z a)), (1, .int v1), (2, .int v2)]) dX2_sell_16 rfl (by decide) rfl ?_
    refine g_aload_n (pc := 17) C dX2_sell_17 rfl 1 rfl ?_
    refine g_getr (pc := 18) C (Cn := RX2) (T := TX2) (N := 8) (ci := 2) (k := a) (j := 7) uX2_sell_X2 h_a.1 rfl (by decide) (by decide +kernel) (q := (a + 5)) rfl dX2_sell_18 ?_
    refine g_iload_n (pc := 21) C dX2_sell_21 rfl 3 rfl ?_
    obtain ⟨t3, et3, h⟩ := bs h
    refine g_iald (pc := 22) C (k := (a + 5)) (n := 6) h_a.2.2.2.2.2 et3 dX2_sell_22 ?_
    refine g_istore (pc := 23) C (lv2 := [(4, .int t3), (3, .int t2), (0, .ref (ad Z a)), (1, .int v1), (2, .int v2)]) dX2_sell_23 (by decide) rfl ?_
    refine g_aload_n (pc := 25) C dX2_sell_25 rfl 2 rfl ?_
    refine g_getr (pc := 26) C (Cn := RX2) (T := TX2) (N := 8) (ci := 2) (k := a) (j := 3) uX2_sell_X2 h_a.1 rfl (by decide) (by decide +kernel) (q := (a + 1)) rfl dX2_sell_26 ?_
    refine g_iload_n (pc := 29) C dX2_sell_29 rfl 3 rfl ?_
    refine g_dup2 (pc := 30) C rfl rfl dX2_sell_30 ?_
    obtain ⟨t4, et4, h⟩ := bs h
    refine g_iald (pc := 31) C (k := (a + 1)) (n := 4) h_a.2.1 et4 dX2_sell_31 ?_
    refine g_iload_n (pc := 32) C dX2_sell_32 rfl 1 rfl ?_
    refine g_isub (pc := 33) C dX2_sell_33 ?_
    obtain ⟨σ5, eσ5, h⟩ := bs h
    refine g_iast (pc := 34) C (k := (a + 1)) (n := 4) h_a.2.1 eσ5 dX2_sell_34 ?_
    refine g_aload_n (pc := 35) C dX2_sell_35 rfl 2 rfl ?_
    refine g_iload (pc := 36) C dX2_sell_36 0 rfl ?_
    obtain ⟨t6, et6, h⟩ := bs h
    refine g_callVi (pc := 38) C (As := [.int t3]) (rest := []) (k := a) h_a.1 (by rfl) (cwV 1 C.2.2.2.2.2.1 gX2_sell_X2_hasLord rfl rfl rfl (by decide +kernel) ⟨Nat.le_of_ble_eq_true rfl, Nat.le_of_ble_eq_true rfl⟩) (mX2_hasLord l Z h_a et6) rfl rfl (Nat.le_of_ble_eq_true rfl) dX2_sell_38 ?_
    refine g_if_eq (pc := 41) C (tgt := 65) dX2_sell_41 (by decide) h (fun hc41 h => ?_) (fun hc41 h => ?_)
    · exact g_sub [2, 3, 4] rfl (kX2_sell_b65 C h_a   h)
    · refine g_aload_n (pc := 44) C dX2_sell_44 rfl 2 rfl ?_
      refine g_getr (pc := 45) C (Cn := RX2) (T := TX2) (N := 8) (ci := 2) (k := a) (j := 3) uX2_sell_X2 h_a.1 rfl (by decide) (by decide +kernel) (q := (a + 1)) rfl dX2_sell_45 ?_
      refine g_iload (pc := 48) C dX2_sell_48 0 rfl ?_
      refine g_aload_n (pc := 50) C dX2_sell_50 rfl 2 rfl ?_
      refine g_getr (pc := 51) C (Cn := RX2) (T := TX2) (N := 8) (ci := 2) (k := a) (j := 3) uX2_sell_X2 h_a.1 rfl (by decide) (by decide +kernel) (q := (a + 1)) rfl dX2_sell_51 ?_
      refine g_iload (pc := 54) C dX2_sell_54 0 rfl ?_
      obtain ⟨t7, et7, h⟩ := bs h
      refine g_iald (pc := 56) C (k := (a + 1)) (n := 4) h_a.2.1 et7 dX2_sell_56 ?_
      refine g_iload_n (pc := 57) C dX2_sell_57 rfl 1 rfl ?_
      refine g_iadd (pc := 58) C dX2_sell_58 ?_
      refine g_bipush (pc := 59) C (v := (99 : Int32)) dX2_sell_59 (by decide) ?_
      refine g_mmin (pc := 61) C (by decide +kernel) (by decide +kernel) (by decide +kernel) (by decide +kernel) (Nat.le_of_ble_eq_true rfl) (Nat.le_of_ble_eq_true rfl) (Nat.le_of_ble_eq_true rfl) dX2_sell_61 ?_
      obtain ⟨σ8, eσ8, h⟩ := bs h
      refine g_iast (pc := 64) C (k := (a + 1)) (n := 4) h_a.2.1 eσ8 dX2_sell_64 ?_
      exact g_sub [2, 3, 4] rfl (kX2_sell_b65 C h_a   h)
  · refine g_iconst (pc := 9) C (v := (0 : Int32)) dX2_sell_9 (by decide) ?_
    exact g_zret C dX2_sell_10 (pfst h) (rz0.trans (congrArg some (psnd h)))
theorem mX2_sell (l : Launch) (Z : Sh) {σ : Sg} {a : Nat} {v1 : Int32} {v2 : Int32} {u : Sg × Int32} (h_a : IsR a) (h : fX2_sell σ a v1 v2 = some u) : MI l Z layX yX2_sell wsX2_sell rX2_sell [.ref (ad Z a), .int v1, .int v2] σ u.1 u.2 :=
  MI.of (cc := cX2_sell) (maxL := 5) (ret := (some .boolean)) (by decide) rfl (Nat.le_of_ble_eq_true rfl) (fun p e s m below meth c C => kX2_sell_e C h_a h)

def rX2_cheapestMajority : Room := { frames := 4, cells := 0, slots := 0, locals := 87 }
def fX2_cheapestMajority_b73 (σ : Sg) (a : Nat) (v1 : Int32) (v2 : Int32) (k19 : Int32 → Int32 → Int32 → Int32 → Option (Int32)) (v3 : Int32) (v6 : Int32) (v7 : Int32) : Option (Int32) := k19 v3 v6 v7 (v6 + 1)
def fX2_cheapestMajority_l19 (σ : Sg) (a : Nat) (v1 : Int32) (v2 : Int32)  : Nat → Int32 → Int32 → Int32 → Int32 → Option (Int32)
  | 0, _, _, _, _ => none
  | n + 1, v3, v4, v5, v6 => (fX2_everyBorough σ a).bind fun t1 => if t1 < v6 then some v4 else if (v6 &&& (v1 ^^^ (-1 : Int32))) = 0 then (fX2_seatsIn σ a v6).bind fun t2 => if ((2 : Int32) * (v2 + t2)) ≤ v3 then fX2_cheapestMajority_l19 σ a v1 v2 n v3 v4 v5 (v6 + 1) else (fX2_costOfAll σ a v6).bind fun t3 => if v4 = (-4 : Int32) then fX2_cheapestMajority_b73 σ a v1 v2 (fun v3 v4 v5 v6 => fX2_cheapestMajority_l19 σ a v1 v2 n v3 v4 v5 v6) v3 v6 t3 else if v5 ≤ t3 then fX2_cheapestMajority_l19 σ a v1 v2 n v3 v4 v5 (v6 + 1) else fX2_cheapestMajority_b73 σ a v1 v2 (fun v3 v4 v5 v6 => fX2_cheapestMajority_l19 σ a v1 v2 n v3 v4 v5 v6) v3 v6 t3 else fX2_cheapestMajority_l19 σ a v1 v2 n v3 v4 v5 (v6 + 1)
def fX2_cheapestMajority (σ : Sg) (a : Nat) (v1 : Int32) (v2 : Int32) : Option (Int32) := (fX2_everyBorough σ a).bind fun t1 => (fX2_seatsIn σ a t1).bind fun t2 => fX2_cheapestMajority_l19 σ a v1 v2 2000 t2 (-4 : Int32) (0 : Int32) (0 : Int32)
set_option maxHeartbeats 1000000 in
set_option maxRecDepth 20000 in
theorem kX2_cheapestMajority_b73 {p : Program} {l : Launch} {e : Env} {s : State} {m : MethodId} {args : Array Value} {below : List Frame} {meth : Method} {c : Code} {Z : Sh} (C : Cx p s m args meth c cX2_cheapestMajority 8 wsX2_cheapestMajority RX2 (some .int) Z layX) {σ : Sg} {a : Nat} {v1 : Int32} {v2 : Int32} {u : Int32} (h_a : IsR a) {k19 : Int32 → Int32 → Int32 → Int32 → Option (Int32)} (hk19 : ∀ (v3 : Int32) (v4 : Int32) (v5 : Int32) (v6 : Int32), k19 v3 v4 v5 v6 = some u → G p l e rX2_cheapestMajority s m args below meth c 8 Z layX (MQ below (QI Z layX σ u s.heap.size) args s 0 0 (pA Z layX s.heap.size)) σ 19 [(0, .ref (ad Z a)), (1, .int v1), (2, .int v2), (3, .int v3), (4, .int v4), (5, .int v5), (6, .int v6)] []) {v3 : Int32} {v6 : Int32} {v7 : Int32} (h : fX2_cheapestMajority_b73 σ a v1 v2 k19 v3 v6 v7 = some u) : G p l e rX2_cheapestMajority s m args below meth c 8 Z layX (MQ below (QI Z layX σ u s.heap.size) args s 0 0 (pA Z layX s.heap.size)) σ 73 [(0, .ref (ad Z a)), (1, .int v1), (2, .int v2), (3, .int v3), (6, .int v6), (7, .int v7)] [] := by
  unfold fX2_cheapestMajority_b73 at h
  refine g_iload (pc := 73) C dX2_cheapestMajority_73 4 rfl ?_
  refine g_istore (pc := 75) C (lv2 := [(4, .int v6), (0, .ref (ad Z a)), (1, .int v1), (2, .int v2), (3, .int v3), (6, .int v6), (7, .int v7)]) dX2_cheapestMajority_75 (by decide) rfl ?_
  refine g_iload (pc := 77) C dX2_cheapestMajority_77 6 rfl ?_
  refine g_istore (pc := 79) C (lv2 := [(5, .int v7), (4, .int v6), (0, .ref (ad Z a)), (1, .int v1), (2, .int v2), (3, .int v3), (6, .int v6), (7, .int v7)]) dX2_cheapestMajority_79 (by decide) rfl ?_
  refine g_iinc (pc := 81) C (j := 6) (v := (v6 + 1)) (lv2 := [(6, .int (v6 + 1)), (5, .int v7), (4, .int v6), (0, .ref (ad Z a)), (1, .int v1), (2, .int v2), (3, .int v3), (7, .int v7)]) dX2_cheapestMajority_81 rfl rfl (by decide) rfl ?_
  refine g_goto (pc := 84) C (tgt := 19) dX2_cheapestMajority_84 (by decide) ?_
  exact g_sub [3, 4, 5, 6, 2, 1, 0] rfl (hk19 _ _ _ _ h)
set_option maxHeartbeats 1000000 in
set_option maxRecDepth 20000 in
theorem kX2_cheapestMajority_l19 {p : Program} {l : Launch} {e : Env} {s : State} {m : MethodId} {args : Array Value} {below : List Frame} {meth : Method} {c : Code} {Z : Sh} (C : Cx p s m args meth c cX2_cheapestMajority 8 wsX2_cheapestMajority RX2 (some .int) Z layX) {σ : Sg} {a : Nat} {v1 : Int32} {v2 : Int32} {u : Int32} (h_a : IsR a)  : ∀ (n : Nat) (v3 : Int32) (v4 : Int32) (v5 : Int32) (v6 : Int32), fX2_cheapestMajority_l19 σ a v1 v2 n v3 v4 v5 v6 = some u → G p l e rX2_cheapestMajority s m args below meth c 8 Z layX (MQ below (QI Z layX σ u s.heap.size) args s 0 0 (pA Z layX s.heap.size)) σ 19 [(0, .ref (ad Z a)), (1, .int v1), (2, .int v2), (3, .int v3), (4, .int v4), (5, .int v5), (6, .int v6)] [] := by
  intro n
  induction n with
  | zero => intro v3 v4 v5 v6 h; exact absurd h (by simp [fX2_cheapestMajority_l19])
  | succ n ih =>
    intro v3 v4 v5 v6 h
    rw [fX2_cheapestMajority_l19] at h
    refine g_iload (pc := 19) C dX2_cheapestMajority_19 6 rfl ?_
    refine g_aload_n (pc := 21) C dX2_cheapestMajority_21 rfl 0 rfl ?_
    obtain ⟨t1, et1, h⟩ := bs h
    refine g_callVi (pc := 22) C (As := []) (rest := [.int v6]) (k := a) h_a.1 (by rfl) (cwV 0 C.2.2.2.2.2.1 gX2_cheapestMajority_X2_everyBorough rfl rfl rfl (by decide +kernel) ⟨Nat.le_of_ble_eq_true rfl, Nat.le_of_ble_eq_true rfl⟩) (mX2_everyBorough l Z h_a et1) rfl rfl (Nat.le_of_ble_eq_true rfl) dX2_cheapestMajority_22 ?_
    refine g_icmp_gt (pc := 25) C (tgt := 87) dX2_cheapestMajority_25 (by decide) h (fun hc25 h => ?_) (fun hc25 h => ?_)
    · refine g_iload (pc := 87) C dX2_cheapestMajority_87 4 rfl ?_
      exact g_iret C dX2_cheapestMajority_89 rfl (Option.some.inj h)
    · refine g_iload (pc := 28) C dX2_cheapestMajority_28 6 rfl ?_
      refine g_iload_n (pc := 30) C dX2_cheapestMajority_30 rfl 1 rfl ?_
      refine g_iconst (pc := 31) C (v := (-1 : Int32)) dX2_cheapestMajority_31 (by decide) ?_
      refine g_ixor (pc := 32) C dX2_cheapestMajority_32 ?_
      refine g_iand (pc := 33) C dX2_cheapestMajority_33 ?_
      refine g_if_ne (pc := 34) C (tgt := 81) dX2_cheapestMajority_34 (by decide) h (fun hc34 h => ?_) (fun hc34 h => ?_)
      · refine g_iinc (pc := 81) C (j := 6) (v := (v6 + 1)) (lv2 := [(6, .int (v6 + 1)), (0, .ref (ad Z a)), (1, .int v1), (2, .int v2), (3, .int v3), (4, .int v4), (5, .int v5)]) dX2_cheapestMajority_81 rfl rfl (by decide) rfl ?_
        refine g_goto (pc := 84) C (tgt := 19) dX2_cheapestMajority_84 (by decide) ?_
        exact g_sub [1, 2, 3, 4, 5, 6, 0] rfl (ih _ _ _ _ h)
      · refine g_iconst (pc := 37) C (v := (2 : Int32)) dX2_cheapestMajority_37 (by decide) ?_
        refine g_iload_n (pc := 38) C dX2_cheapestMajority_38 rfl 2 rfl ?_
        refine g_aload_n (pc := 39) C dX2_cheapestMajority_39 rfl 0 rfl ?_
        refine g_iload (pc := 40) C dX2_cheapestMajority_40 6 rfl ?_
        obtain ⟨t2, et2, h⟩ := bs h
        refine g_callVi (pc := 42) C (As := [.int v6]) (rest := [.int v2, .int (2 : Int32)]) (k := a) h_a.1 (by rfl) (cwV 1 C.2.2.2.2.2.1 gX2_cheapestMajority_X2_seatsIn rfl rfl rfl (by decide +kernel) ⟨Nat.le_of_ble_eq_true rfl, Nat.le_of_ble_eq_true rfl⟩) (mX2_seatsIn l Z h_a et2) rfl rfl (Nat.le_of_ble_eq_true rfl) dX2_cheapestMajority_42 ?_
        refine g_iadd (pc := 45) C dX2_cheapestMajority_45 ?_
        refine g_imul (pc := 46) C dX2_cheapestMajority_46 ?_
        refine g_iload_n (pc := 47) C dX2_cheapestMajority_47 rfl 3 rfl ?_
        refine g_icmp_le (pc := 48) C (tgt := 81) dX2_cheapestMajority_48 (by decide) h (fun hc48 h => ?_) (fun hc48 h => ?_)
        · refine g_iinc (pc := 81) C (j := 6) (v := (v6 + 1)) (lv2 := [(6, .int (v6 + 1)), (0, .ref (ad Z a)), (1, .int v1), (2, .int v2), (3, .int v3), (4, .int v4), (5, .int v5)]) dX2_cheapestMajority_81 rfl rfl (by decide) rfl ?_
          refine g_goto (pc := 84) C (tgt := 19) dX2_cheapestMajority_84 (by decide) ?_
          exact g_sub [1, 2, 3, 4, 5, 6, 0] rfl (ih _ _ _ _ h)
        · refine g_aload_n (pc := 51) C dX2_cheapestMajority_51 rfl 0 rfl ?_
          refine g_iload (pc := 52) C dX2_cheapestMajority_52 6 rfl ?_
          obtain ⟨t3, et3, h⟩ := bs h
          refine g_callVi (pc := 54) C (As := [.int v6]) (rest := []) (k := a) h_a.1 (by rfl) (cwV 1 C.2.2.2.2.2.1 gX2_cheapestMajority_X2_costOfAll rfl rfl rfl (by decide +kernel) ⟨Nat.le_of_ble_eq_true rfl, Nat.le_of_ble_eq_true rfl⟩) (mX2_costOfAll l Z h_a et3) rfl rfl (Nat.le_of_ble_eq_true rfl) dX2_cheapestMajority_54 ?_
          refine g_istore (pc := 57) C (lv2 := [(7, .int t3), (0, .ref (ad Z a)), (1, .int v1), (2, .int v2), (3, .int v3), (4, .int v4), (5, .int v5), (6, .int v6)]) dX2_cheapestMajority_57 (by decide) rfl ?_
          refine g_iload (pc := 59) C dX2_cheapestMajority_59 5 rfl ?_
          refine g_bipush (pc := 61) C (v := (-4 : Int32)) dX2_cheapestMajority_61 (by decide) ?_
          refine g_icmp_eq (pc := 63) C (tgt := 73) dX2_cheapestMajority_63 (by decide) h (fun hc63 h => ?_) (fun hc63 h => ?_)
          · exact g_sub [1, 2, 3, 4, 7, 0] rfl (kX2_cheapestMajority_b73 C h_a ih  h)
          · refine g_iload (pc := 66) C dX2_cheapestMajority_66 0 rfl ?_
            refine g_iload (pc := 68) C dX2_cheapestMajority_68 6 rfl ?_
            refine g_icmp_ge (pc := 70) C (tgt := 81) dX2_cheapestMajority_70 (by decide) h (fun hc70 h => ?_) (fun hc70 h => ?_)
            · refine g_iinc (pc := 81) C (j := 7) (v := (v6 + 1)) (lv2 := [(6, .int (v6 + 1)), (7, .int t3), (0, .ref (ad Z a)), (1, .int v1), (2, .int v2), (3, .int v3), (4, .int v4), (5, .int v5)]) dX2_cheapestMajority_81 rfl rfl (by decide) rfl ?_
              refine g_goto (pc := 84) C (tgt := 19) dX2_cheapestMajority_84 (by decide) ?_
              exact g_sub [2, 3, 4, 5, 6, 7, 0] rfl (ih _ _ _ _ h)
            · exact g_sub [1, 2, 3, 4, 7, 0] rfl (kX2_cheapestMajority_b73 C h_a ih  h)
set_option maxHeartbeats 1000000 in
set_option maxRecDepth 20000 in
theorem kX2_cheapestMajority_e {p : Program} {l : Launch} {e : Env} {s : State} {m : MethodId} {args : Array Value} {below : List Frame} {meth : Method} {c : Code} {Z : Sh} (C : Cx p s m args meth c cX2_cheapestMajority 8 wsX2_cheapestMajority RX2 (some .int) Z layX) {σ : Sg} {a : Nat} {v1 : Int32} {v2 : Int32} {u : Int32} (h_a : IsR a) (h : fX2_cheapestMajority σ a v1 v2 = some u) : G p l e rX2_cheapestMajority s m args below meth c 8 Z layX (MQ below (QI Z layX σ u s.heap.size) args s 0 0 (pA Z layX s.heap.size)) σ 0 [(0, .ref (ad Z a)), (1, .int v1), (2, .int v2)] [] := by
  unfold fX2_cheapestMajority at h
  refine g_aload_n (pc := 0) C dX2_cheapestMajority_0 rfl 0 rfl ?_
  refine g_aload_n (pc := 1) C dX2_cheapestMajority_1 rfl 0 rfl ?_
  obtain ⟨t1, et1, h⟩ := bs h
  refine g_callVi (pc := 2) C (As := []) (rest := [.ref (ad Z a)]) (k := a) h_a.1 (by rfl) (cwV 0 C.2.2.2.2.2.1 gX2_cheapestMajority_X2_everyBorough rfl rfl rfl (by decide +kernel) ⟨Nat.le_of_ble_eq_true rfl, Nat.le_of_ble_eq_true rfl⟩) (mX2_everyBorough l Z h_a et1) rfl rfl (Nat.le_of_ble_eq_true rfl) dX2_cheapestMajority_2 ?_
  obtain ⟨t2, et2, h⟩ := bs h
  refine g_callVi (pc := 5) C (As := [.int t1]) (rest := []) (k := a) h_a.1 (by rfl) (cwV 1 C.2.2.2.2.2.1 gX2_cheapestMajority_X2_seatsIn rfl rfl rfl (by decide +kernel) ⟨Nat.le_of_ble_eq_true rfl, Nat.le_of_ble_eq_true rfl⟩) (mX2_seatsIn l Z h_a et2) rfl rfl (Nat.le_of_ble_eq_true rfl) dX2_cheapestMajority_5 ?_
  refine g_istore_n (pc := 8) C (lv2 := [(3, .int t2), (0, .ref (ad Z a)), (1, .int v1), (2, .int v2)]) dX2_cheapestMajority_8 rfl (by decide) rfl ?_
  refine g_bipush (pc := 9) C (v := (-4 : Int32)) dX2_cheapestMajority_9 (by decide) ?_
  refine g_istore (pc := 11) C (lv2 := [(4, .int (-4 : Int32)), (3, .int t2), (0, .ref (ad Z a)), (1, .int v1), (2, .int v2)]) dX2_cheapestMajority_11 (by decide) rfl ?_
  refine g_iconst (pc := 13) C (v := (0 : Int32)) dX2_cheapestMajority_13 (by decide) ?_
  refine g_istore (pc := 14) C (lv2 := [(5, .int (0 : Int32)), (4, .int (-4 : Int32)), (3, .int t2), (0, .ref (ad Z a)), (1, .int v1), (2, .int v2)]) dX2_cheapestMajority_14 (by decide) rfl ?_
  refine g_iconst (pc := 16) C (v := (0 : Int32)) dX2_cheapestMajority_16 (by decide) ?_
  refine g_istore (pc := 17) C (lv2 := [(6, .int (0 : Int32)), (5, .int (0 : Int32)), (4, .int (-4 : Int32)), (3, .int t2), (0, .ref (ad Z a)), (1, .int v1), (2, .int v2)]) dX2_cheapestMajority_17 (by decide) rfl ?_
  exact g_sub [4, 5, 6, 3, 2, 1, 0] rfl (kX2_cheapestMajority_l19 C h_a  _ _ _ _ _ h)
theorem mX2_cheapestMajority (l : Launch) (Z : Sh) {σ : Sg} {a : Nat} {v1 : Int32} {v2 : Int32} {u : Int32} (h_a : IsR a) (h : fX2_cheapestMajority σ a v1 v2 = some u) : MI l Z layX yX2_cheapestMajority wsX2_cheapestMajority rX2_cheapestMajority [.ref (ad Z a), .int v1, .int v2] σ σ u :=
  MI.of (cc := cX2_cheapestMajority) (maxL := 8) (ret := (some .int)) (by decide) rfl (Nat.le_of_ble_eq_true rfl) (fun p e s m below meth c C => kX2_cheapestMajority_e C h_a h)

def rX3_renew : Room := { frames := 0, cells := 0, slots := 0, locals := 0 }
theorem uX3_renew_X3 : ∀ w ∈ wsX30, w ∈ wsX3_renew := by decide +kernel
def fX3_renew_l12 (a : Nat) (v1 : Int32) (v2 : Int32)  : Nat → Sg → Int32 → Option (Sg)
  | 0, _, _ => none
  | n + 1, σ, v3 => if (40 : Int32) ≤ v3 then some σ else (wr σ (a + 1) 40 v3 (0 : Int32)).bind fun σ1 => fX3_renew_l12 a v1 v2 n σ1 (v3 + 1)
def fX3_renew (σ : Sg) (a : Nat) (v1 : Int32) (v2 : Int32) : Option (Sg) := (pf σ a 1 v1).bind fun σ1 => (pf σ1 a 2 v2).bind fun σ2 => fX3_renew_l12 a v1 v2 2000 σ2 (0 : Int32)
set_option maxHeartbeats 1000000 in
set_option maxRecDepth 20000 in
theorem kX3_renew_l12 {p : Program} {l : Launch} {e : Env} {s : State} {m : MethodId} {args : Array Value} {below : List Frame} {meth : Method} {c : Code} {Z : Sh} (C : Cx p s m args meth c cX3_renew 4 wsX3_renew RX3 none Z layX) {a : Nat} {v1 : Int32} {v2 : Int32} {u : Sg} (h_a : IsS a)  : ∀ (n : Nat) (σ : Sg) (v3 : Int32), fX3_renew_l12 a v1 v2 n σ v3 = some u → G p l e rX3_renew s m args below meth c 4 Z layX (MQ below (QV Z layX u s.heap.size) args s 0 0 (pA Z layX s.heap.size)) σ 12 [(0, .ref (ad Z a)), (3, .int v3)] [] := by
  intro n
  induction n with
  | zero => intro σ v3 h; exact absurd h (by simp [fX3_renew_l12])
  | succ n ih =>
    intro σ v3 h
    rw [fX3_renew_l12] at h
    refine g_iload_n (pc := 12) C dX3_renew_12 rfl 1 rfl ?_
    refine g_bipush (pc := 13) C (v := (40 : Int32)) dX3_renew_13 (by decide) ?_
    refine g_icmp_ge (pc := 15) C (tgt := 31) dX3_renew_15 (by decide) h (fun hc15 h => ?_) (fun hc15 h => ?_)
    · exact g_vret C dX3_renew_31 (Option.some.inj h)
    · refine g_aload_n (pc := 18) C dX3_renew_18 rfl 0 rfl ?_
      refine g_getr (pc := 19) C (Cn := RX3) (T := TX3) (N := 3) (ci := 3) (k := a) (j := 0) uX3_renew_X3 h_a.1 rfl (by decide) (by decide +kernel) (q := (a + 1)) rfl dX3_renew_19 ?_
      refine g_iload_n (pc := 22) C dX3_renew_22 rfl 1 rfl ?_
      refine g_iconst (pc := 23) C (v := (0 : Int32)) dX3_renew_23 (by decide) ?_
      obtain ⟨σ1, eσ1, h⟩ := bs h
      refine g_iast (pc := 24) C (k := (a + 1)) (n := 40) h_a.2 eσ1 dX3_renew_24 ?_
      refine g_iinc (pc := 25) C (j := 1) (v := (v3 + 1)) (lv2 := [(3, .int (v3 + 1)), (0, .ref (ad Z a))]) dX3_renew_25 rfl rfl (by decide) rfl ?_
      refine g_goto (pc := 28) C (tgt := 12) dX3_renew_28 (by decide) ?_
      exact g_sub [1, 0] rfl (ih _ _ h)
set_option maxHeartbeats 1000000 in
set_option maxRecDepth 20000 in
theorem kX3_renew_e {p : Program} {l : Launch} {e : Env} {s : State} {m : MethodId} {args : Array Value} {below : List Frame} {meth : Method} {c : Code} {Z : Sh} (C : Cx p s m args meth c cX3_renew 4 wsX3_renew RX3 none Z layX) {σ : Sg} {a : Nat} {v1 : Int32} {v2 : Int32} {u : Sg} (h_a : IsS a) (h : fX3_renew σ a v1 v2 = some u) : G p l e rX3_renew s m args below meth c 4 Z layX (MQ below (QV Z layX u s.heap.size) args s 0 0 (pA Z layX s.heap.size)) σ 0 [(0, .ref (ad Z a)), (1, .int v1), (2, .int v2)] [] := by
  unfold fX3_renew at h
  refine g_aload_n (pc := 0) C dX3_renew_0 rfl 0 rfl ?_
  refine g_iload_n (pc := 1) C dX3_renew_1 rfl 1 rfl ?_
  obtain ⟨σ1, eσ1, h⟩ := bs h
  refine g_puti (pc := 2) C (Cn := RX3) (T := TX3) (N := 3) (ci := 3) (k := a) (j := 1) uX3_renew_X3 h_a.1 rfl (by decide) (by decide +kernel) tyX3 tyX3_ok nmX3 rfl (by decide +kernel) rfl eσ1 dX3_renew_2 ?_
  refine g_aload_n (pc := 5) C dX3_renew_5 rfl 0 rfl ?_
  refine g_iload_n (pc := 6) C dX3_renew_6 rfl 2 rfl ?_
  obtain ⟨σ2, eσ2, h⟩ := bs h
  refine g_puti (pc := 7) C (Cn := RX3) (T := TX3) (N := 3) (ci := 3) (k := a) (j := 2) uX3_renew_X3 h_a.1 rfl (by decide) (by decide +kernel) tyX3 tyX3_ok nmX3 rfl (by decide +kernel) rfl eσ2 dX3_renew_7 ?_
  refine g_iconst (pc := 10) C (v := (0 : Int32)) dX3_renew_10 (by decide) ?_
  refine g_istore_n (pc := 11) C (lv2 := [(3, .int (0 : Int32)), (0, .ref (ad Z a)), (1, .int v1), (2, .int v2)]) dX3_renew_11 rfl (by decide) rfl ?_
  exact g_sub [1, 0] rfl (kX3_renew_l12 C h_a  _ _ _ h)
theorem mX3_renew (l : Launch) (Z : Sh) {σ : Sg} {a : Nat} {v1 : Int32} {v2 : Int32} {u : Sg} (h_a : IsS a) (h : fX3_renew σ a v1 v2 = some u) : MV l Z layX yX3_renew wsX3_renew rX3_renew [.ref (ad Z a), .int v1, .int v2] σ u :=
  MV.of (cc := cX3_renew) (maxL := 4) (ret := none) (by decide) rfl (Nat.le_of_ble_eq_true rfl) (fun p e s m below meth c C => kX3_renew_e C h_a h)

def rX3_faultAt : Room := { frames := 1, cells := 0, slots := 0, locals := 22 }
theorem uX3_faultAt_X3 : ∀ w ∈ wsX30, w ∈ wsX3_faultAt := by decide +kernel
def fX3_faultAt (σ : Sg) (a : Nat) (v1 : Int32) : Option (Int32) := if (σ a 2) = (-4 : Int32) then some (1 : Int32) else (fX7_within v1 (0 : Int32) ((σ a 2) - (1 : Int32))).bind fun t1 => if t1 = 0 then some (2 : Int32) else some (0 : Int32)
set_option maxHeartbeats 1000000 in
set_option maxRecDepth 20000 in
theorem kX3_faultAt_e {p : Program} {l : Launch} {e : Env} {s : State} {m : MethodId} {args : Array Value} {below : List Frame} {meth : Method} {c : Code} {Z : Sh} (C : Cx p s m args meth c cX3_faultAt 2 wsX3_faultAt RX3 (some .int) Z layX) {σ : Sg} {a : Nat} {v1 : Int32} {u : Int32} (h_a : IsS a) (h : fX3_faultAt σ a v1 = some u) : G p l e rX3_faultAt s m args below meth c 2 Z layX (MQ below (QI Z layX σ u s.heap.size) args s 0 0 (pA Z layX s.heap.size)) σ 0 [(0, .ref (ad Z a)), (1, .int v1)] [] := by
  unfold fX3_faultAt at h
  refine g_aload_n (pc := 0) C dX3_faultAt_0 rfl 0 rfl ?_
  refine g_geti (pc := 1) C (Cn := RX3) (T := TX3) (N := 3) (ci := 3) (k := a) (j := 2) uX3_faultAt_X3 h_a.1 rfl (by decide) (by decide +kernel) (q := 0) rfl dX3_faultAt_1 ?_
  refine g_bipush (pc := 4) C (v := (-4 : Int32)) dX3_faultAt_4 (by decide) ?_
  refine g_icmp_ne (pc := 6) C (tgt := 11) dX3_faultAt_6 (by decide) h (fun hc6 h => ?_) (fun hc6 h => ?_)
  · refine g_iload_n (pc := 11) C dX3_faultAt_11 rfl 1 rfl ?_
    refine g_iconst (pc := 12) C (v := (0 : Int32)) dX3_faultAt_12 (by decide) ?_
    refine g_aload_n (pc := 13) C dX3_faultAt_13 rfl 0 rfl ?_
    refine g_geti (pc := 14) C (Cn := RX3) (T := TX3) (N := 3) (ci := 3) (k := a) (j := 2) uX3_faultAt_X3 h_a.1 rfl (by decide) (by decide +kernel) (q := 0) rfl dX3_faultAt_14 ?_
    refine g_iconst (pc := 17) C (v := (1 : Int32)) dX3_faultAt_17 (by decide) ?_
    refine g_isub (pc := 18) C dX3_faultAt_18 ?_
    obtain ⟨t1, et1, h⟩ := bs h
    refine g_callSNi (pc := 19) C (As := [.int v1, .int (0 : Int32), .int ((σ a 2) - (1 : Int32))]) (rest := []) ⟨va_cnB (y := yX7_within) 3 C.2.2.2.2.2.1 gX3_faultAt_X7_within_n22 rfl rfl rfl (C.2.2.2.2.2.2.2.2.1 (.methodLinkNest "MoundVotes$Sheet" 22 ⟨"MoundVotes", "within", "(III)Z"⟩ "MoundVotes") (by decide +kernel)) (C.2.2.2.2.2.1 (.initialized RX7) (by decide +kernel)) (by decide +kernel) ⟨Nat.le_of_ble_eq_true rfl, Nat.le_of_ble_eq_true rfl⟩, C.2.2.2.2.2.1 (.static yX7_within) (by decide +kernel), trivial⟩ (mX7_within l Z  et1) rfl rfl (Nat.le_of_ble_eq_true rfl) dX3_faultAt_19 ?_
    refine g_if_eq (pc := 22) C (tgt := 29) dX3_faultAt_22 (by decide) h (fun hc22 h => ?_) (fun hc22 h => ?_)
    · refine g_iconst (pc := 29) C (v := (2 : Int32)) dX3_faultAt_29 (by decide) ?_
      exact g_iret C dX3_faultAt_30 rfl (Option.some.inj h)
    · refine g_iconst (pc := 25) C (v := (0 : Int32)) dX3_faultAt_25 (by decide) ?_
      refine g_goto (pc := 26) C (tgt := 30) dX3_faultAt_26 (by decide) ?_
      exact g_iret C dX3_faultAt_30 rfl (Option.some.inj h)
  · refine g_iconst (pc := 9) C (v := (1 : Int32)) dX3_faultAt_9 (by decide) ?_
    exact g_iret C dX3_faultAt_10 rfl (Option.some.inj h)
theorem mX3_faultAt (l : Launch) (Z : Sh) {σ : Sg} {a : Nat} {v1 : Int32} {u : Int32} (h_a : IsS a) (h : fX3_faultAt σ a v1 = some u) : MI l Z layX yX3_faultAt wsX3_faultAt rX3_faultAt [.ref (ad Z a), .int v1] σ σ u :=
  MI.of (cc := cX3_faultAt) (maxL := 2) (ret := (some .int)) (by decide) rfl (Nat.le_of_ble_eq_true rfl) (fun p e s m below meth c C => kX3_faultAt_e C h_a h)

def rX3_faultOfPair : Room := { frames := 2, cells := 0, slots := 0, locals := 43 }
theorem uX3_faultOfPair_X3 : ∀ w ∈ wsX30, w ∈ wsX3_faultOfPair := by decide +kernel
def fX3_faultOfPair_b19 (σ : Sg) (a : Nat) (v1 : Int32) (v2 : Int32)   : Option (Int32) := (fX3_faultAt σ a v2).bind fun t1 => if t1 = 0 then (fX3_faultAt σ a (v2 + (1 : Int32))).bind fun t2 => some t2 else some t1
def fX3_faultOfPair (σ : Sg) (a : Nat) (v1 : Int32) (v2 : Int32) : Option (Int32) := if (σ a 2) = (-4 : Int32) then fX3_faultOfPair_b19 σ a v1 v2 else if (σ a 1) = v1 then fX3_faultOfPair_b19 σ a v1 v2 else some (3 : Int32)
set_option maxHeartbeats 1000000 in
set_option maxRecDepth 20000 in
theorem kX3_faultOfPair_b19 {p : Program} {l : Launch} {e : Env} {s : State} {m : MethodId} {args : Array Value} {below : List Frame} {meth : Method} {c : Code} {Z : Sh} (C : Cx p s m args meth c cX3_faultOfPair 4 wsX3_faultOfPair RX3 (some .int) Z layX) {σ : Sg} {a : Nat} {v1 : Int32} {v2 : Int32} {u : Int32} (h_a : IsS a)   (h : fX3_faultOfPair_b19 σ a v1 v2  = some u) : G p l e rX3_faultOfPair s m args below meth c 4 Z layX (MQ below (QI Z layX σ u s.heap.size) args s 0 0 (pA Z layX s.heap.size)) σ 19 [(0, .ref (ad Z a)), (2, .int v2)] [] := by
  unfold fX3_faultOfPair_b19 at h
  refine g_aload_n (pc := 19) C dX3_faultOfPair_19 rfl 0 rfl ?_
  refine g_iload_n (pc := 20) C dX3_faultOfPair_20 rfl 1 rfl ?_
  obtain ⟨t1, et1, h⟩ := bs h
  refine g_callVi (pc := 21) C (As := [.int v2]) (rest := []) (k := a) h_a.1 (by rfl) (cwV 1 C.2.2.2.2.2.1 gX3_faultOfPair_X3_faultAt rfl rfl rfl (by decide +kernel) ⟨Nat.le_of_ble_eq_true rfl, Nat.le_of_ble_eq_true rfl⟩) (mX3_faultAt l Z h_a et1) rfl rfl (Nat.le_of_ble_eq_true rfl) dX3_faultOfPair_21 ?_
  refine g_istore_n (pc := 24) C (lv2 := [(3, .int t1), (0, .ref (ad Z a)), (2, .int v2)]) dX3_faultOfPair_24 rfl (by decide) rfl ?_
  refine g_iload_n (pc := 25) C dX3_faultOfPair_25 rfl 0 rfl ?_
  refine g_if_eq (pc := 26) C (tgt := 33) dX3_faultOfPair_26 (by decide) h (fun hc26 h => ?_) (fun hc26 h => ?_)
  · refine g_aload_n (pc := 33) C dX3_faultOfPair_33 rfl 1 rfl ?_
    refine g_iload_n (pc := 34) C dX3_faultOfPair_34 rfl 2 rfl ?_
    refine g_iconst (pc := 35) C (v := (1 : Int32)) dX3_faultOfPair_35 (by decide) ?_
    refine g_iadd (pc := 36) C dX3_faultOfPair_36 ?_
    obtain ⟨t2, et2, h⟩ := bs h
    refine g_callVi (pc := 37) C (As := [.int (v2 + (1 : Int32))]) (rest := []) (k := a) h_a.1 (by rfl) (cwV 1 C.2.2.2.2.2.1 gX3_faultOfPair_X3_faultAt rfl rfl rfl (by decide +kernel) ⟨Nat.le_of_ble_eq_true rfl, Nat.le_of_ble_eq_true rfl⟩) (mX3_faultAt l Z h_a et2) rfl rfl (Nat.le_of_ble_eq_true rfl) dX3_faultOfPair_37 ?_
    exact g_iret C dX3_faultOfPair_40 rfl (Option.some.inj h)
  · refine g_iload_n (pc := 29) C dX3_faultOfPair_29 rfl 0 rfl ?_
    refine g_goto (pc := 30) C (tgt := 40) dX3_faultOfPair_30 (by decide) ?_
    exact g_iret C dX3_faultOfPair_40 rfl (Option.some.inj h)
set_option maxHeartbeats 1000000 in
set_option maxRecDepth 20000 in
theorem kX3_faultOfPair_e {p : Program} {l : Launch} {e : Env} {s : State} {m : MethodId} {args : Array Value} {below : List Frame} {meth : Method} {c : Code} {Z : Sh} (C : Cx p s m args meth c cX3_faultOfPair 4 wsX3_faultOfPair RX3 (some .int) Z layX) {σ : Sg} {a : Nat} {v1 : Int32} {v2 : Int32} {u : Int32} (h_a : IsS a) (h : fX3_faultOfPair σ a v1 v2 = some u) : G p l e rX3_faultOfPair s m args below meth c 4 Z layX (MQ below (QI Z layX σ u s.heap.size) args s 0 0 (pA Z layX s.heap.size)) σ 0 [(0, .ref (ad Z a)), (1, .int v1), (2, .int v2)] [] := by
  unfold fX3_faultOfPair at h
  refine g_aload_n (pc := 0) C dX3_faultOfPair_0 rfl 0 rfl ?_
  refine g_geti (pc := 1) C (Cn := RX3) (T := TX3) (N := 3) (ci := 3) (k := a) (j := 2) uX3_faultOfPair_X3 h_a.1 rfl (by decide) (by decide +kernel) (q := 0) rfl dX3_faultOfPair_1 ?_
  refine g_bipush (pc := 4) C (v := (-4 : Int32)) dX3_faultOfPair_4 (by decide) ?_
  refine g_icmp_eq (pc := 6) C (tgt := 19) dX3_faultOfPair_6 (by decide) h (fun hc6 h => ?_) (fun hc6 h => ?_)
  · exact g_sub [0, 2] rfl (kX3_faultOfPair_b19 C h_a   h)
  · refine g_aload_n (pc := 9) C dX3_faultOfPair_9 rfl 0 rfl ?_
    refine g_geti (pc := 10) C (Cn := RX3) (T := TX3) (N := 3) (ci := 3) (k := a) (j := 1) uX3_faultOfPair_X3 h_a.1 rfl (by decide) (by decide +kernel) (q := 0) rfl dX3_faultOfPair_10 ?_
    refine g_iload_n (pc := 13) C dX3_faultOfPair_13 rfl 1 rfl ?_
    refine g_icmp_eq (pc := 14) C (tgt := 19) dX3_faultOfPair_14 (by decide) h (fun hc14 h => ?_) (fun hc14 h => ?_)
    · exact g_sub [0, 2] rfl (kX3_faultOfPair_b19 C h_a   h)
    · refine g_iconst (pc := 17) C (v := (3 : Int32)) dX3_faultOfPair_17 (by decide) ?_
      exact g_iret C dX3_faultOfPair_18 rfl (Option.some.inj h)
theorem mX3_faultOfPair (l : Launch) (Z : Sh) {σ : Sg} {a : Nat} {v1 : Int32} {v2 : Int32} {u : Int32} (h_a : IsS a) (h : fX3_faultOfPair σ a v1 v2 = some u) : MI l Z layX yX3_faultOfPair wsX3_faultOfPair rX3_faultOfPair [.ref (ad Z a), .int v1, .int v2] σ σ u :=
  MI.of (cc := cX3_faultOfPair) (maxL := 4) (ret := (some .int)) (by decide) rfl (Nat.le_of_ble_eq_true rfl) (fun p e s m below meth c C => kX3_faultOfPair_e C h_a h)

def rX3_put : Room := { frames := 2, cells := 0, slots := 0, locals := 43 }
theorem uX3_put_X3 : ∀ w ∈ wsX30, w ∈ wsX3_put := by decide +kernel
def fX3_put (σ : Sg) (a : Nat) (v1 : Int32) (v2 : Int32) : Option (Sg) := (fX3_faultAt σ a v1).bind fun t1 => if t1 = 0 then if (σ a 1) = 0 then (wr σ (a + 1) 40 v1 v2.toInt8.toInt32).bind fun σ4 => some σ4 else if (σ a 1) = (1 : Int32) then (wr σ (a + 1) 40 v1 v2.toInt16.toInt32).bind fun σ3 => some σ3 else (wr σ (a + 1) 40 v1 v2).bind fun σ2 => some σ2 else some σ
set_option maxHeartbeats 1000000 in
set_option maxRecDepth 20000 in
theorem kX3_put_e {p : Program} {l : Launch} {e : Env} {s : State} {m : MethodId} {args : Array Value} {below : List Frame} {meth : Method} {c : Code} {Z : Sh} (C : Cx p s m args meth c cX3_put 3 wsX3_put RX3 none Z layX) {σ : Sg} {a : Nat} {v1 : Int32} {v2 : Int32} {u : Sg} (h_a : IsS a) (h : fX3_put σ a v1 v2 = some u) : G p l e rX3_put s m args below meth c 3 Z layX (MQ below (QV Z layX u s.heap.size) args s 0 0 (pA Z layX s.heap.size)) σ 0 [(0, .ref (ad Z a)), (1, .int v1), (2, .int v2)] [] := by
  unfold fX3_put at h
  refine g_aload_n (pc := 0) C dX3_put_0 rfl 0 rfl ?_
  refine g_iload_n (pc := 1) C dX3_put_1 rfl 1 rfl ?_
  obtain ⟨t1, et1, h⟩ := bs h
  refine g_callVi (pc := 2) C (As := [.int v1]) (rest := []) (k := a) h_a.1 (by rfl) (cwV 1 C.2.2.2.2.2.1 gX3_put_X3_faultAt rfl rfl rfl (by decide +kernel) ⟨Nat.le_of_ble_eq_true rfl, Nat.le_of_ble_eq_true rfl⟩) (mX3_faultAt l Z h_a et1) rfl rfl (Nat.le_of_ble_eq_true rfl) dX3_put_2 ?_
  refine g_if_ne (pc := 5) C (tgt := 40) dX3_put_5 (by decide) h (fun hc5 h => ?_) (fun hc5 h => ?_)
  · exact g_vret C dX3_put_40 (Option.some.inj h)
  · refine g_aload_n (pc := 8) C dX3_put_8 rfl 0 rfl ?_
    refine g_getr (pc := 9) C (Cn := RX3) (T := TX3) (N := 3) (ci := 3) (k := a) (j := 0) uX3_put_X3 h_a.1 rfl (by decide) (by decide +kernel) (q := (a + 1)) rfl dX3_put_9 ?_
    refine g_iload_n (pc := 12) C dX3_put_12 rfl 1 rfl ?_
    refine g_aload_n (pc := 13) C dX3_put_13 rfl 0 rfl ?_
    refine g_geti (pc := 14) C (Cn := RX3) (T := TX3) (N := 3) (ci := 3) (k := a) (j := 1) uX3_put_X3 h_a.1 rfl (by decide) (by decide +kernel) (q := 0) rfl dX3_put_14 ?_
    refine g_if_ne (pc := 17) C (tgt := 25) dX3_put_17 (by decide) h (fun hc17 h => ?_) (fun hc17 h => ?_)
    · refine g_aload_n (pc := 25) C dX3_put_25 rfl 0 rfl ?_
      refine g_geti (pc := 26) C (Cn := RX3) (T := TX3) (N := 3) (ci := 3) (k := a) (j := 1) uX3_put_X3 h_a.1 rfl (by decide) (by decide +kernel) (q := 0) rfl dX3_put_26 ?_
      refine g_iconst (pc := 29) C (v := (1 : Int32)) dX3_put_29 (by decide) ?_
      refine g_icmp_ne (pc := 30) C (tgt := 38) dX3_put_30 (by decide) h (fun hc30 h => ?_) (fun hc30 h => ?_)
      · refine g_iload_n (pc := 38) C dX3_put_38 rfl 2 rfl ?_
        obtain ⟨σ2, eσ2, h⟩ := bs h
        refine g_iast (pc := 39) C (k := (a + 1)) (n := 40) h_a.2 eσ2 dX3_put_39 ?_
        exact g_vret C dX3_put_40 (Option.some.inj h)
      · refine g_iload_n (pc := 33) C dX3_put_33 rfl 2 rfl ?_
        refine g_i2s (pc := 34) C dX3_put_34 ?_
        refine g_goto (pc := 35) C (tgt := 39) dX3_put_35 (by decide) ?_
        obtain ⟨σ3, eσ3, h⟩ := bs h
        refine g_iast (pc := 39) C (k := (a + 1)) (n := 40) h_a.2 eσ3 dX3_put_39 ?_
        exact g_vret C dX3_put_40 (Option.some.inj h)
    · refine g_iload_n (pc := 20) C dX3_put_20 rfl 2 rfl ?_
      refine g_i2b (pc := 21) C dX3_put_21 ?_
      refine g_goto (pc := 22) C (tgt := 39) dX3_put_22 (by decide) ?_
      obtain ⟨σ4, eσ4, h⟩ := bs h
      refine g_iast (pc := 39) C (k := (a + 1)) (n := 40) h_a.2 eσ4 dX3_put_39 ?_
      exact g_vret C dX3_put_40 (Option.some.inj h)
theorem mX3_put (l : Launch) (Z : Sh) {σ : Sg} {a : Nat} {v1 : Int32} {v2 : Int32} {u : Sg} (h_a : IsS a) (h : fX3_put σ a v1 v2 = some u) : MV l Z layX yX3_put wsX3_put rX3_put [.ref (ad Z a), .int v1, .int v2] σ u :=
  MV.of (cc := cX3_put) (maxL := 3) (ret := none) (by decide) rfl (Nat.le_of_ble_eq_true rfl) (fun p e s m below meth c C => kX3_put_e C h_a h)

def rX3_cellAt : Room := { frames := 2, cells := 0, slots := 0, locals := 43 }
theorem uX3_cellAt_X3 : ∀ w ∈ wsX30, w ∈ wsX3_cellAt := by decide +kernel
def fX3_cellAt (σ : Sg) (a : Nat) (v1 : Int32) : Option (Int32) := (fX3_faultAt σ a v1).bind fun t1 => if t1 = 0 then (rd (σ (a + 1)) 40 v1).bind fun t2 => some t2 else some (0 : Int32)
set_option maxHeartbeats 1000000 in
set_option maxRecDepth 20000 in
theorem kX3_cellAt_e {p : Program} {l : Launch} {e : Env} {s : State} {m : MethodId} {args : Array Value} {below : List Frame} {meth : Method} {c : Code} {Z : Sh} (C : Cx p s m args meth c cX3_cellAt 2 wsX3_cellAt RX3 (some .int) Z layX) {σ : Sg} {a : Nat} {v1 : Int32} {u : Int32} (h_a : IsS a) (h : fX3_cellAt σ a v1 = some u) : G p l e rX3_cellAt s m args below meth c 2 Z layX (MQ below (QI Z layX σ u s.heap.size) args s 0 0 (pA Z layX s.heap.size)) σ 0 [(0, .ref (ad Z a)), (1, .int v1)] [] := by
  unfold fX3_cellAt at h
  refine g_aload_n (pc := 0) C dX3_cellAt_0 rfl 0 rfl ?_
  refine g_iload_n (pc := 1) C dX3_cellAt_1 rfl 1 rfl ?_
  obtain ⟨t1, et1, h⟩ := bs h
  refine g_callVi (pc := 2) C (As := [.int v1]) (rest := []) (k := a) h_a.1 (by rfl) (cwV 1 C.2.2.2.2.2.1 gX3_cellAt_X3_faultAt rfl rfl rfl (by decide +kernel) ⟨Nat.le_of_ble_eq_true rfl, Nat.le_of_ble_eq_true rfl⟩) (mX3_faultAt l Z h_a et1) rfl rfl (Nat.le_of_ble_eq_true rfl) dX3_cellAt_2 ?_
  refine g_if_ne (pc := 5) C (tgt := 17) dX3_cellAt_5 (by decide) h (fun hc5 h => ?_) (fun hc5 h => ?_)
  · refine g_iconst (pc := 17) C (v := (0 : Int32)) dX3_cellAt_17 (by decide) ?_
    exact g_iret C dX3_cellAt_18 rfl (Option.some.inj h)
  · refine g_aload_n (pc := 8) C dX3_cellAt_8 rfl 0 rfl ?_
    refine g_getr (pc := 9) C (Cn := RX3) (T := TX3) (N := 3) (ci := 3) (k := a) (j := 0) uX3_cellAt_X3 h_a.1 rfl (by decide) (by decide +kernel) (q := (a + 1)) rfl dX3_cellAt_9 ?_
    refine g_iload_n (pc := 12) C dX3_cellAt_12 rfl 1 rfl ?_
    obtain ⟨t2, et2, h⟩ := bs h
    refine g_iald (pc := 13) C (k := (a + 1)) (n := 40) h_a.2 et2 dX3_cellAt_13 ?_
    refine g_goto (pc := 14) C (tgt := 18) dX3_cellAt_14 (by decide) ?_
    exact g_iret C dX3_cellAt_18 rfl (Option.some.inj h)
theorem mX3_cellAt (l : Launch) (Z : Sh) {σ : Sg} {a : Nat} {v1 : Int32} {u : Int32} (h_a : IsS a) (h : fX3_cellAt σ a v1 = some u) : MI l Z layX yX3_cellAt wsX3_cellAt rX3_cellAt [.ref (ad Z a), .int v1] σ σ u :=
  MI.of (cc := cX3_cellAt) (maxL := 2) (ret := (some .int)) (by decide) rfl (Nat.le_of_ble_eq_true rfl) (fun p e s m below meth c C => kX3_cellAt_e C h_a h)

def rX4_insert : Room := { frames := 2, cells := 0, slots := 0, locals := 43 }
theorem uX4_insert_X4 : ∀ w ∈ wsX40, w ∈ wsX4_insert := by decide +kernel
def fX4_insert_b59 (a : Nat) (v2 : Int32)  (σ : Sg) (v3 : Int32) : Option (Sg) := (wr σ 41 6 v3 v2).bind fun σ1 => (pf σ1 40 1 ((σ1 40 1) + (1 : Int32))).bind fun σ2 => some σ2
def fX4_insert_l15 (a : Nat) (v2 : Int32)  : Nat → Sg → Int32 → Option (Sg)
  | 0, _, _ => none
  | n + 1, σ, v3 => if v3 ≤ 0 then fX4_insert_b59 a v2 σ v3 else (rd (σ 41) 6 (v3 - (1 : Int32))).bind fun t1 => (fX2_votesOf σ a t1).bind fun t2 => (fX2_votesOf σ a v2).bind fun t3 => if t2 ≤ t3 then fX4_insert_b59 a v2 σ v3 else (rd (σ 41) 6 (v3 - (1 : Int32))).bind fun t4 => (wr σ 41 6 v3 t4).bind fun σ5 => fX4_insert_l15 a v2 n σ5 (v3 + (-1))
def fX4_insert (σ : Sg) (a : Nat) (v2 : Int32) : Option (Sg) := if (σ 40 1) < (6 : Int32) then fX4_insert_l15 a v2 2000 σ (σ 40 1) else some σ
set_option maxHeartbeats 1000000 in
set_option maxRecDepth 20000 in
theorem kX4_insert_b59 {p : Program} {l : Launch} {e : Env} {s : State} {m : MethodId} {args : Array Value} {below : List Frame} {meth : Method} {c : Code} {Z : Sh} (C : Cx p s m args meth c cX4_insert 4 wsX4_insert RX4 none Z layX) {a : Nat} {v2 : Int32} {u : Sg} (h_a : IsR a)  {σ : Sg} {v3 : Int32} (h : fX4_insert_b59 a v2 σ v3 = some u) : G p l e rX4_insert s m args below meth c 4 Z layX (MQ below (QV Z layX u s.heap.size) args s 0 0 (pA Z layX s.heap.size)) σ 59 [(0, .ref (ad Z 40)), (2, .int v2), (3, .int v3)] [] := by
  unfold fX4_insert_b59 at h
  refine g_aload_n (pc := 59) C dX4_insert_59 rfl 0 rfl ?_
  refine g_getr (pc := 60) C (Cn := RX4) (T := TX4) (N := 2) (ci := 4) (k := 40) (j := 0) uX4_insert_X4 (by rfl) rfl (by decide) (by decide +kernel) (q := 41) rfl dX4_insert_60 ?_
  refine g_iload_n (pc := 63) C dX4_insert_63 rfl 2 rfl ?_
  refine g_iload_n (pc := 64) C dX4_insert_64 rfl 1 rfl ?_
  obtain ⟨σ1, eσ1, h⟩ := bs h
  refine g_iast (pc := 65) C (k := 41) (n := 6) (by rfl) eσ1 dX4_insert_65 ?_
  refine g_aload_n (pc := 66) C dX4_insert_66 rfl 0 rfl ?_
  refine g_dup (pc := 67) C rfl dX4_insert_67 ?_
  refine g_geti (pc := 68) C (Cn := RX4) (T := TX4) (N := 2) (ci := 4) (k := 40) (j := 1) uX4_insert_X4 (by rfl) rfl (by decide) (by decide +kernel) (q := 0) rfl dX4_insert_68 ?_
  refine g_iconst (pc := 71) C (v := (1 : Int32)) dX4_insert_71 (by decide) ?_
  refine g_iadd (pc := 72) C dX4_insert_72 ?_
  obtain ⟨σ2, eσ2, h⟩ := bs h
  refine g_puti (pc := 73) C (Cn := RX4) (T := TX4) (N := 2) (ci := 4) (k := 40) (j := 1) uX4_insert_X4 (by rfl) rfl (by decide) (by decide +kernel) tyX4 tyX4_ok nmX4 rfl (by decide +kernel) rfl eσ2 dX4_insert_73 ?_
  exact g_vret C dX4_insert_76 (Option.some.inj h)
set_option maxHeartbeats 1000000 in
set_option maxRecDepth 20000 in
theorem kX4_insert_l15 {p : Program} {l : Launch} {e : Env} {s : State} {m : MethodId} {args : Array Value} {below : List Frame} {meth : Method} {c : Code} {Z : Sh} (C : Cx p s m args meth c cX4_insert 4 wsX4_insert RX4 none Z layX) {a : Nat} {v2 : Int32} {u : Sg} (h_a : IsR a)  : ∀ (n : Nat) (σ : Sg) (v3 : Int32), fX4_insert_l15 a v2 n σ v3 = some u → G p l e rX4_insert s m args below meth c 4 Z layX (MQ below (QV Z layX u s.heap.size) args s 0 0 (pA Z layX s.heap.size)) σ 15 [(0, .ref (ad Z 40)), (1, .ref (ad Z a)), (2, .int v2), (3, .int v3)] [] := by
  intro n
  induction n with
  | zero => intro σ v3 h; exact absurd h (by simp [fX4_insert_l15])
  | succ n ih =>
    intro σ v3 h
    rw [fX4_insert_l15] at h
    refine g_iload_n (pc := 15) C dX4_insert_15 rfl 3 rfl ?_
    refine g_if_le (pc := 16) C (tgt := 59) dX4_insert_16 (by decide) h (fun hc16 h => ?_) (fun hc16 h => ?_)
    · exact g_sub [0, 2, 3] rfl (kX4_insert_b59 C h_a   h)
    · refine g_aload_n (pc := 19) C dX4_insert_19 rfl 1 rfl ?_
      refine g_aload_n (pc := 20) C dX4_insert_20 rfl 0 rfl ?_
      refine g_getr (pc := 21) C (Cn := RX4) (T := TX4) (N := 2) (ci := 4) (k := 40) (j := 0) uX4_insert_X4 (by rfl) rfl (by decide) (by decide +kernel) (q := 41) rfl dX4_insert_21 ?_
      refine g_iload_n (pc := 24) C dX4_insert_24 rfl 3 rfl ?_
      refine g_iconst (pc := 25) C (v := (1 : Int32)) dX4_insert_25 (by decide) ?_
      refine g_isub (pc := 26) C dX4_insert_26 ?_
      obtain ⟨t1, et1, h⟩ := bs h
      refine g_iald (pc := 27) C (k := 41) (n := 6) (by rfl) et1 dX4_insert_27 ?_
      obtain ⟨t2, et2, h⟩ := bs h
      refine g_callVi (pc := 28) C (As := [.int t1]) (rest := []) (k := a) h_a.1 (by rfl) (cwV 1 C.2.2.2.2.2.1 gX4_insert_X2_votesOf rfl rfl rfl (by decide +kernel) ⟨Nat.le_of_ble_eq_true rfl, Nat.le_of_ble_eq_true rfl⟩) (mX2_votesOf l Z h_a et2) rfl rfl (Nat.le_of_ble_eq_true rfl) dX4_insert_28 ?_
      refine g_aload_n (pc := 31) C dX4_insert_31 rfl 1 rfl ?_
      refine g_iload_n (pc := 32) C dX4_insert_32 rfl 2 rfl ?_
      obtain ⟨t3, et3, h⟩ := bs h
      refine g_callVi (pc := 33) C (As := [.int v2]) (rest := [.int t2]) (k := a) h_a.1 (by rfl) (cwV 1 C.2.2.2.2.2.1 gX4_insert_X2_votesOf rfl rfl rfl (by decide +kernel) ⟨Nat.le_of_ble_eq_true rfl, Nat.le_of_ble_eq_true rfl⟩) (mX2_votesOf l Z h_a et3) rfl rfl (Nat.le_of_ble_eq_true rfl) dX4_insert_33 ?_
      refine g_icmp_le (pc := 36) C (tgt := 59) dX4_insert_36 (by decide) h (fun hc36 h => ?_) (fun hc36 h => ?_)
      · exact g_sub [0, 2, 3] rfl (kX4_insert_b59 C h_a   h)
      · refine g_aload_n (pc := 39) C dX4_insert_39 rfl 0 rfl ?_
        refine g_getr (pc := 40) C (Cn := RX4) (T := TX4) (N := 2) (ci := 4) (k := 40) (j := 0) uX4_insert_X4 (by rfl) rfl (by decide) (by decide +kernel) (q := 41) rfl dX4_insert_40 ?_
        refine g_iload_n (pc := 43) C dX4_insert_43 rfl 3 rfl ?_
        refine g_aload_n (pc := 44) C dX4_insert_44 rfl 0 rfl ?_
        refine g_getr (pc := 45) C (Cn := RX4) (T := TX4) (N := 2) (ci := 4) (k := 40) (j := 0) uX4_insert_X4 (by rfl) rfl (by decide) (by decide +kernel) (q := 41) rfl dX4_insert_45 ?_
        refine g_iload_n (pc := 48) C dX4_insert_48 rfl 3 rfl ?_
        refine g_iconst (pc := 49) C (v := (1 : Int32)) dX4_insert_49 (by decide) ?_
        refine g_isub (pc := 50) C dX4_insert_50 ?_
        obtain ⟨t4, et4, h⟩ := bs h
        refine g_iald (pc := 51) C (k := 41) (n := 6) (by rfl) et4 dX4_insert_51 ?_
        obtain ⟨σ5, eσ5, h⟩ := bs h
        refine g_iast (pc := 52) C (k := 41) (n := 6) (by rfl) eσ5 dX4_insert_52 ?_
        refine g_iinc (pc := 53) C (j := 3) (v := (v3 + (-1))) (lv2 := [(3, .int (v3 + (-1))), (0, .ref (ad Z 40)), (1, .ref (ad Z a)), (2, .int v2)]) dX4_insert_53 rfl rfl (by decide) rfl ?_
        refine g_goto (pc := 56) C (tgt := 15) dX4_insert_56 (by decide) ?_
        exact g_sub [1, 2, 3, 0] rfl (ih _ _ h)
set_option maxHeartbeats 1000000 in
set_option maxRecDepth 20000 in
theorem kX4_insert_e {p : Program} {l : Launch} {e : Env} {s : State} {m : MethodId} {args : Array Value} {below : List Frame} {meth : Method} {c : Code} {Z : Sh} (C : Cx p s m args meth c cX4_insert 4 wsX4_insert RX4 none Z layX) {σ : Sg} {a : Nat} {v2 : Int32} {u : Sg} (h_a : IsR a) (h : fX4_insert σ a v2 = some u) : G p l e rX4_insert s m args below meth c 4 Z layX (MQ below (QV Z layX u s.heap.size) args s 0 0 (pA Z layX s.heap.size)) σ 0 [(0, .ref (ad Z 40)), (1, .ref (ad Z a)), (2, .int v2)] [] := by
  unfold fX4_insert at h
  refine g_aload_n (pc := 0) C dX4_insert_0 rfl 0 rfl ?_
  refine g_geti (pc := 1) C (Cn := RX4) (T := TX4) (N := 2) (ci := 4) (k := 40) (j := 1) uX4_insert_X4 (by rfl) rfl (by decide) (by decide +kernel) (q := 0) rfl dX4_insert_1 ?_
  refine g_bipush (pc := 4) C (v := (6 : Int32)) dX4_insert_4 (by decide) ?_
  refine g_icmp_lt (pc := 6) C (tgt := 10) dX4_insert_6 (by decide) h (fun hc6 h => ?_) (fun hc6 h => ?_)
  · refine g_aload_n (pc := 10) C dX4_insert_10 rfl 0 rfl ?_
    refine g_geti (pc := 11) C (Cn := RX4) (T := TX4) (N := 2) (ci := 4) (k := 40) (j := 1) uX4_insert_X4 (by rfl) rfl (by decide) (by decide +kernel) (q := 0) rfl dX4_insert_11 ?_
    refine g_istore_n (pc := 14) C (lv2 := [(3, .int (σ 40 1)), (0, .ref (ad Z 40)), (1, .ref (ad Z a)), (2, .int v2)]) dX4_insert_14 rfl (by decide) rfl ?_
    exact g_sub [1, 2, 3, 0] rfl (kX4_insert_l15 C h_a  _ _ _ h)
  · exact g_vret C dX4_insert_9 (Option.some.inj h)
theorem mX4_insert (l : Launch) (Z : Sh) {σ : Sg} {a : Nat} {v2 : Int32} {u : Sg} (h_a : IsR a) (h : fX4_insert σ a v2 = some u) : MV l Z layX yX4_insert wsX4_insert rX4_insert [.ref (ad Z 40), .ref (ad Z a), .int v2] σ u :=
  MV.of (cc := cX4_insert) (maxL := 4) (ret := none) (by decide) rfl (Nat.le_of_ble_eq_true rfl) (fun p e s m below meth c C => kX4_insert_e C h_a h)

def rX4_rank : Room := { frames := 3, cells := 0, slots := 0, locals := 66 }
theorem uX4_rank_X2 : ∀ w ∈ wsX20, w ∈ wsX4_rank := by decide +kernel
theorem uX4_rank_X4 : ∀ w ∈ wsX40, w ∈ wsX4_rank := by decide +kernel
def fX4_rank_l7 (a : Nat)  : Nat → Sg → Int32 → Option (Sg)
  | 0, _, _ => none
  | n + 1, σ, v2 => if (σ a 1) ≤ v2 then some σ else (rd (σ (a + 4)) 6 v2).bind fun t1 => if t1 ≤ 0 then fX4_rank_l7 a n σ (v2 + 1) else (fX4_insert σ a v2).bind fun σ2 => fX4_rank_l7 a n σ2 (v2 + 1)
def fX4_rank (σ : Sg) (a : Nat) : Option (Sg) := (pf σ 40 1 (0 : Int32)).bind fun σ1 => fX4_rank_l7 a 2000 σ1 (0 : Int32)
set_option maxHeartbeats 1000000 in
set_option maxRecDepth 20000 in
theorem kX4_rank_l7 {p : Program} {l : Launch} {e : Env} {s : State} {m : MethodId} {args : Array Value} {below : List Frame} {meth : Method} {c : Code} {Z : Sh} (C : Cx p s m args meth c cX4_rank 3 wsX4_rank RX4 none Z layX) {a : Nat} {u : Sg} (h_a : IsR a)  : ∀ (n : Nat) (σ : Sg) (v2 : Int32), fX4_rank_l7 a n σ v2 = some u → G p l e rX4_rank s m args below meth c 3 Z layX (MQ below (QV Z layX u s.heap.size) args s 0 0 (pA Z layX s.heap.size)) σ 7 [(0, .ref (ad Z 40)), (1, .ref (ad Z a)), (2, .int v2)] [] := by
  intro n
  induction n with
  | zero => intro σ v2 h; exact absurd h (by simp [fX4_rank_l7])
  | succ n ih =>
    intro σ v2 h
    rw [fX4_rank_l7] at h
    refine g_iload_n (pc := 7) C dX4_rank_7 rfl 2 rfl ?_
    refine g_aload_n (pc := 8) C dX4_rank_8 rfl 1 rfl ?_
    refine g_getiN (pc := 9) C (host := "MoundVotes") (Cn := RX2) (T := TX2) (N := 8) (ci := 2) (k := a) (j := 1) uX4_rank_X2 h_a.1 rfl (by decide) (by decide +kernel) (q := 0) rfl dX4_rank_9 ?_
    refine g_icmp_ge (pc := 12) C (tgt := 36) dX4_rank_12 (by decide) h (fun hc12 h => ?_) (fun hc12 h => ?_)
    · exact g_vret C dX4_rank_36 (Option.some.inj h)
    · refine g_aload_n (pc := 15) C dX4_rank_15 rfl 1 rfl ?_
      refine g_getrN (pc := 16) C (host := "MoundVotes") (Cn := RX2) (T := TX2) (N := 8) (ci := 2) (k := a) (j := 6) uX4_rank_X2 h_a.1 rfl (by decide) (by decide +kernel) (q := (a + 4)) rfl dX4_rank_16 ?_
      refine g_iload_n (pc := 19) C dX4_rank_19 rfl 2 rfl ?_
      obtain ⟨t1, et1, h⟩ := bs h
      refine g_iald (pc := 20) C (k := (a + 4)) (n := 6) h_a.2.2.2.2.1 et1 dX4_rank_20 ?_
      refine g_if_le (pc := 21) C (tgt := 30) dX4_rank_21 (by decide) h (fun hc21 h => ?_) (fun hc21 h => ?_)
      · refine g_iinc (pc := 30) C (j := 2) (v := (v2 + 1)) (lv2 := [(2, .int (v2 + 1)), (0, .ref (ad Z 40)), (1, .ref (ad Z a))]) dX4_rank_30 rfl rfl (by decide) rfl ?_
        refine g_goto (pc := 33) C (tgt := 7) dX4_rank_33 (by decide) ?_
        exact g_sub [1, 2, 0] rfl (ih _ _ h)
      · refine g_aload_n (pc := 24) C dX4_rank_24 rfl 0 rfl ?_
        refine g_aload_n (pc := 25) C dX4_rank_25 rfl 1 rfl ?_
        refine g_iload_n (pc := 26) C dX4_rank_26 rfl 2 rfl ?_
        obtain ⟨σ2, eσ2, h⟩ := bs h
        refine g_callVv (pc := 27) C (As := [.ref (ad Z a), .int v2]) (rest := []) (k := 40) (by rfl) (by rfl) (cwV 2 C.2.2.2.2.2.1 gX4_rank_X4_insert rfl rfl rfl (by decide +kernel) ⟨Nat.le_of_ble_eq_true rfl, Nat.le_of_ble_eq_true rfl⟩) (mX4_insert l Z h_a eσ2) rfl rfl (Nat.le_of_ble_eq_true rfl) dX4_rank_27 ?_
        refine g_iinc (pc := 30) C (j := 2) (v := (v2 + 1)) (lv2 := [(2, .int (v2 + 1)), (0, .ref (ad Z 40)), (1, .ref (ad Z a))]) dX4_rank_30 rfl rfl (by decide) rfl ?_
        refine g_goto (pc := 33) C (tgt := 7) dX4_rank_33 (by decide) ?_
        exact g_sub [1, 2, 0] rfl (ih _ _ h)
set_option maxHeartbeats 1000000 in
set_option maxRecDepth 20000 in
theorem kX4_rank_e {p : Program} {l : Launch} {e : Env} {s : State} {m : MethodId} {args : Array Value} {below : List Frame} {meth : Method} {c : Code} {Z : Sh} (C : Cx p s m args meth c cX4_rank 3 wsX4_rank RX4 none Z layX) {σ : Sg} {a : Nat} {u : Sg} (h_a : IsR a) (h : fX4_rank σ a = some u) : G p l e rX4_rank s m args below meth c 3 Z layX (MQ below (QV Z layX u s.heap.size) args s 0 0 (pA Z layX s.heap.size)) σ 0 [(0, .ref (ad Z 40)), (1, .ref (ad Z a))] [] := by
  unfold fX4_rank at h
  refine g_aload_n (pc := 0) C dX4_rank_0 rfl 0 rfl ?_
  refine g_iconst (pc := 1) C (v := (0 : Int32)) dX4_rank_1 (by decide) ?_
  obtain ⟨σ1, eσ1, h⟩ := bs h
  refine g_puti (pc := 2) C (Cn := RX4) (T := TX4) (N := 2) (ci := 4) (k := 40) (j := 1) uX4_rank_X4 (by rfl) rfl (by decide) (by decide +kernel) tyX4 tyX4_ok nmX4 rfl (by decide +kernel) rfl eσ1 dX4_rank_2 ?_
  refine g_iconst (pc := 5) C (v := (0 : Int32)) dX4_rank_5 (by decide) ?_
  refine g_istore_n (pc := 6) C (lv2 := [(2, .int (0 : Int32)), (0, .ref (ad Z 40)), (1, .ref (ad Z a))]) dX4_rank_6 rfl (by decide) rfl ?_
  exact g_sub [1, 2, 0] rfl (kX4_rank_l7 C h_a  _ _ _ h)
theorem mX4_rank (l : Launch) (Z : Sh) {σ : Sg} {a : Nat} {u : Sg} (h_a : IsR a) (h : fX4_rank σ a = some u) : MV l Z layX yX4_rank wsX4_rank rX4_rank [.ref (ad Z 40), .ref (ad Z a)] σ u :=
  MV.of (cc := cX4_rank) (maxL := 3) (ret := none) (by decide) rfl (Nat.le_of_ble_eq_true rfl) (fun p e s m below meth c C => kX4_rank_e C h_a h)

def rX4_first : Room := { frames := 0, cells := 0, slots := 0, locals := 0 }
theorem uX4_first_X4 : ∀ w ∈ wsX40, w ∈ wsX4_first := by decide +kernel
def fX4_first_l4 (σ : Sg) (v1 : Int32)  : Nat → Int32 → Int32 → Option (Int32)
  | 0, _, _ => none
  | n + 1, v2, v3 => if v1 ≤ v3 then some v2 else if (σ 40 1) ≤ v3 then some v2 else (rd (σ 41) 6 v3).bind fun t1 => fX4_first_l4 σ v1 n (v2 ||| ((1 : Int32) <<< (t1 &&& 31))) (v3 + 1)
def fX4_first (σ : Sg) (v1 : Int32) : Option (Int32) := fX4_first_l4 σ v1 2000 (0 : Int32) (0 : Int32)
set_option maxHeartbeats 1000000 in
set_option maxRecDepth 20000 in
theorem kX4_first_l4 {p : Program} {l : Launch} {e : Env} {s : State} {m : MethodId} {args : Array Value} {below : List Frame} {meth : Method} {c : Code} {Z : Sh} (C : Cx p s m args meth c cX4_first 4 wsX4_first RX4 (some .int) Z layX) {σ : Sg} {v1 : Int32} {u : Int32}   : ∀ (n : Nat) (v2 : Int32) (v3 : Int32), fX4_first_l4 σ v1 n v2 v3 = some u → G p l e rX4_first s m args below meth c 4 Z layX (MQ below (QI Z layX σ u s.heap.size) args s 0 0 (pA Z layX s.heap.size)) σ 4 [(0, .ref (ad Z 40)), (1, .int v1), (2, .int v2), (3, .int v3)] [] := by
  intro n
  induction n with
  | zero => intro v2 v3 h; exact absurd h (by simp [fX4_first_l4])
  | succ n ih =>
    intro v2 v3 h
    rw [fX4_first_l4] at h
    refine g_iload_n (pc := 4) C dX4_first_4 rfl 3 rfl ?_
    refine g_iload_n (pc := 5) C dX4_first_5 rfl 1 rfl ?_
    refine g_icmp_ge (pc := 6) C (tgt := 34) dX4_first_6 (by decide) h (fun hc6 h => ?_) (fun hc6 h => ?_)
    · refine g_iload_n (pc := 34) C dX4_first_34 rfl 2 rfl ?_
      exact g_iret C dX4_first_35 rfl (Option.some.inj h)
    · refine g_iload_n (pc := 9) C dX4_first_9 rfl 3 rfl ?_
      refine g_aload_n (pc := 10) C dX4_first_10 rfl 0 rfl ?_
      refine g_geti (pc := 11) C (Cn := RX4) (T := TX4) (N := 2) (ci := 4) (k := 40) (j := 1) uX4_first_X4 (by rfl) rfl (by decide) (by decide +kernel) (q := 0) rfl dX4_first_11 ?_
      refine g_icmp_ge (pc := 14) C (tgt := 34) dX4_first_14 (by decide) h (fun hc14 h => ?_) (fun hc14 h => ?_)
      · refine g_iload_n (pc := 34) C dX4_first_34 rfl 2 rfl ?_
        exact g_iret C dX4_first_35 rfl (Option.some.inj h)
      · refine g_iload_n (pc := 17) C dX4_first_17 rfl 2 rfl ?_
        refine g_iconst (pc := 18) C (v := (1 : Int32)) dX4_first_18 (by decide) ?_
        refine g_aload_n (pc := 19) C dX4_first_19 rfl 0 rfl ?_
        refine g_getr (pc := 20) C (Cn := RX4) (T := TX4) (N := 2) (ci := 4) (k := 40) (j := 0) uX4_first_X4 (by rfl) rfl (by decide) (by decide +kernel) (q := 41) rfl dX4_first_20 ?_
        refine g_iload_n (pc := 23) C dX4_first_23 rfl 3 rfl ?_
        obtain ⟨t1, et1, h⟩ := bs h
        refine g_iald (pc := 24) C (k := 41) (n := 6) (by rfl) et1 dX4_first_24 ?_
        refine g_ishl (pc := 25) C dX4_first_25 ?_
        refine g_ior (pc := 26) C dX4_first_26 ?_
        refine g_istore_n (pc := 27) C (lv2 := [(2, .int (v2 ||| ((1 : Int32) <<< (t1 &&& 31)))), (0, .ref (ad Z 40)), (1, .int v1), (3, .int v3)]) dX4_first_27 rfl (by decide) rfl ?_
        refine g_iinc (pc := 28) C (j := 3) (v := (v3 + 1)) (lv2 := [(3, .int (v3 + 1)), (2, .int (v2 ||| ((1 : Int32) <<< (t1 &&& 31)))), (0, .ref (ad Z 40)), (1, .int v1)]) dX4_first_28 rfl rfl (by decide) rfl ?_
        refine g_goto (pc := 31) C (tgt := 4) dX4_first_31 (by decide) ?_
        exact g_sub [2, 3, 1, 0] rfl (ih _ _ h)
set_option maxHeartbeats 1000000 in
set_option maxRecDepth 20000 in
theorem kX4_first_e {p : Program} {l : Launch} {e : Env} {s : State} {m : MethodId} {args : Array Value} {below : List Frame} {meth : Method} {c : Code} {Z : Sh} (C : Cx p s m args meth c cX4_first 4 wsX4_first RX4 (some .int) Z layX) {σ : Sg} {v1 : Int32} {u : Int32}  (h : fX4_first σ v1 = some u) : G p l e rX4_first s m args below meth c 4 Z layX (MQ below (QI Z layX σ u s.heap.size) args s 0 0 (pA Z layX s.heap.size)) σ 0 [(0, .ref (ad Z 40)), (1, .int v1)] [] := by
  unfold fX4_first at h
  refine g_iconst (pc := 0) C (v := (0 : Int32)) dX4_first_0 (by decide) ?_
  refine g_istore_n (pc := 1) C (lv2 := [(2, .int (0 : Int32)), (0, .ref (ad Z 40)), (1, .int v1)]) dX4_first_1 rfl (by decide) rfl ?_
  refine g_iconst (pc := 2) C (v := (0 : Int32)) dX4_first_2 (by decide) ?_
  refine g_istore_n (pc := 3) C (lv2 := [(3, .int (0 : Int32)), (2, .int (0 : Int32)), (0, .ref (ad Z 40)), (1, .int v1)]) dX4_first_3 rfl (by decide) rfl ?_
  exact g_sub [2, 3, 1, 0] rfl (kX4_first_l4 C   _ _ _ h)
theorem mX4_first (l : Launch) (Z : Sh) {σ : Sg} {v1 : Int32} {u : Int32}  (h : fX4_first σ v1 = some u) : MI l Z layX yX4_first wsX4_first rX4_first [.ref (ad Z 40), .int v1] σ σ u :=
  MI.of (cc := cX4_first) (maxL := 4) (ret := (some .int)) (by decide) rfl (Nat.le_of_ble_eq_true rfl) (fun p e s m below meth c C => kX4_first_e C  h)

def rX5_add : Room := { frames := 0, cells := 0, slots := 0, locals := 0 }
theorem uX5_add_X5 : ∀ w ∈ wsX50, w ∈ wsX5_add := by decide +kernel
def fX5_add (σ : Sg) (v1 : Int32) : Option (Sg × Int32) := if (σ 32 1) < (160 : Int32) then (wr σ 33 160 (σ 32 1) (vp_nar .char ((v1.toUInt32 % 65536).toInt32))).bind fun σ1 => (pf σ1 32 1 ((σ1 32 1) + (1 : Int32))).bind fun σ2 => some (σ2, (1 : Int32)) else some (σ, (0 : Int32))
set_option maxHeartbeats 1000000 in
set_option maxRecDepth 20000 in
theorem kX5_add_e {p : Program} {l : Launch} {e : Env} {s : State} {m : MethodId} {args : Array Value} {below : List Frame} {meth : Method} {c : Code} {Z : Sh} (C : Cx p s m args meth c cX5_add 2 wsX5_add RX5 (some .boolean) Z layX) {σ : Sg} {v1 : Int32} {u : Sg × Int32}  (h : fX5_add σ v1 = some u) : G p l e rX5_add s m args below meth c 2 Z layX (MQ below (QI Z layX u.1 u.2 s.heap.size) args s 0 0 (pA Z layX s.heap.size)) σ 0 [(0, .ref (ad Z 32)), (1, .int v1)] [] := by
  unfold fX5_add at h
  refine g_aload_n (pc := 0) C dX5_add_0 rfl 0 rfl ?_
  refine g_geti (pc := 1) C (Cn := RX5) (T := TX5) (N := 2) (ci := 5) (k := 32) (j := 1) uX5_add_X5 (by rfl) rfl (by decide) (by decide +kernel) (q := 0) rfl dX5_add_1 ?_
  refine g_sipush (pc := 4) C (v := (160 : Int32)) dX5_add_4 (by decide) ?_
  refine g_icmp_lt (pc := 7) C (tgt := 12) dX5_add_7 (by decide) h (fun hc7 h => ?_) (fun hc7 h => ?_)
  · refine g_aload_n (pc := 12) C dX5_add_12 rfl 0 rfl ?_
    refine g_getr (pc := 13) C (Cn := RX5) (T := TX5) (N := 2) (ci := 5) (k := 32) (j := 0) uX5_add_X5 (by rfl) rfl (by decide) (by decide +kernel) (q := 33) rfl dX5_add_13 ?_
    refine g_aload_n (pc := 16) C dX5_add_16 rfl 0 rfl ?_
    refine g_geti (pc := 17) C (Cn := RX5) (T := TX5) (N := 2) (ci := 5) (k := 32) (j := 1) uX5_add_X5 (by rfl) rfl (by decide) (by decide +kernel) (q := 0) rfl dX5_add_17 ?_
    refine g_iload_n (pc := 20) C dX5_add_20 rfl 1 rfl ?_
    refine g_i2c (pc := 21) C dX5_add_21 ?_
    obtain ⟨σ1, eσ1, h⟩ := bs h
    refine g_cast (pc := 22) C (k := 33) (n := 160) (by rfl) eσ1 dX5_add_22 ?_
    refine g_aload_n (pc := 23) C dX5_add_23 rfl 0 rfl ?_
    refine g_dup (pc := 24) C rfl dX5_add_24 ?_
    refine g_geti (pc := 25) C (Cn := RX5) (T := TX5) (N := 2) (ci := 5) (k := 32) (j := 1) uX5_add_X5 (by rfl) rfl (by decide) (by decide +kernel) (q := 0) rfl dX5_add_25 ?_
    refine g_iconst (pc := 28) C (v := (1 : Int32)) dX5_add_28 (by decide) ?_
    refine g_iadd (pc := 29) C dX5_add_29 ?_
    obtain ⟨σ2, eσ2, h⟩ := bs h
    refine g_puti (pc := 30) C (Cn := RX5) (T := TX5) (N := 2) (ci := 5) (k := 32) (j := 1) uX5_add_X5 (by rfl) rfl (by decide) (by decide +kernel) tyX5 tyX5_ok nmX5 rfl (by decide +kernel) rfl eσ2 dX5_add_30 ?_
    refine g_iconst (pc := 33) C (v := (1 : Int32)) dX5_add_33 (by decide) ?_
    exact g_zret C dX5_add_34 (pfst h) (rz1.trans (congrArg some (psnd h)))
  · refine g_iconst (pc := 10) C (v := (0 : Int32)) dX5_add_10 (by decide) ?_
    exact g_zret C dX5_add_11 (pfst h) (rz0.trans (congrArg some (psnd h)))
theorem mX5_add (l : Launch) (Z : Sh) {σ : Sg} {v1 : Int32} {u : Sg × Int32}  (h : fX5_add σ v1 = some u) : MI l Z layX yX5_add wsX5_add rX5_add [.ref (ad Z 32), .int v1] σ u.1 u.2 :=
  MI.of (cc := cX5_add) (maxL := 2) (ret := (some .boolean)) (by decide) rfl (Nat.le_of_ble_eq_true rfl) (fun p e s m below meth c C => kX5_add_e C  h)

def rX6_add : Room := { frames := 0, cells := 0, slots := 0, locals := 0 }
theorem uX6_add_X6 : ∀ w ∈ wsX60, w ∈ wsX6_add := by decide +kernel
def fX6_add (σ : Sg) (v1 : Int32) (v2 : Int32) : Option (Sg × Int32) := if (σ 37 2) < (6 : Int32) then (wr σ 38 6 (σ 37 2) v1).bind fun σ1 => (wr σ1 39 6 (σ1 37 2) (vp_nar .boolean v2)).bind fun σ2 => (pf σ2 37 2 ((σ2 37 2) + (1 : Int32))).bind fun σ3 => some (σ3, (1 : Int32)) else some (σ, (0 : Int32))
set_option maxHeartbeats 1000000 in
set_option maxRecDepth 20000 in
theorem kX6_add_e {p : Program} {l : Launch} {e : Env} {s : State} {m : MethodId} {args : Array Value} {below : List Frame} {meth : Method} {c : Code} {Z : Sh} (C : Cx p s m args meth c cX6_add 3 wsX6_add RX6 (some .boolean) Z layX) {σ : Sg} {v1 : Int32} {v2 : Int32} {u : Sg × Int32}  (h : fX6_add σ v1 v2 = some u) : G p l e rX6_add s m args below meth c 3 Z layX (MQ below (QI Z layX u.1 u.2 s.heap.size) args s 0 0 (pA Z layX s.heap.size)) σ 0 [(0, .ref (ad Z 37)), (1, .int v1), (2, .int v2)] [] := by
  unfold fX6_add at h
  refine g_aload_n (pc := 0) C dX6_add_0 rfl 0 rfl ?_
  refine g_geti (pc := 1) C (Cn := RX6) (T := TX6) (N := 3) (ci := 6) (k := 37) (j := 2) uX6_add_X6 (by rfl) rfl (by decide) (by decide +kernel) (q := 0) rfl dX6_add_1 ?_
  refine g_bipush (pc := 4) C (v := (6 : Int32)) dX6_add_4 (by decide) ?_
  refine g_icmp_lt (pc := 6) C (tgt := 11) dX6_add_6 (by decide) h (fun hc6 h => ?_) (fun hc6 h => ?_)
  · refine g_aload_n (pc := 11) C dX6_add_11 rfl 0 rfl ?_
    refine g_getr (pc := 12) C (Cn := RX6) (T := TX6) (N := 3) (ci := 6) (k := 37) (j := 0) uX6_add_X6 (by rfl) rfl (by decide) (by decide +kernel) (q := 38) rfl dX6_add_12 ?_
    refine g_aload_n (pc := 15) C dX6_add_15 rfl 0 rfl ?_
    refine g_geti (pc := 16) C (Cn := RX6) (T := TX6) (N := 3) (ci := 6) (k := 37) (j := 2) uX6_add_X6 (by rfl) rfl (by decide) (by decide +kernel) (q := 0) rfl dX6_add_16 ?_
    refine g_iload_n (pc := 19) C dX6_add_19 rfl 1 rfl ?_
    obtain ⟨σ1, eσ1, h⟩ := bs h
    refine g_iast (pc := 20) C (k := 38) (n := 6) (by rfl) eσ1 dX6_add_20 ?_
    refine g_aload_n (pc := 21) C dX6_add_21 rfl 0 rfl ?_
    refine g_getr (pc := 22) C (Cn := RX6) (T := TX6) (N := 3) (ci := 6) (k := 37) (j := 1) uX6_add_X6 (by rfl) rfl (by decide) (by decide +kernel) (q := 39) rfl dX6_add_22 ?_
    refine g_aload_n (pc := 25) C dX6_add_25 rfl 0 rfl ?_
    refine g_geti (pc := 26) C (Cn := RX6) (T := TX6) (N := 3) (ci := 6) (k := 37) (j := 2) uX6_add_X6 (by rfl) rfl (by decide) (by decide +kernel) (q := 0) rfl dX6_add_26 ?_
    refine g_iload_n (pc := 29) C dX6_add_29 rfl 2 rfl ?_
    obtain ⟨σ2, eσ2, h⟩ := bs h
    refine g_zast (pc := 30) C (k := 39) (n := 6) (by rfl) eσ2 dX6_add_30 ?_
    refine g_aload_n (pc := 31) C dX6_add_31 rfl 0 rfl ?_
    refine g_dup (pc := 32) C rfl dX6_add_32 ?_
    refine g_geti (pc := 33) C (Cn := RX6) (T := TX6) (N := 3) (ci := 6) (k := 37) (j := 2) uX6_add_X6 (by rfl) rfl (by decide) (by decide +kernel) (q := 0) rfl dX6_add_33 ?_
    refine g_iconst (pc := 36) C (v := (1 : Int32)) dX6_add_36 (by decide) ?_
    refine g_iadd (pc := 37) C dX6_add_37 ?_
    obtain ⟨σ3, eσ3, h⟩ := bs h
    refine g_puti (pc := 38) C (Cn := RX6) (T := TX6) (N := 3) (ci := 6) (k := 37) (j := 2) uX6_add_X6 (by rfl) rfl (by decide) (by decide +kernel) tyX6 tyX6_ok nmX6 rfl (by decide +kernel) rfl eσ3 dX6_add_38 ?_
    refine g_iconst (pc := 41) C (v := (1 : Int32)) dX6_add_41 (by decide) ?_
    exact g_zret C dX6_add_42 (pfst h) (rz1.trans (congrArg some (psnd h)))
  · refine g_iconst (pc := 9) C (v := (0 : Int32)) dX6_add_9 (by decide) ?_
    exact g_zret C dX6_add_10 (pfst h) (rz0.trans (congrArg some (psnd h)))
theorem mX6_add (l : Launch) (Z : Sh) {σ : Sg} {v1 : Int32} {v2 : Int32} {u : Sg × Int32}  (h : fX6_add σ v1 v2 = some u) : MI l Z layX yX6_add wsX6_add rX6_add [.ref (ad Z 37), .int v1, .int v2] σ u.1 u.2 :=
  MI.of (cc := cX6_add) (maxL := 3) (ret := (some .boolean)) (by decide) rfl (Nat.le_of_ble_eq_true rfl) (fun p e s m below meth c C => kX6_add_e C  h)

def rX6_fits : Room := { frames := 3, cells := 0, slots := 0, locals := 65 }
theorem uX6_fits_X6 : ∀ w ∈ wsX60, w ∈ wsX6_fits := by decide +kernel
def fX6_fits_l2 (σ : Sg) (a : Nat)  : Nat → Int32 → Option (Int32)
  | 0, _ => none
  | n + 1, v2 => if (σ 37 2) ≤ v2 then some (1 : Int32) else (rd (σ 38) 6 v2).bind fun t1 => (fX2_carries σ a t1).bind fun t2 => (rd (σ 39) 6 v2).bind fun t3 => if t2 = t3 then fX6_fits_l2 σ a n (v2 + 1) else some (0 : Int32)
def fX6_fits (σ : Sg) (a : Nat) : Option (Int32) := fX6_fits_l2 σ a 2000 (0 : Int32)
set_option maxHeartbeats 1000000 in
set_option maxRecDepth 20000 in
theorem kX6_fits_l2 {p : Program} {l : Launch} {e : Env} {s : State} {m : MethodId} {args : Array Value} {below : List Frame} {meth : Method} {c : Code} {Z : Sh} (C : Cx p s m args meth c cX6_fits 3 wsX6_fits RX6 (some .boolean) Z layX) {σ : Sg} {a : Nat} {u : Int32} (h_a : IsR a)  : ∀ (n : Nat) (v2 : Int32), fX6_fits_l2 σ a n v2 = some u → G p l e rX6_fits s m args below meth c 3 Z layX (MQ below (QI Z layX σ u s.heap.size) args s 0 0 (pA Z layX s.heap.size)) σ 2 [(0, .ref (ad Z 37)), (1, .ref (ad Z a)), (2, .int v2)] [] := by
  intro n
  induction n with
  | zero => intro v2 h; exact absurd h (by simp [fX6_fits_l2])
  | succ n ih =>
    intro v2 h
    rw [fX6_fits_l2] at h
    refine g_iload_n (pc := 2) C dX6_fits_2 rfl 2 rfl ?_
    refine g_aload_n (pc := 3) C dX6_fits_3 rfl 0 rfl ?_
    refine g_geti (pc := 4) C (Cn := RX6) (T := TX6) (N := 3) (ci := 6) (k := 37) (j := 2) uX6_fits_X6 (by rfl) rfl (by decide) (by decide +kernel) (q := 0) rfl dX6_fits_4 ?_
    refine g_icmp_ge (pc := 7) C (tgt := 37) dX6_fits_7 (by decide) h (fun hc7 h => ?_) (fun hc7 h => ?_)
    · refine g_iconst (pc := 37) C (v := (1 : Int32)) dX6_fits_37 (by decide) ?_
      exact g_zret C dX6_fits_38 rfl (rz1.trans h)
    · refine g_aload_n (pc := 10) C dX6_fits_10 rfl 1 rfl ?_
      refine g_aload_n (pc := 11) C dX6_fits_11 rfl 0 rfl ?_
      refine g_getr (pc := 12) C (Cn := RX6) (T := TX6) (N := 3) (ci := 6) (k := 37) (j := 0) uX6_fits_X6 (by rfl) rfl (by decide) (by decide +kernel) (q := 38) rfl dX6_fits_12 ?_
      refine g_iload_n (pc := 15) C dX6_fits_15 rfl 2 rfl ?_
      obtain ⟨t1, et1, h⟩ := bs h
      refine g_iald (pc := 16) C (k := 38) (n := 6) (by rfl) et1 dX6_fits_16 ?_
      obtain ⟨t2, et2, h⟩ := bs h
      refine g_callVi (pc := 17) C (As := [.int t1]) (rest := []) (k := a) h_a.1 (by rfl) (cwV 1 C.2.2.2.2.2.1 gX6_fits_X2_carries rfl rfl rfl (by decide +kernel) ⟨Nat.le_of_ble_eq_true rfl, Nat.le_of_ble_eq_true rfl⟩) (mX2_carries l Z h_a et2) rfl rfl (Nat.le_of_ble_eq_true rfl) dX6_fits_17 ?_
      refine g_aload_n (pc := 20) C dX6_fits_20 rfl 0 rfl ?_
      refine g_getr (pc := 21) C (Cn := RX6) (T := TX6) (N := 3) (ci := 6) (k := 37) (j := 1) uX6_fits_X6 (by rfl) rfl (by decide) (by decide +kernel) (q := 39) rfl dX6_fits_21 ?_
      refine g_iload_n (pc := 24) C dX6_fits_24 rfl 2 rfl ?_
      obtain ⟨t3, et3, h⟩ := bs h
      refine g_zald (pc := 25) C (k := 39) (n := 6) (by rfl) et3 dX6_fits_25 ?_
      refine g_icmp_eq (pc := 26) C (tgt := 31) dX6_fits_26 (by decide) h (fun hc26 h => ?_) (fun hc26 h => ?_)
      · refine g_iinc (pc := 31) C (j := 2) (v := (v2 + 1)) (lv2 := [(2, .int (v2 + 1)), (0, .ref (ad Z 37)), (1, .ref (ad Z a))]) dX6_fits_31 rfl rfl (by decide) rfl ?_
        refine g_goto (pc := 34) C (tgt := 2) dX6_fits_34 (by decide) ?_
        exact g_sub [1, 2, 0] rfl (ih _ h)
      · refine g_iconst (pc := 29) C (v := (0 : Int32)) dX6_fits_29 (by decide) ?_
        exact g_zret C dX6_fits_30 rfl (rz0.trans h)
set_option maxHeartbeats 1000000 in
set_option maxRecDepth 20000 in
theorem kX6_fits_e {p : Program} {l : Launch} {e : Env} {s : State} {m : MethodId} {args : Array Value} {below : List Frame} {meth : Method} {c : Code} {Z : Sh} (C : Cx p s m args meth c cX6_fits 3 wsX6_fits RX6 (some .boolean) Z layX) {σ : Sg} {a : Nat} {u : Int32} (h_a : IsR a) (h : fX6_fits σ a = some u) : G p l e rX6_fits s m args below meth c 3 Z layX (MQ below (QI Z layX σ u s.heap.size) args s 0 0 (pA Z layX s.heap.size)) σ 0 [(0, .ref (ad Z 37)), (1, .ref (ad Z a))] [] := by
  unfold fX6_fits at h
  refine g_iconst (pc := 0) C (v := (0 : Int32)) dX6_fits_0 (by decide) ?_
  refine g_istore_n (pc := 1) C (lv2 := [(2, .int (0 : Int32)), (0, .ref (ad Z 37)), (1, .ref (ad Z a))]) dX6_fits_1 rfl (by decide) rfl ?_
  exact g_sub [1, 2, 0] rfl (kX6_fits_l2 C h_a  _ _ h)
theorem mX6_fits (l : Launch) (Z : Sh) {σ : Sg} {a : Nat} {u : Int32} (h_a : IsR a) (h : fX6_fits σ a = some u) : MI l Z layX yX6_fits wsX6_fits rX6_fits [.ref (ad Z 37), .ref (ad Z a)] σ σ u :=
  MI.of (cc := cX6_fits) (maxL := 3) (ret := (some .boolean)) (by decide) rfl (Nat.le_of_ble_eq_true rfl) (fun p e s m below meth c C => kX6_fits_e C h_a h)
