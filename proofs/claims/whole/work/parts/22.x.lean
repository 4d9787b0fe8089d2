def rX1_tellBorough : Room := { frames := 4, cells := 0, slots := 0, locals := 87 }
theorem uX1_tellBorough_X1 : ∀ w ∈ wsX10, w ∈ wsX1_tellBorough := by decide +kernel
theorem uX1_tellBorough_X2 : ∀ w ∈ wsX20, w ∈ wsX1_tellBorough := by decide +kernel
def fX1_tellBorough_b59 (v1 : Int32)  (σ : Sg) (v2 : Int32) (v3 : Int32) (s0 : Int32) : Option (Sg) := (fX1_stop σ).bind fun σ1 => (fX2_addBorough σ1 25 v1 v2 v3 s0).bind fun σ2 => some σ2
def fX1_tellBorough_b21 (v1 : Int32)  (σ : Sg) : Option (Sg) := (fX1_advance σ).bind fun σ1 => (fX1_number σ1 (1 : Int32) (9 : Int32)).bind fun u2 => (fX1_number u2.1 (0 : Int32) (3 : Int32)).bind fun u3 => if (u3.1 31 6) = (2 : Int32) then (fX1_number u3.1 (0 : Int32) (3 : Int32)).bind fun u4 => fX1_tellBorough_b59 v1 u4.1 u2.2 u3.2 u4.2 else fX1_tellBorough_b59 v1 u3.1 u2.2 u3.2 (-4 : Int32)
def fX1_tellBorough (σ : Sg) (v1 : Int32) : Option (Sg) := if (σ 25 1) < (6 : Int32) then fX1_tellBorough_b21 v1 σ else (fX1_refuse σ (5 : Int32) (σ 31 4)).bind fun σ1 => fX1_tellBorough_b21 v1 σ1
set_option maxHeartbeats 1000000 in
set_option maxRecDepth 20000 in
theorem kX1_tellBorough_b59 {p : Program} {l : Launch} {e : Env} {s : State} {m : MethodId} {args : Array Value} {below : List Frame} {meth : Method} {c : Code} {Z : Sh} (C : Cx p s m args meth c cX1_tellBorough 5 wsX1_tellBorough RX1 none Z layX) {v1 : Int32} {u : Sg}   {σ : Sg} {v2 : Int32} {v3 : Int32} {s0 : Int32} (h : fX1_tellBorough_b59 v1 σ v2 v3 s0 = some u) : G p l e rX1_tellBorough s m args below meth c 5 Z layX (MQ below (QV Z layX u s.heap.size) args s 0 0 (pA Z layX s.heap.size)) σ 59 [(0, .ref (ad Z 31)), (1, .int v1), (2, .int v2), (3, .int v3)] [.int s0] := by
  unfold fX1_tellBorough_b59 at h
  refine g_istore (pc := 59) C (lv2 := [(4, .int s0), (0, .ref (ad Z 31)), (1, .int v1), (2, .int v2), (3, .int v3)]) dX1_tellBorough_59 (by decide) rfl ?_
  refine g_aload_n (pc := 61) C dX1_tellBorough_61 rfl 1 rfl ?_
  obtain ⟨σ1, eσ1, h⟩ := bs h
  refine g_callVv (pc := 62) C (As := []) (rest := []) (k := 31) (by rfl) (by rfl) (cwV 0 C.2.2.2.2.2.1 gX1_tellBorough_X1_stop rfl rfl rfl (by decide +kernel) ⟨Nat.le_of_ble_eq_true rfl, Nat.le_of_ble_eq_true rfl⟩) (mX1_stop l Z  eσ1) rfl rfl (Nat.le_of_ble_eq_true rfl) dX1_tellBorough_62 ?_
  refine g_aload_n (pc := 65) C dX1_tellBorough_65 rfl 1 rfl ?_
  refine g_getr (pc := 66) C (Cn := RX1) (T := TX1) (N := 9) (ci := 1) (k := 31) (j := 1) uX1_tellBorough_X1 (by rfl) rfl (by decide) (by decide +kernel) (q := 25) rfl dX1_tellBorough_66 ?_
  refine g_iload_n (pc := 69) C dX1_tellBorough_69 rfl 2 rfl ?_
  refine g_iload_n (pc := 70) C dX1_tellBorough_70 rfl 3 rfl ?_
  refine g_iload_n (pc := 71) C dX1_tellBorough_71 rfl 4 rfl ?_
  refine g_iload (pc := 72) C dX1_tellBorough_72 0 rfl ?_
  obtain ⟨σ2, eσ2, h⟩ := bs h
  refine g_callVv (pc := 74) C (As := [.int v1, .int v2, .int v3, .int s0]) (rest := []) (k := 25) (by rfl) (by rfl) (cwV 4 C.2.2.2.2.2.1 gX1_tellBorough_X2_addBorough rfl rfl rfl (by decide +kernel) ⟨Nat.le_of_ble_eq_true rfl, Nat.le_of_ble_eq_true rfl⟩) (mX2_addBorough l Z isR25 eσ2) rfl rfl (Nat.le_of_ble_eq_true rfl) dX1_tellBorough_74 ?_
  exact g_vret C dX1_tellBorough_77 (Option.some.inj h)
set_option maxHeartbeats 1000000 in
set_option maxRecDepth 20000 in
theorem kX1_tellBorough_b21 {p : Program} {l : Launch} {e : Env} {s : State} {m : MethodId} {args : Array Value} {below : List Frame} {meth : Method} {c : Code} {Z : Sh} (C : Cx p s m args meth c cX1_tellBorough 5 wsX1_tellBorough RX1 none Z layX) {v1 : Int32} {u : Sg}   {σ : Sg} (h : fX1_tellBorough_b21 v1 σ = some u) : G p l e rX1_tellBorough s m args below meth c 5 Z layX (MQ below (QV Z layX u s.heap.size) args s 0 0 (pA Z layX s.heap.size)) σ 21 [(0, .ref (ad Z 31)), (1, .int v1)] [] := by
  unfold fX1_tellBorough_b21 at h
  refine g_aload_n (pc := 21) C dX1_tellBorough_21 rfl 0 rfl ?_
  obtain ⟨σ1, eσ1, h⟩ := bs h
  refine g_callVv (pc := 22) C (As := []) (rest := []) (k := 31) (by rfl) (by rfl) (cwV 0 C.2.2.2.2.2.1 gX1_tellBorough_X1_advance rfl rfl rfl (by decide +kernel) ⟨Nat.le_of_ble_eq_true rfl, Nat.le_of_ble_eq_true rfl⟩) (mX1_advance l Z  eσ1) rfl rfl (Nat.le_of_ble_eq_true rfl) dX1_tellBorough_22 ?_
  refine g_aload_n (pc := 25) C dX1_tellBorough_25 rfl 0 rfl ?_
  refine g_iconst (pc := 26) C (v := (1 : Int32)) dX1_tellBorough_26 (by decide) ?_
  refine g_bipush (pc := 27) C (v := (9 : Int32)) dX1_tellBorough_27 (by decide) ?_
  obtain ⟨u2, eu2, h⟩ := bs h
  refine g_callVi (pc := 29) C (As := [.int (1 : Int32), .int (9 : Int32)]) (rest := []) (k := 31) (by rfl) (by rfl) (cwV 2 C.2.2.2.2.2.1 gX1_tellBorough_X1_number rfl rfl rfl (by decide +kernel) ⟨Nat.le_of_ble_eq_true rfl, Nat.le_of_ble_eq_true rfl⟩) (mX1_number l Z  eu2) rfl rfl (Nat.le_of_ble_eq_true rfl) dX1_tellBorough_29 ?_
  refine g_istore_n (pc := 32) C (lv2 := [(2, .int u2.2), (0, .ref (ad Z 31)), (1, .int v1)]) dX1_tellBorough_32 rfl (by decide) rfl ?_
  refine g_aload_n (pc := 33) C dX1_tellBorough_33 rfl 1 rfl ?_
  refine g_iconst (pc := 34) C (v := (0 : Int32)) dX1_tellBorough_34 (by decide) ?_
  refine g_iconst (pc := 35) C (v := (3 : Int32)) dX1_tellBorough_35 (by decide) ?_
  obtain ⟨u3, eu3, h⟩ := bs h
  refine g_callVi (pc := 36) C (As := [.int (0 : Int32), .int (3 : Int32)]) (rest := []) (k := 31) (by rfl) (by rfl) (cwV 2 C.2.2.2.2.2.1 gX1_tellBorough_X1_number rfl rfl rfl (by decide +kernel) ⟨Nat.le_of_ble_eq_true rfl, Nat.le_of_ble_eq_true rfl⟩) (mX1_number l Z  eu3) rfl rfl (Nat.le_of_ble_eq_true rfl) dX1_tellBorough_36 ?_
  refine g_istore_n (pc := 39) C (lv2 := [(3, .int u3.2), (2, .int u2.2), (0, .ref (ad Z 31)), (1, .int v1)]) dX1_tellBorough_39 rfl (by decide) rfl ?_
  refine g_aload_n (pc := 40) C dX1_tellBorough_40 rfl 2 rfl ?_
  refine g_geti (pc := 41) C (Cn := RX1) (T := TX1) (N := 9) (ci := 1) (k := 31) (j := 6) uX1_tellBorough_X1 (by rfl) rfl (by decide) (by decide +kernel) (q := 0) rfl dX1_tellBorough_41 ?_
  refine g_iconst (pc := 44) C (v := (2 : Int32)) dX1_tellBorough_44 (by decide) ?_
  refine g_icmp_ne (pc := 45) C (tgt := 57) dX1_tellBorough_45 (by decide) h (fun hc45 h => ?_) (fun hc45 h => ?_)
  · refine g_bipush (pc := 57) C (v := (-4 : Int32)) dX1_tellBorough_57 (by decide) ?_
    exact g_sub [2, 3, 1, 0] rfl (kX1_tellBorough_b59 C    h)
  · refine g_aload_n (pc := 48) C dX1_tellBorough_48 rfl 2 rfl ?_
    refine g_iconst (pc := 49) C (v := (0 : Int32)) dX1_tellBorough_49 (by decide) ?_
    refine g_iconst (pc := 50) C (v := (3 : Int32)) dX1_tellBorough_50 (by decide) ?_
    obtain ⟨u4, eu4, h⟩ := bs h
    refine g_callVi (pc := 51) C (As := [.int (0 : Int32), .int (3 : Int32)]) (rest := []) (k := 31) (by rfl) (by rfl) (cwV 2 C.2.2.2.2.2.1 gX1_tellBorough_X1_number rfl rfl rfl (by decide +kernel) ⟨Nat.le_of_ble_eq_true rfl, Nat.le_of_ble_eq_true rfl⟩) (mX1_number l Z  eu4) rfl rfl (Nat.le_of_ble_eq_true rfl) dX1_tellBorough_51 ?_
    refine g_goto (pc := 54) C (tgt := 59) dX1_tellBorough_54 (by decide) ?_
    exact g_sub [2, 3, 1, 0] rfl (kX1_tellBorough_b59 C    h)
set_option maxHeartbeats 1000000 in
set_option maxRecDepth 20000 in
theorem kX1_tellBorough_e {p : Program} {l : Launch} {e : Env} {s : State} {m : MethodId} {args : Array Value} {below : List Frame} {meth : Method} {c : Code} {Z : Sh} (C : Cx p s m args meth c cX1_tellBorough 5 wsX1_tellBorough RX1 none Z layX) {σ : Sg} {v1 : Int32} {u : Sg}  (h : fX1_tellBorough σ v1 = some u) : G p l e rX1_tellBorough s m args below meth c 5 Z layX (MQ below (QV Z layX u s.heap.size) args s 0 0 (pA Z layX s.heap.size)) σ 0 [(0, .ref (ad Z 31)), (1, .int v1)] [] := by
  unfold fX1_tellBorough at h
  refine g_aload_n (pc := 0) C dX1_tellBorough_0 rfl 0 rfl ?_
  refine g_getr (pc := 1) C (Cn := RX1) (T := TX1) (N := 9) (ci := 1) (k := 31) (j := 1) uX1_tellBorough_X1 (by rfl) rfl (by decide) (by decide +kernel) (q := 25) rfl dX1_tellBorough_1 ?_
  refine g_getiN (pc := 4) C (host := "MoundVotes") (Cn := RX2) (T := TX2) (N := 8) (ci := 2) (k := 25) (j := 1) uX1_tellBorough_X2 (by rfl) rfl (by decide) (by decide +kernel) (q := 0) rfl dX1_tellBorough_4 ?_
  refine g_bipush (pc := 7) C (v := (6 : Int32)) dX1_tellBorough_7 (by decide) ?_
  refine g_icmp_lt (pc := 9) C (tgt := 21) dX1_tellBorough_9 (by decide) h (fun hc9 h => ?_) (fun hc9 h => ?_)
  · exact g_sub [0, 1] rfl (kX1_tellBorough_b21 C    h)
  · refine g_aload_n (pc := 12) C dX1_tellBorough_12 rfl 0 rfl ?_
    refine g_iconst (pc := 13) C (v := (5 : Int32)) dX1_tellBorough_13 (by decide) ?_
    refine g_aload_n (pc := 14) C dX1_tellBorough_14 rfl 0 rfl ?_
    refine g_geti (pc := 15) C (Cn := RX1) (T := TX1) (N := 9) (ci := 1) (k := 31) (j := 4) uX1_tellBorough_X1 (by rfl) rfl (by decide) (by decide +kernel) (q := 0) rfl dX1_tellBorough_15 ?_
    obtain ⟨σ1, eσ1, h⟩ := bs h
    refine g_callVv (pc := 18) C (As := [.int (5 : Int32), .int (σ 31 4)]) (rest := []) (k := 31) (by rfl) (by rfl) (cwV 2 C.2.2.2.2.2.1 gX1_tellBorough_X1_refuse rfl rfl rfl (by decide +kernel) ⟨Nat.le_of_ble_eq_true rfl, Nat.le_of_ble_eq_true rfl⟩) (mX1_refuse l Z  eσ1) rfl rfl (Nat.le_of_ble_eq_true rfl) dX1_tellBorough_18 ?_
    exact g_sub [0, 1] rfl (kX1_tellBorough_b21 C    h)
theorem mX1_tellBorough (l : Launch) (Z : Sh) {σ : Sg} {v1 : Int32} {u : Sg}  (h : fX1_tellBorough σ v1 = some u) : MV l Z layX yX1_tellBorough wsX1_tellBorough rX1_tellBorough [.ref (ad Z 31), .int v1] σ u :=
  MV.of (cc := cX1_tellBorough) (maxL := 5) (ret := none) (by decide) rfl (Nat.le_of_ble_eq_true rfl) (fun p e s m below meth c C => kX1_tellBorough_e C  h)

def rX1_checkOwners : Room := { frames := 1, cells := 0, slots := 0, locals := 22 }
theorem uX1_checkOwners_X1 : ∀ w ∈ wsX10, w ∈ wsX1_checkOwners := by decide +kernel
theorem uX1_checkOwners_X2 : ∀ w ∈ wsX20, w ∈ wsX1_checkOwners := by decide +kernel
theorem uX1_checkOwners_X5 : ∀ w ∈ wsX50, w ∈ wsX1_checkOwners := by decide +kernel
def fX1_checkOwners_l2   : Nat → Sg → Int32 → Option (Sg)
  | 0, _, _ => none
  | n + 1, σ, v1 => if (σ 25 1) ≤ v1 then some σ else (rd (σ 30) 6 v1).bind fun t1 => if t1 = (-4 : Int32) then fX1_checkOwners_l2 n σ (v1 + 1) else (rd (σ 30) 6 v1).bind fun t2 => if t2 < (σ 25 0) then fX1_checkOwners_l2 n σ (v1 + 1) else (fX1_refuse σ (6 : Int32) (σ 32 1)).bind fun σ3 => fX1_checkOwners_l2 n σ3 (v1 + 1)
def fX1_checkOwners (σ : Sg)  : Option (Sg) := fX1_checkOwners_l2 2000 σ (0 : Int32)
set_option maxHeartbeats 1000000 in
set_option maxRecDepth 20000 in
theorem kX1_checkOwners_l2 {p : Program} {l : Launch} {e : Env} {s : State} {m : MethodId} {args : Array Value} {below : List Frame} {meth : Method} {c : Code} {Z : Sh} (C : Cx p s m args meth c cX1_checkOwners 2 wsX1_checkOwners RX1 none Z layX)  {u : Sg}   : ∀ (n : Nat) (σ : Sg) (v1 : Int32), fX1_checkOwners_l2 n σ v1 = some u → G p l e rX1_checkOwners s m args below meth c 2 Z layX (MQ below (QV Z layX u s.heap.size) args s 0 0 (pA Z layX s.heap.size)) σ 2 [(0, .ref (ad Z 31)), (1, .int v1)] [] := by
  intro n
  induction n with
  | zero => intro σ v1 h; exact absurd h (by simp [fX1_checkOwners_l2])
  | succ n ih =>
    intro σ v1 h
    rw [fX1_checkOwners_l2] at h
    refine g_iload_n (pc := 2) C dX1_checkOwners_2 rfl 1 rfl ?_
    refine g_aload_n (pc := 3) C dX1_checkOwners_3 rfl 0 rfl ?_
    refine g_getr (pc := 4) C (Cn := RX1) (T := TX1) (N := 9) (ci := 1) (k := 31) (j := 1) uX1_checkOwners_X1 (by rfl) rfl (by decide) (by decide +kernel) (q := 25) rfl dX1_checkOwners_4 ?_
    refine g_getiN (pc := 7) C (host := "MoundVotes") (Cn := RX2) (T := TX2) (N := 8) (ci := 2) (k := 25) (j := 1) uX1_checkOwners_X2 (by rfl) rfl (by decide) (by decide +kernel) (q := 0) rfl dX1_checkOwners_7 ?_
    refine g_icmp_ge (pc := 10) C (tgt := 65) dX1_checkOwners_10 (by decide) h (fun hc10 h => ?_) (fun hc10 h => ?_)
    · exact g_vret C dX1_checkOwners_65 (Option.some.inj h)
    · refine g_aload_n (pc := 13) C dX1_checkOwners_13 rfl 0 rfl ?_
      refine g_getr (pc := 14) C (Cn := RX1) (T := TX1) (N := 9) (ci := 1) (k := 31) (j := 1) uX1_checkOwners_X1 (by rfl) rfl (by decide) (by decide +kernel) (q := 25) rfl dX1_checkOwners_14 ?_
      refine g_getrN (pc := 17) C (host := "MoundVotes") (Cn := RX2) (T := TX2) (N := 8) (ci := 2) (k := 25) (j := 7) uX1_checkOwners_X2 (by rfl) rfl (by decide) (by decide +kernel) (q := 30) rfl dX1_checkOwners_17 ?_
      refine g_iload_n (pc := 20) C dX1_checkOwners_20 rfl 1 rfl ?_
      obtain ⟨t1, et1, h⟩ := bs h
      refine g_iald (pc := 21) C (k := 30) (n := 6) (by rfl) et1 dX1_checkOwners_21 ?_
      refine g_bipush (pc := 22) C (v := (-4 : Int32)) dX1_checkOwners_22 (by decide) ?_
      refine g_icmp_eq (pc := 24) C (tgt := 59) dX1_checkOwners_24 (by decide) h (fun hc24 h => ?_) (fun hc24 h => ?_)
      · refine g_iinc (pc := 59) C (j := 1) (v := (v1 + 1)) (lv2 := [(1, .int (v1 + 1)), (0, .ref (ad Z 31))]) dX1_checkOwners_59 rfl rfl (by decide) rfl ?_
        refine g_goto (pc := 62) C (tgt := 2) dX1_checkOwners_62 (by decide) ?_
        exact g_sub [1, 0] rfl (ih _ _ h)
      · refine g_aload_n (pc := 27) C dX1_checkOwners_27 rfl 0 rfl ?_
        refine g_getr (pc := 28) C (Cn := RX1) (T := TX1) (N := 9) (ci := 1) (k := 31) (j := 1) uX1_checkOwners_X1 (by rfl) rfl (by decide) (by decide +kernel) (q := 25) rfl dX1_checkOwners_28 ?_
        refine g_getrN (pc := 31) C (host := "MoundVotes") (Cn := RX2) (T := TX2) (N := 8) (ci := 2) (k := 25) (j := 7) uX1_checkOwners_X2 (by rfl) rfl (by decide) (by decide +kernel) (q := 30) rfl dX1_checkOwners_31 ?_
        refine g_iload_n (pc := 34) C dX1_checkOwners_34 rfl 1 rfl ?_
        obtain ⟨t2, et2, h⟩ := bs h
        refine g_iald (pc := 35) C (k := 30) (n := 6) (by rfl) et2 dX1_checkOwners_35 ?_
        refine g_aload_n (pc := 36) C dX1_checkOwners_36 rfl 0 rfl ?_
        refine g_getr (pc := 37) C (Cn := RX1) (T := TX1) (N := 9) (ci := 1) (k := 31) (j := 1) uX1_checkOwners_X1 (by rfl) rfl (by decide) (by decide +kernel) (q := 25) rfl dX1_checkOwners_37 ?_
        refine g_getiN (pc := 40) C (host := "MoundVotes") (Cn := RX2) (T := TX2) (N := 8) (ci := 2) (k := 25) (j := 0) uX1_checkOwners_X2 (by rfl) rfl (by decide) (by decide +kernel) (q := 0) rfl dX1_checkOwners_40 ?_
        refine g_icmp_lt (pc := 43) C (tgt := 59) dX1_checkOwners_43 (by decide) h (fun hc43 h => ?_) (fun hc43 h => ?_)
        · refine g_iinc (pc := 59) C (j := 1) (v := (v1 + 1)) (lv2 := [(1, .int (v1 + 1)), (0, .ref (ad Z 31))]) dX1_checkOwners_59 rfl rfl (by decide) rfl ?_
          refine g_goto (pc := 62) C (tgt := 2) dX1_checkOwners_62 (by decide) ?_
          exact g_sub [1, 0] rfl (ih _ _ h)
        · refine g_aload_n (pc := 46) C dX1_checkOwners_46 rfl 0 rfl ?_
          refine g_bipush (pc := 47) C (v := (6 : Int32)) dX1_checkOwners_47 (by decide) ?_
          refine g_aload_n (pc := 49) C dX1_checkOwners_49 rfl 0 rfl ?_
          refine g_getr (pc := 50) C (Cn := RX1) (T := TX1) (N := 9) (ci := 1) (k := 31) (j := 0) uX1_checkOwners_X1 (by rfl) rfl (by decide) (by decide +kernel) (q := 32) rfl dX1_checkOwners_50 ?_
          refine g_getiN (pc := 53) C (host := "MoundVotes") (Cn := RX5) (T := TX5) (N := 2) (ci := 5) (k := 32) (j := 1) uX1_checkOwners_X5 (by rfl) rfl (by decide) (by decide +kernel) (q := 0) rfl dX1_checkOwners_53 ?_
          obtain ⟨σ3, eσ3, h⟩ := bs h
          refine g_callVv (pc := 56) C (As := [.int (6 : Int32), .int (σ 32 1)]) (rest := []) (k := 31) (by rfl) (by rfl) (cwV 2 C.2.2.2.2.2.1 gX1_checkOwners_X1_refuse rfl rfl rfl (by decide +kernel) ⟨Nat.le_of_ble_eq_true rfl, Nat.le_of_ble_eq_true rfl⟩) (mX1_refuse l Z  eσ3) rfl rfl (Nat.le_of_ble_eq_true rfl) dX1_checkOwners_56 ?_
          refine g_iinc (pc := 59) C (j := 1) (v := (v1 + 1)) (lv2 := [(1, .int (v1 + 1)), (0, .ref (ad Z 31))]) dX1_checkOwners_59 rfl rfl (by decide) rfl ?_
          refine g_goto (pc := 62) C (tgt := 2) dX1_checkOwners_62 (by decide) ?_
          exact g_sub [1, 0] rfl (ih _ _ h)
set_option maxHeartbeats 1000000 in
set_option maxRecDepth 20000 in
theorem kX1_checkOwners_e {p : Program} {l : Launch} {e : Env} {s : State} {m : MethodId} {args : Array Value} {below : List Frame} {meth : Method} {c : Code} {Z : Sh} (C : Cx p s m args meth c cX1_checkOwners 2 wsX1_checkOwners RX1 none Z layX) {σ : Sg}  {u : Sg}  (h : fX1_checkOwners σ = some u) : G p l e rX1_checkOwners s m args below meth c 2 Z layX (MQ below (QV Z layX u s.heap.size) args s 0 0 (pA Z layX s.heap.size)) σ 0 [(0, .ref (ad Z 31))] [] := by
  unfold fX1_checkOwners at h
  refine g_iconst (pc := 0) C (v := (0 : Int32)) dX1_checkOwners_0 (by decide) ?_
  refine g_istore_n (pc := 1) C (lv2 := [(1, .int (0 : Int32)), (0, .ref (ad Z 31))]) dX1_checkOwners_1 rfl (by decide) rfl ?_
  exact g_sub [1, 0] rfl (kX1_checkOwners_l2 C   _ _ _ h)
theorem mX1_checkOwners (l : Launch) (Z : Sh) {σ : Sg}  {u : Sg}  (h : fX1_checkOwners σ = some u) : MV l Z layX yX1_checkOwners wsX1_checkOwners rX1_checkOwners [.ref (ad Z 31)] σ u :=
  MV.of (cc := cX1_checkOwners) (maxL := 2) (ret := none) (by decide) rfl (Nat.le_of_ble_eq_true rfl) (fun p e s m below meth c C => kX1_checkOwners_e C  h)

def rX1_tellAll : Room := { frames := 6, cells := 0, slots := 0, locals := 127 }
theorem uX1_tellAll_X1 : ∀ w ∈ wsX10, w ∈ wsX1_tellAll := by decide +kernel
def fX1_tellAll_b106  (k33 : Sg → Int32 → Option (Sg × Int32)) (σ : Sg) (v1 : Int32) : Option (Sg × Int32) := (fX1_advance σ).bind fun σ1 => k33 σ1 (v1 + 1)
def fX1_tellAll_b116   (σ : Sg) (v1 : Int32) : Option (Sg × Int32) := (fX1_checkOwners σ).bind fun σ1 => some (σ1, v1)
def fX1_tellAll_l33   : Nat → Sg → Int32 → Option (Sg × Int32)
  | 0, _, _ => none
  | n + 1, σ, v1 => if (σ 31 2) = 0 then if (σ 31 6) = 0 then fX1_tellAll_b116 σ v1 else if (160 : Int32) ≤ v1 then fX1_tellAll_b116 σ v1 else (fX1_beginning σ).bind fun t1 => if t1 = (4 : Int32) then (fX1_tellLord σ).bind fun σ5 => fX1_tellAll_b106 (fun σ v1 => fX1_tellAll_l33 n σ v1) σ5 v1 else if t1 = (5 : Int32) then (fX1_tellPrice σ).bind fun σ4 => fX1_tellAll_b106 (fun σ v1 => fX1_tellAll_l33 n σ v1) σ4 v1 else if t1 = (-4 : Int32) then (fX1_refuse σ (2 : Int32) (σ 31 4)).bind fun σ2 => fX1_tellAll_b106 (fun σ v1 => fX1_tellAll_l33 n σ v1) σ2 v1 else (fX1_tellBorough σ t1).bind fun σ3 => fX1_tellAll_b106 (fun σ v1 => fX1_tellAll_l33 n σ v1) σ3 v1 else fX1_tellAll_b116 σ v1
def fX1_tellAll (σ : Sg)  : Option (Sg × Int32) := (fX2_empty σ 25).bind fun σ1 => (pf σ1 31 2 (0 : Int32)).bind fun σ2 => (pf σ2 31 3 (0 : Int32)).bind fun σ3 => (pf σ3 31 5 (0 : Int32)).bind fun σ4 => (pz σ4 31 8 (0 : Int32)).bind fun σ5 => (fX1_advance σ5).bind fun σ6 => fX1_tellAll_l33 2000 σ6 (0 : Int32)
set_option maxHeartbeats 1000000 in
set_option maxRecDepth 20000 in
theorem kX1_tellAll_b106 {p : Program} {l : Launch} {e : Env} {s : State} {m : MethodId} {args : Array Value} {below : List Frame} {meth : Method} {c : Code} {Z : Sh} (C : Cx p s m args meth c cX1_tellAll 3 wsX1_tellAll RX1 (some .int) Z layX)  {u : Sg × Int32}  {k33 : Sg → Int32 → Option (Sg × Int32)} (hk33 : ∀ (σ : Sg) (v1 : Int32), k33 σ v1 = some u → G p l e rX1_tellAll s m args below meth c 3 Z layX (MQ below (QI Z layX u.1 u.2 s.heap.size) args s 0 0 (pA Z layX s.heap.size)) σ 33 [(0, .ref (ad Z 31)), (1, .int v1)] []) {σ : Sg} {v1 : Int32} (h : fX1_tellAll_b106 k33 σ v1 = some u) : G p l e rX1_tellAll s m args below meth c 3 Z layX (MQ below (QI Z layX u.1 u.2 s.heap.size) args s 0 0 (pA Z layX s.heap.size)) σ 106 [(0, .ref (ad Z 31)), (1, .int v1)] [] := by
  unfold fX1_tellAll_b106 at h
  refine g_iinc (pc := 106) C (j := 1) (v := (v1 + 1)) (lv2 := [(1, .int (v1 + 1)), (0, .ref (ad Z 31))]) dX1_tellAll_106 rfl rfl (by decide) rfl ?_
  refine g_aload_n (pc := 109) C dX1_tellAll_109 rfl 1 rfl ?_
  obtain ⟨σ1, eσ1, h⟩ := bs h
  refine g_callVv (pc := 110) C (As := []) (rest := []) (k := 31) (by rfl) (by rfl) (cwV 0 C.2.2.2.2.2.1 gX1_tellAll_X1_advance rfl rfl rfl (by decide +kernel) ⟨Nat.le_of_ble_eq_true rfl, Nat.le_of_ble_eq_true rfl⟩) (mX1_advance l Z  eσ1) rfl rfl (Nat.le_of_ble_eq_true rfl) dX1_tellAll_110 ?_
  refine g_goto (pc := 113) C (tgt := 33) dX1_tellAll_113 (by decide) ?_
  exact g_sub [1, 0] rfl (hk33 _ _ h)
set_option maxHeartbeats 1000000 in
set_option maxRecDepth 20000 in
theorem kX1_tellAll_b116 {p : Program} {l : Launch} {e : Env} {s : State} {m : MethodId} {args : Array Value} {below : List Frame} {meth : Method} {c : Code} {Z : Sh} (C : Cx p s m args meth c cX1_tellAll 3 wsX1_tellAll RX1 (some .int) Z layX)  {u : Sg × Int32}   {σ : Sg} {v1 : Int32} (h : fX1_tellAll_b116 σ v1 = some u) : G p l e rX1_tellAll s m args below meth c 3 Z layX (MQ below (QI Z layX u.1 u.2 s.heap.size) args s 0 0 (pA Z layX s.heap.size)) σ 116 [(0, .ref (ad Z 31)), (1, .int v1)] [] := by
  unfold fX1_tellAll_b116 at h
  refine g_aload_n (pc := 116) C dX1_tellAll_116 rfl 0 rfl ?_
  obtain ⟨σ1, eσ1, h⟩ := bs h
  refine g_callVv (pc := 117) C (As := []) (rest := []) (k := 31) (by rfl) (by rfl) (cwV 0 C.2.2.2.2.2.1 gX1_tellAll_X1_checkOwners rfl rfl rfl (by decide +kernel) ⟨Nat.le_of_ble_eq_true rfl, Nat.le_of_ble_eq_true rfl⟩) (mX1_checkOwners l Z  eσ1) rfl rfl (Nat.le_of_ble_eq_true rfl) dX1_tellAll_117 ?_
  refine g_iload_n (pc := 120) C dX1_tellAll_120 rfl 1 rfl ?_
  exact g_iret C dX1_tellAll_121 (pfst h) (psnd h)
set_option maxHeartbeats 1000000 in
set_option maxRecDepth 20000 in
theorem kX1_tellAll_l33 {p : Program} {l : Launch} {e : Env} {s : State} {m : MethodId} {args : Array Value} {below : List Frame} {meth : Method} {c : Code} {Z : Sh} (C : Cx p s m args meth c cX1_tellAll 3 wsX1_tellAll RX1 (some .int) Z layX)  {u : Sg × Int32}   : ∀ (n : Nat) (σ : Sg) (v1 : Int32), fX1_tellAll_l33 n σ v1 = some u → G p l e rX1_tellAll s m args below meth c 3 Z layX (MQ below (QI Z layX u.1 u.2 s.heap.size) args s 0 0 (pA Z layX s.heap.size)) σ 33 [(0, .ref (ad Z 31)), (1, .int v1)] [] := by
  intro n
  induction n with
  | zero => intro σ v1 h; exact absurd h (by simp [fX1_tellAll_l33])
  | succ n ih =>
    intro σ v1 h
    rw [fX1_tellAll_l33] at h
    refine g_aload_n (pc := 33) C dX1_tellAll_33 rfl 0 rfl ?_
    refine g_geti (pc := 34) C (Cn := RX1) (T := TX1) (N := 9) (ci := 1) (k := 31) (j := 2) uX1_tellAll_X1 (by rfl) rfl (by decide) (by decide +kernel) (q := 0) rfl dX1_tellAll_34 ?_
    refine g_if_ne (pc := 37) C (tgt := 116) dX1_tellAll_37 (by decide) h (fun hc37 h => ?_) (fun hc37 h => ?_)
    · exact g_sub [0, 1] rfl (kX1_tellAll_b116 C    h)
    · refine g_aload_n (pc := 40) C dX1_tellAll_40 rfl 0 rfl ?_
      refine g_geti (pc := 41) C (Cn := RX1) (T := TX1) (N := 9) (ci := 1) (k := 31) (j := 6) uX1_tellAll_X1 (by rfl) rfl (by decide) (by decide +kernel) (q := 0) rfl dX1_tellAll_41 ?_
      refine g_if_eq (pc := 44) C (tgt := 116) dX1_tellAll_44 (by decide) h (fun hc44 h => ?_) (fun hc44 h => ?_)
      · exact g_sub [0, 1] rfl (kX1_tellAll_b116 C    h)
      · refine g_iload_n (pc := 47) C dX1_tellAll_47 rfl 1 rfl ?_
        refine g_sipush (pc := 48) C (v := (160 : Int32)) dX1_tellAll_48 (by decide) ?_
        refine g_icmp_ge (pc := 51) C (tgt := 116) dX1_tellAll_51 (by decide) h (fun hc51 h => ?_) (fun hc51 h => ?_)
        · exact g_sub [0, 1] rfl (kX1_tellAll_b116 C    h)
        · refine g_aload_n (pc := 54) C dX1_tellAll_54 rfl 0 rfl ?_
          obtain ⟨t1, et1, h⟩ := bs h
          refine g_callVi (pc := 55) C (As := []) (rest := []) (k := 31) (by rfl) (by rfl) (cwV 0 C.2.2.2.2.2.1 gX1_tellAll_X1_beginning rfl rfl rfl (by decide +kernel) ⟨Nat.le_of_ble_eq_true rfl, Nat.le_of_ble_eq_true rfl⟩) (mX1_beginning l Z  et1) rfl rfl (Nat.le_of_ble_eq_true rfl) dX1_tellAll_55 ?_
          refine g_istore_n (pc := 58) C (lv2 := [(2, .int t1), (0, .ref (ad Z 31)), (1, .int v1)]) dX1_tellAll_58 rfl (by decide) rfl ?_
          refine g_iload_n (pc := 59) C dX1_tellAll_59 rfl 0 rfl ?_
          refine g_iconst (pc := 60) C (v := (4 : Int32)) dX1_tellAll_60 (by decide) ?_
          refine g_icmp_ne (pc := 61) C (tgt := 71) dX1_tellAll_61 (by decide) h (fun hc61 h => ?_) (fun hc61 h => ?_)
          · refine g_iload_n (pc := 71) C dX1_tellAll_71 rfl 0 rfl ?_
            refine g_iconst (pc := 72) C (v := (5 : Int32)) dX1_tellAll_72 (by decide) ?_
            refine g_icmp_ne (pc := 73) C (tgt := 83) dX1_tellAll_73 (by decide) h (fun hc73 h => ?_) (fun hc73 h => ?_)
            · refine g_iload_n (pc := 83) C dX1_tellAll_83 rfl 0 rfl ?_
              refine g_bipush (pc := 84) C (v := (-4 : Int32)) dX1_tellAll_84 (by decide) ?_
              refine g_icmp_eq (pc := 86) C (tgt := 97) dX1_tellAll_86 (by decide) h (fun hc86 h => ?_) (fun hc86 h => ?_)
              · refine g_aload_n (pc := 97) C dX1_tellAll_97 rfl 1 rfl ?_
                refine g_iconst (pc := 98) C (v := (2 : Int32)) dX1_tellAll_98 (by decide) ?_
                refine g_aload_n (pc := 99) C dX1_tellAll_99 rfl 1 rfl ?_
                refine g_geti (pc := 100) C (Cn := RX1) (T := TX1) (N := 9) (ci := 1) (k := 31) (j := 4) uX1_tellAll_X1 (by rfl) rfl (by decide) (by decide +kernel) (q := 0) rfl dX1_tellAll_100 ?_
                obtain ⟨σ2, eσ2, h⟩ := bs h
                refine g_callVv (pc := 103) C (As := [.int (2 : Int32), .int (σ 31 4)]) (rest := []) (k := 31) (by rfl) (by rfl) (cwV 2 C.2.2.2.2.2.1 gX1_tellAll_X1_refuse rfl rfl rfl (by decide +kernel) ⟨Nat.le_of_ble_eq_true rfl, Nat.le_of_ble_eq_true rfl⟩) (mX1_refuse l Z  eσ2) rfl rfl (Nat.le_of_ble_eq_true rfl) dX1_tellAll_103 ?_
                exact g_sub [1, 2] rfl (kX1_tellAll_b106 C  ih  h)
              · refine g_aload_n (pc := 89) C dX1_tellAll_89 rfl 1 rfl ?_
                refine g_iload_n (pc := 90) C dX1_tellAll_90 rfl 0 rfl ?_
                obtain ⟨σ3, eσ3, h⟩ := bs h
                refine g_callVv (pc := 91) C (As := [.int t1]) (rest := []) (k := 31) (by rfl) (by rfl) (cwV 1 C.2.2.2.2.2.1 gX1_tellAll_X1_tellBorough rfl rfl rfl (by decide +kernel) ⟨Nat.le_of_ble_eq_true rfl, Nat.le_of_ble_eq_true rfl⟩) (mX1_tellBorough l Z  eσ3) rfl rfl (Nat.le_of_ble_eq_true rfl) dX1_tellAll_91 ?_
                refine g_goto (pc := 94) C (tgt := 106) dX1_tellAll_94 (by decide) ?_
                exact g_sub [1, 2] rfl (kX1_tellAll_b106 C  ih  h)
            · refine g_aload_n (pc := 76) C dX1_tellAll_76 rfl 1 rfl ?_
              obtain ⟨σ4, eσ4, h⟩ := bs h
              refine g_callVv (pc := 77) C (As := []) (rest := []) (k := 31) (by rfl) (by rfl) (cwV 0 C.2.2.2.2.2.1 gX1_tellAll_X1_tellPrice rfl rfl rfl (by decide +kernel) ⟨Nat.le_of_ble_eq_true rfl, Nat.le_of_ble_eq_true rfl⟩) (mX1_tellPrice l Z  eσ4) rfl rfl (Nat.le_of_ble_eq_true rfl) dX1_tellAll_77 ?_
              refine g_goto (pc := 80) C (tgt := 106) dX1_tellAll_80 (by decide) ?_
              exact g_sub [1, 2] rfl (kX1_tellAll_b106 C  ih  h)
          · refine g_aload_n (pc := 64) C dX1_tellAll_64 rfl 1 rfl ?_
            obtain ⟨σ5, eσ5, h⟩ := bs h
            refine g_callVv (pc := 65) C (As := []) (rest := []) (k := 31) (by rfl) (by rfl) (cwV 0 C.2.2.2.2.2.1 gX1_tellAll_X1_tellLord rfl rfl rfl (by decide +kernel) ⟨Nat.le_of_ble_eq_true rfl, Nat.le_of_ble_eq_true rfl⟩) (mX1_tellLord l Z  eσ5) rfl rfl (Nat.le_of_ble_eq_true rfl) dX1_tellAll_65 ?_
            refine g_goto (pc := 68) C (tgt := 106) dX1_tellAll_68 (by decide) ?_
            exact g_sub [1, 2] rfl (kX1_tellAll_b106 C  ih  h)
set_option maxHeartbeats 1000000 in
set_option maxRecDepth 20000 in
theorem kX1_tellAll_e {p : Program} {l : Launch} {e : Env} {s : State} {m : MethodId} {args : Array Value} {below : List Frame} {meth : Method} {c : Code} {Z : Sh} (C : Cx p s m args meth c cX1_tellAll 3 wsX1_tellAll RX1 (some .int) Z layX) {σ : Sg}  {u : Sg × Int32}  (h : fX1_tellAll σ = some u) : G p l e rX1_tellAll s m args below meth c 3 Z layX (MQ below (QI Z layX u.1 u.2 s.heap.size) args s 0 0 (pA Z layX s.heap.size)) σ 0 [(0, .ref (ad Z 31))] [] := by
  unfold fX1_tellAll at h
  refine g_aload_n (pc := 0) C dX1_tellAll_0 rfl 0 rfl ?_
  refine g_getr (pc := 1) C (Cn := RX1) (T := TX1) (N := 9) (ci := 1) (k := 31) (j := 1) uX1_tellAll_X1 (by rfl) rfl (by decide) (by decide +kernel) (q := 25) rfl dX1_tellAll_1 ?_
  obtain ⟨σ1, eσ1, h⟩ := bs h
  refine g_callVv (pc := 4) C (As := []) (rest := []) (k := 25) (by rfl) (by rfl) (cwV 0 C.2.2.2.2.2.1 gX1_tellAll_X2_empty rfl rfl rfl (by decide +kernel) ⟨Nat.le_of_ble_eq_true rfl, Nat.le_of_ble_eq_true rfl⟩) (mX2_empty l Z isR25 eσ1) rfl rfl (Nat.le_of_ble_eq_true rfl) dX1_tellAll_4 ?_
  refine g_aload_n (pc := 7) C dX1_tellAll_7 rfl 0 rfl ?_
  refine g_iconst (pc := 8) C (v := (0 : Int32)) dX1_tellAll_8 (by decide) ?_
  obtain ⟨σ2, eσ2, h⟩ := bs h
  refine g_puti (pc := 9) C (Cn := RX1) (T := TX1) (N := 9) (ci := 1) (k := 31) (j := 2) uX1_tellAll_X1 (by rfl) rfl (by decide) (by decide +kernel) tyX1 tyX1_ok nmX1 rfl (by decide +kernel) rfl eσ2 dX1_tellAll_9 ?_
  refine g_aload_n (pc := 12) C dX1_tellAll_12 rfl 0 rfl ?_
  refine g_iconst (pc := 13) C (v := (0 : Int32)) dX1_tellAll_13 (by decide) ?_
  obtain ⟨σ3, eσ3, h⟩ := bs h
  refine g_puti (pc := 14) C (Cn := RX1) (T := TX1) (N := 9) (ci := 1) (k := 31) (j := 3) uX1_tellAll_X1 (by rfl) rfl (by decide) (by decide +kernel) tyX1 tyX1_ok nmX1 rfl (by decide +kernel) rfl eσ3 dX1_tellAll_14 ?_
  refine g_aload_n (pc := 17) C dX1_tellAll_17 rfl 0 rfl ?_
  refine g_iconst (pc := 18) C (v := (0 : Int32)) dX1_tellAll_18 (by decide) ?_
  obtain ⟨σ4, eσ4, h⟩ := bs h
  refine g_puti (pc := 19) C (Cn := RX1) (T := TX1) (N := 9) (ci := 1) (k := 31) (j := 5) uX1_tellAll_X1 (by rfl) rfl (by decide) (by decide +kernel) tyX1 tyX1_ok nmX1 rfl (by decide +kernel) rfl eσ4 dX1_tellAll_19 ?_
  refine g_aload_n (pc := 22) C dX1_tellAll_22 rfl 0 rfl ?_
  refine g_iconst (pc := 23) C (v := (0 : Int32)) dX1_tellAll_23 (by decide) ?_
  obtain ⟨σ5, eσ5, h⟩ := bs h
  refine g_putz (pc := 24) C (Cn := RX1) (T := TX1) (N := 9) (ci := 1) (k := 31) (j := 8) uX1_tellAll_X1 (by rfl) rfl (by decide) (by decide +kernel) tyX1 tyX1_ok nmX1 rfl (by decide +kernel) rfl eσ5 dX1_tellAll_24 ?_
  refine g_iconst (pc := 27) C (v := (0 : Int32)) dX1_tellAll_27 (by decide) ?_
  refine g_istore_n (pc := 28) C (lv2 := [(1, .int (0 : Int32)), (0, .ref (ad Z 31))]) dX1_tellAll_28 rfl (by decide) rfl ?_
  refine g_aload_n (pc := 29) C dX1_tellAll_29 rfl 1 rfl ?_
  obtain ⟨σ6, eσ6, h⟩ := bs h
  refine g_callVv (pc := 30) C (As := []) (rest := []) (k := 31) (by rfl) (by rfl) (cwV 0 C.2.2.2.2.2.1 gX1_tellAll_X1_advance rfl rfl rfl (by decide +kernel) ⟨Nat.le_of_ble_eq_true rfl, Nat.le_of_ble_eq_true rfl⟩) (mX1_advance l Z  eσ6) rfl rfl (Nat.le_of_ble_eq_true rfl) dX1_tellAll_30 ?_
  exact g_sub [1, 0] rfl (kX1_tellAll_l33 C   _ _ _ h)
theorem mX1_tellAll (l : Launch) (Z : Sh) {σ : Sg}  {u : Sg × Int32}  (h : fX1_tellAll σ = some u) : MI l Z layX yX1_tellAll wsX1_tellAll rX1_tellAll [.ref (ad Z 31)] σ u.1 u.2 :=
  MI.of (cc := cX1_tellAll) (maxL := 3) (ret := (some .int)) (by decide) rfl (Nat.le_of_ble_eq_true rfl) (fun p e s m below meth c C => kX1_tellAll_e C  h)

def rX2_copyFrom : Room := { frames := 0, cells := 0, slots := 0, locals := 0 }
theorem uX2_copyFrom_X2 : ∀ w ∈ wsX20, w ∈ wsX2_copyFrom := by decide +kernel
def fX2_copyFrom_l51 (a : Nat) (b : Nat)  : Nat → Sg → Int32 → Option (Sg)
  | 0, _, _ => none
  | n + 1, σ, v2 => if (6 : Int32) ≤ v2 then some σ else (rd (σ (b + 2)) 6 v2).bind fun t1 => (wr σ (a + 2) 6 v2 t1).bind fun σ2 => (rd (σ2 (b + 3)) 6 v2).bind fun t3 => (wr σ2 (a + 3) 6 v2 t3).bind fun σ4 => (rd (σ4 (b + 4)) 6 v2).bind fun t5 => (wr σ4 (a + 4) 6 v2 t5).bind fun σ6 => (rd (σ6 (b + 5)) 6 v2).bind fun t7 => (wr σ6 (a + 5) 6 v2 t7).bind fun σ8 => fX2_copyFrom_l51 a b n σ8 (v2 + 1)
def fX2_copyFrom_l26 (a : Nat) (b : Nat)  : Nat → Sg → Int32 → Option (Sg)
  | 0, _, _ => none
  | n + 1, σ, v2 => if (4 : Int32) ≤ v2 then fX2_copyFrom_l51 a b 2000 σ (0 : Int32) else (rd (σ (b + 1)) 4 v2).bind fun t1 => (wr σ (a + 1) 4 v2 t1).bind fun σ2 => fX2_copyFrom_l26 a b n σ2 (v2 + 1)
def fX2_copyFrom (σ : Sg) (a : Nat) (b : Nat) : Option (Sg) := (pf σ a 0 (σ b 0)).bind fun σ1 => (pf σ1 a 1 (σ1 b 1)).bind fun σ2 => (pf σ2 a 2 (σ2 b 2)).bind fun σ3 => fX2_copyFrom_l26 a b 2000 σ3 (0 : Int32)
set_option maxHeartbeats 1000000 in
set_option maxRecDepth 20000 in
theorem kX2_copyFrom_l51 {p : Program} {l : Launch} {e : Env} {s : State} {m : MethodId} {args : Array Value} {below : List Frame} {meth : Method} {c : Code} {Z : Sh} (C : Cx p s m args meth c cX2_copyFrom 3 wsX2_copyFrom RX2 none Z layX) {a : Nat} {b : Nat} {u : Sg} (h_a : IsR a) (h_b : IsR b)  : ∀ (n : Nat) (σ : Sg) (v2 : Int32), fX2_copyFrom_l51 a b n σ v2 = some u → G p l e rX2_copyFrom s m args below meth c 3 Z layX (MQ below (QV Z layX u s.heap.size) args s 0 0 (pA Z layX s.heap.size)) σ 51 [(0, .ref (ad Z a)), (1, .ref (ad Z b)), (2, .int v2)] [] := by
  intro n
  induction n with
  | zero => intro σ v2 h; exact absurd h (by simp [fX2_copyFrom_l51])
  | succ n ih =>
    intro σ v2 h
    rw [fX2_copyFrom_l51] at h
    refine g_iload_n (pc := 51) C dX2_copyFrom_51 rfl 2 rfl ?_
    refine g_bipush (pc := 52) C (v := (6 : Int32)) dX2_copyFrom_52 (by decide) ?_
    refine g_icmp_ge (pc := 54) C (tgt := 111) dX2_copyFrom_54 (by decide) h (fun hc54 h => ?_) (fun hc54 h => ?_)
    · exact g_vret C dX2_copyFrom_111 (Option.some.inj h)
    · refine g_aload_n (pc := 57) C dX2_copyFrom_57 rfl 0 rfl ?_
      refine g_getr (pc := 58) C (Cn := RX2) (T := TX2) (N := 8) (ci := 2) (k := a) (j := 4) uX2_copyFrom_X2 h_a.1 rfl (by decide) (by decide +kernel) (q := (a + 2)) rfl dX2_copyFrom_58 ?_
      refine g_iload_n (pc := 61) C dX2_copyFrom_61 rfl 2 rfl ?_
      refine g_aload_n (pc := 62) C dX2_copyFrom_62 rfl 1 rfl ?_
      refine g_getr (pc := 63) C (Cn := RX2) (T := TX2) (N := 8) (ci := 2) (k := b) (j := 4) uX2_copyFrom_X2 h_b.1 rfl (by decide) (by decide +kernel) (q := (b + 2)) rfl dX2_copyFrom_63 ?_
      refine g_iload_n (pc := 66) C dX2_copyFrom_66 rfl 2 rfl ?_
      obtain ⟨t1, et1, h⟩ := bs h
      refine g_iald (pc := 67) C (k := (b + 2)) (n := 6) h_b.2.2.1 et1 dX2_copyFrom_67 ?_
      obtain ⟨σ2, eσ2, h⟩ := bs h
      refine g_iast (pc := 68) C (k := (a + 2)) (n := 6) h_a.2.2.1 eσ2 dX2_copyFrom_68 ?_
      refine g_aload_n (pc := 69) C dX2_copyFrom_69 rfl 0 rfl ?_
      refine g_getr (pc := 70) C (Cn := RX2) (T := TX2) (N := 8) (ci := 2) (k := a) (j := 5) uX2_copyFrom_X2 h_a.1 rfl (by decide) (by decide +kernel) (q := (a + 3)) rfl dX2_copyFrom_70 ?_
      refine g_iload_n (pc := 73) C dX2_copyFrom_73 rfl 2 rfl ?_
      refine g_aload_n (pc := 74) C dX2_copyFrom_74 rfl 1 rfl ?_
      refine g_getr (pc := 75) C (Cn := RX2) (T := TX2) (N := 8) (ci := 2) (k := b) (j := 5) uX2_copyFrom_X2 h_b.1 rfl (by decide) (by decide +kernel) (q := (b + 3)) rfl dX2_copyFrom_75 ?_
      refine g_iload_n (pc := 78) C dX2_copyFrom_78 rfl 2 rfl ?_
      obtain ⟨t3, et3, h⟩ := bs h
      refine g_iald (pc := 79) C (k := (b + 3)) (n := 6) h_b.2.2.2.1 et3 dX2_copyFrom_79 ?_
      obtain ⟨σ4, eσ4, h⟩ := bs h
      refine g_iast (pc := 80) C (k := (a + 3)) (n := 6) h_a.2.2.2.1 eσ4 dX2_copyFrom_80 ?_
      refine g_aload_n (pc := 81) C dX2_copyFrom_81 rfl 0 rfl ?_
      refine g_getr (pc := 82) C (Cn := RX2) (T := TX2) (N := 8) (ci := 2) (k := a) (j := 6) uX2_copyFrom_X2 h_a.1 rfl (by decide) (by decide +kernel) (q := (a + 4)) rfl dX2_copyFrom_82 ?_
      refine g_iload_n (pc := 85) C dX2_copyFrom_85 rfl 2 rfl ?_
      refine g_aload_n (pc := 86) C dX2_copyFrom_86 rfl 1 rfl ?_
      refine g_getr (pc := 87) C (Cn := RX2) (T := TX2) (N := 8) (ci := 2) (k := b) (j := 6) uX2_copyFrom_X2 h_b.1 rfl (by decide) (by decide +kernel) (q := (b + 4)) rfl dX2_copyFrom_87 ?_
      refine g_iload_n (pc := 90) C dX2_copyFrom_90 rfl 2 rfl ?_
      obtain ⟨t5, et5, h⟩ := bs h
      refine g_iald (pc := 91) C (k := (b + 4)) (n := 6) h_b.2.2.2.2.1 et5 dX2_copyFrom_91 ?_
      obtain ⟨σ6, eσ6, h⟩ := bs h
      refine g_iast (pc := 92) C (k := (a + 4)) (n := 6) h_a.2.2.2.2.1 eσ6 dX2_copyFrom_92 ?_
      refine g_aload_n (pc := 93) C dX2_copyFrom_93 rfl 0 rfl ?_
      refine g_getr (pc := 94) C (Cn := RX2) (T := TX2) (N := 8) (ci := 2) (k := a) (j := 7) uX2_copyFrom_X2 h_a.1 rfl (by decide) (by decide +kernel) (q := (a + 5)) rfl dX2_copyFrom_94 ?_
      refine g_iload_n (pc := 97) C dX2_copyFrom_97 rfl 2 rfl ?_
      refine g_aload_n (pc := 98) C dX2_copyFrom_98 rfl 1 rfl ?_
      refine g_getr (pc := 99) C (Cn := RX2) (T := TX2) (N := 8) (ci := 2) (k := b) (j := 7) uX2_copyFrom_X2 h_b.1 rfl (by decide) (by decide +kernel) (q := (b + 5)) rfl dX2_copyFrom_99 ?_
      refine g_iload_n (pc := 102) C dX2_copyFrom_102 rfl 2 rfl ?_
      obtain ⟨t7, et7, h⟩ := bs h
      refine g_iald (pc := 103) C (k := (b + 5)) (n := 6) h_b.2.2.2.2.2 et7 dX2_copyFrom_103 ?_
      obtain ⟨σ8, eσ8, h⟩ := bs h
      refine g_iast (pc := 104) C (k := (a + 5)) (n := 6) h_a.2.2.2.2.2 eσ8 dX2_copyFrom_104 ?_
      refine g_iinc (pc := 105) C (j := 2) (v := (v2 + 1)) (lv2 := [(2, .int (v2 + 1)), (0, .ref (ad Z a)), (1, .ref (ad Z b))]) dX2_copyFrom_105 rfl rfl (by decide) rfl ?_
      refine g_goto (pc := 108) C (tgt := 51) dX2_copyFrom_108 (by decide) ?_
      exact g_sub [1, 2, 0] rfl (ih _ _ h)
set_option maxHeartbeats 1000000 in
set_option maxRecDepth 20000 in
theorem kX2_copyFrom_l26 {p : Program} {l : Launch} {e : Env} {s : State} {m : MethodId} {args : Array Value} {below : List Frame} {meth : Method} {c : Code} {Z : Sh} (C : Cx p s m args meth c cX2_copyFrom 3 wsX2_copyFrom RX2 none Z layX) {a : Nat} {b : Nat} {u : Sg} (h_a : IsR a) (h_b : IsR b)  : ∀ (n : Nat) (σ : Sg) (v2 : Int32), fX2_copyFrom_l26 a b n σ v2 = some u → G p l e rX2_copyFrom s m args below meth c 3 Z layX (MQ below (QV Z layX u s.heap.size) args s 0 0 (pA Z layX s.heap.size)) σ 26 [(0, .ref (ad Z a)), (1, .ref (ad Z b)), (2, .int v2)] [] := by
  intro n
  induction n with
  | zero => intro σ v2 h; exact absurd h (by simp [fX2_copyFrom_l26])
  | succ n ih =>
    intro σ v2 h
    rw [fX2_copyFrom_l26] at h
    refine g_iload_n (pc := 26) C dX2_copyFrom_26 rfl 2 rfl ?_
    refine g_iconst (pc := 27) C (v := (4 : Int32)) dX2_copyFrom_27 (by decide) ?_
    refine g_icmp_ge (pc := 28) C (tgt := 49) dX2_copyFrom_28 (by decide) h (fun hc28 h => ?_) (fun hc28 h => ?_)
    · refine g_iconst (pc := 49) C (v := (0 : Int32)) dX2_copyFrom_49 (by decide) ?_
      refine g_istore_n (pc := 50) C (lv2 := [(2, .int (0 : Int32)), (0, .ref (ad Z a)), (1, .ref (ad Z b))]) dX2_copyFrom_50 rfl (by decide) rfl ?_
      exact g_sub [1, 2, 0] rfl (kX2_copyFrom_l51 C h_a h_b  _ _ _ h)
    · refine g_aload_n (pc := 31) C dX2_copyFrom_31 rfl 0 rfl ?_
      refine g_getr (pc := 32) C (Cn := RX2) (T := TX2) (N := 8) (ci := 2) (k := a) (j := 3) uX2_copyFrom_X2 h_a.1 rfl (by decide) (by decide +kernel) (q := (a + 1)) rfl dX2_copyFrom_32 ?_
      refine g_iload_n (pc := 35) C dX2_copyFrom_35 rfl 2 rfl ?_
      refine g_aload_n (pc := 36) C dX2_copyFrom_36 rfl 1 rfl ?_
      refine g_getr (pc := 37) C (Cn := RX2) (T := TX2) (N := 8) (ci := 2) (k := b) (j := 3) uX2_copyFrom_X2 h_b.1 rfl (by decide) (by decide +kernel) (q := (b + 1)) rfl dX2_copyFrom_37 ?_
      refine g_iload_n (pc := 40) C dX2_copyFrom_40 rfl 2 rfl ?_
      obtain ⟨t1, et1, h⟩ := bs h
      refine g_iald (pc := 41) C (k := (b + 1)) (n := 4) h_b.2.1 et1 dX2_copyFrom_41 ?_
      obtain ⟨σ2, eσ2, h⟩ := bs h
      refine g_iast (pc := 42) C (k := (a + 1)) (n := 4) h_a.2.1 eσ2 dX2_copyFrom_42 ?_
      refine g_iinc (pc := 43) C (j := 2) (v := (v2 + 1)) (lv2 := [(2, .int (v2 + 1)), (0, .ref (ad Z a)), (1, .ref (ad Z b))]) dX2_copyFrom_43 rfl rfl (by decide) rfl ?_
      refine g_goto (pc := 46) C (tgt := 26) dX2_copyFrom_46 (by decide) ?_
      exact g_sub [1, 2, 0] rfl (ih _ _ h)
set_option maxHeartbeats 1000000 in
set_option maxRecDepth 20000 in
theorem kX2_copyFrom_e {p : Program} {l : Launch} {e : Env} {s : State} {m : MethodId} {args : Array Value} {below : List Frame} {meth : Method} {c : Code} {Z : Sh} (C : Cx p s m args meth c cX2_copyFrom 3 wsX2_copyFrom RX2 none Z layX) {σ : Sg} {a : Nat} {b : Nat} {u : Sg} (h_a : IsR a) (h_b : IsR b) (h : fX2_copyFrom σ a b = some u) : G p l e rX2_copyFrom s m args below meth c 3 Z layX (MQ below (QV Z layX u s.heap.size) args s 0 0 (pA Z layX s.heap.size)) σ 0 [(0, .ref (ad Z a)), (1, .ref (ad Z b))] [] := by
  unfold fX2_copyFrom at h
  refine g_aload_n (pc := 0) C dX2_copyFrom_0 rfl 0 rfl ?_
  refine g_aload_n (pc := 1) C dX2_copyFrom_1 rfl 1 rfl ?_
  refine g_geti (pc := 2) C (Cn := RX2) (T := TX2) (N := 8) (ci := 2) (k := b) (j := 0) uX2_copyFrom_X2 h_b.1 rfl (by decide) (by decide +kernel) (q := 0) rfl dX2_copyFrom_2 ?_
  obtain ⟨σ1, eσ1, h⟩ := bs h
  refine g_puti (pc := 5) C (Cn := RX2) (T := TX2) (N := 8) (ci := 2) (k := a) (j := 0) uX2_copyFrom_X2 h_a.1 rfl (by decide) (by decide +kernel) tyX2 tyX2_ok nmX2 rfl (by decide +kernel) rfl eσ1 dX2_copyFrom_5 ?_
  refine g_aload_n (pc := 8) C dX2_copyFrom_8 rfl 0 rfl ?_
  refine g_aload_n (pc := 9) C dX2_copyFrom_9 rfl 1 rfl ?_
  refine g_geti (pc := 10) C (Cn := RX2) (T := TX2) (N := 8) (ci := 2) (k := b) (j := 1) uX2_copyFrom_X2 h_b.1 rfl (by decide) (by decide +kernel) (q := 0) rfl dX2_copyFrom_10 ?_
  obtain ⟨σ2, eσ2, h⟩ := bs h
  refine g_puti (pc := 13) C (Cn := RX2) (T := TX2) (N := 8) (ci := 2) (k := a) (j := 1) uX2_copyFrom_X2 h_a.1 rfl (by decide) (by decide +kernel) tyX2 tyX2_ok nmX2 rfl (by decide +kernel) rfl eσ2 dX2_copyFrom_13 ?_
  refine g_aload_n (pc := 16) C dX2_copyFrom_16 rfl 0 rfl ?_
  refine g_aload_n (pc := 17) C dX2_copyFrom_17 rfl 1 rfl ?_
  refine g_geti (pc := 18) C (Cn := RX2) (T := TX2) (N := 8) (ci := 2) (k := b) (j := 2) uX2_copyFrom_X2 h_b.1 rfl (by decide) (by decide +kernel) (q := 0) rfl dX2_copyFrom_18 ?_
  obtain ⟨σ3, eσ3, h⟩ := bs h
  refine g_puti (pc := 21) C (Cn := RX2) (T := TX2) (N := 8) (ci := 2) (k := a) (j := 2) uX2_copyFrom_X2 h_a.1 rfl (by decide) (by decide +kernel) tyX2 tyX2_ok nmX2 rfl (by decide +kernel) rfl eσ3 dX2_copyFrom_21 ?_
  refine g_iconst (pc := 24) C (v := (0 : Int32)) dX2_copyFrom_24 (by decide) ?_
  refine g_istore_n (pc := 25) C (lv2 := [(2, .int (0 : Int32)), (0, .ref (ad Z a)), (1, .ref (ad Z b))]) dX2_copyFrom_25 rfl (by decide) rfl ?_
  exact g_sub [1, 2, 0] rfl (kX2_copyFrom_l26 C h_a h_b  _ _ _ h)
theorem mX2_copyFrom (l : Launch) (Z : Sh) {σ : Sg} {a : Nat} {b : Nat} {u : Sg} (h_a : IsR a) (h_b : IsR b) (h : fX2_copyFrom σ a b = some u) : MV l Z layX yX2_copyFrom wsX2_copyFrom rX2_copyFrom [.ref (ad Z a), .ref (ad Z b)] σ u :=
  MV.of (cc := cX2_copyFrom) (maxL := 3) (ret := none) (by decide) rfl (Nat.le_of_ble_eq_true rfl) (fun p e s m below meth c C => kX2_copyFrom_e C h_a h_b h)

def rX2_hasLord : Room := { frames := 0, cells := 0, slots := 0, locals := 0 }
theorem uX2_hasLord_X2 : ∀ w ∈ wsX20, w ∈ wsX2_hasLord := by decide +kernel
def fX2_hasLord (σ : Sg) (a : Nat) (v1 : Int32) : Option (Int32) := if v1 < 0 then some (0 : Int32) else if (σ a 0) ≤ v1 then some (0 : Int32) else some (1 : Int32)
set_option maxHeartbeats 1000000 in
set_option maxRecDepth 20000 in
theorem kX2_hasLord_e {p : Program} {l : Launch} {e : Env} {s : State} {m : MethodId} {args : Array Value} {below : List Frame} {meth : Method} {c : Code} {Z : Sh} (C : Cx p s m args meth c cX2_hasLord 2 wsX2_hasLord RX2 (some .boolean) Z layX) {σ : Sg} {a : Nat} {v1 : Int32} {u : Int32} (h_a : IsR a) (h : fX2_hasLord σ a v1 = some u) : G p l e rX2_hasLord s m args below meth c 2 Z layX (MQ below (QI Z layX σ u s.heap.size) args s 0 0 (pA Z layX s.heap.size)) σ 0 [(0, .ref (ad Z a)), (1, .int v1)] [] := by
  unfold fX2_hasLord at h
  refine g_iload_n (pc := 0) C dX2_hasLord_0 rfl 1 rfl ?_
  refine g_if_lt (pc := 1) C (tgt := 16) dX2_hasLord_1 (by decide) h (fun hc1 h => ?_) (fun hc1 h => ?_)
  · refine g_iconst (pc := 16) C (v := (0 : Int32)) dX2_hasLord_16 (by decide) ?_
    exact g_zret C dX2_hasLord_17 rfl (rz0.trans h)
  · refine g_iload_n (pc := 4) C dX2_hasLord_4 rfl 1 rfl ?_
    refine g_aload_n (pc := 5) C dX2_hasLord_5 rfl 0 rfl ?_
    refine g_geti (pc := 6) C (Cn := RX2) (T := TX2) (N := 8) (ci := 2) (k := a) (j := 0) uX2_hasLord_X2 h_a.1 rfl (by decide) (by decide +kernel) (q := 0) rfl dX2_hasLord_6 ?_
    refine g_icmp_ge (pc := 9) C (tgt := 16) dX2_hasLord_9 (by decide) h (fun hc9 h => ?_) (fun hc9 h => ?_)
    · refine g_iconst (pc := 16) C (v := (0 : Int32)) dX2_hasLord_16 (by decide) ?_
      exact g_zret C dX2_hasLord_17 rfl (rz0.trans h)
    · refine g_iconst (pc := 12) C (v := (1 : Int32)) dX2_hasLord_12 (by decide) ?_
      refine g_goto (pc := 13) C (tgt := 17) dX2_hasLord_13 (by decide) ?_
      exact g_zret C dX2_hasLord_17 rfl (rz1.trans h)
theorem mX2_hasLord (l : Launch) (Z : Sh) {σ : Sg} {a : Nat} {v1 : Int32} {u : Int32} (h_a : IsR a) (h : fX2_hasLord σ a v1 = some u) : MI l Z layX yX2_hasLord wsX2_hasLord rX2_hasLord [.ref (ad Z a), .int v1] σ σ u :=
  MI.of (cc := cX2_hasLord) (maxL := 2) (ret := (some .boolean)) (by decide) rfl (Nat.le_of_ble_eq_true rfl) (fun p e s m below meth c C => kX2_hasLord_e C h_a h)

def rX2_hasBorough : Room := { frames := 0, cells := 0, slots := 0, locals := 0 }
theorem uX2_hasBorough_X2 : ∀ w ∈ wsX20, w ∈ wsX2_hasBorough := by decide +kernel
def fX2_hasBorough (σ : Sg) (a : Nat) (v1 : Int32) : Option (Int32) := if v1 < 0 then some (0 : Int32) else if (σ a 1) ≤ v1 then some (0 : Int32) else some (1 : Int32)
set_option maxHeartbeats 1000000 in
set_option maxRecDepth 20000 in
theorem kX2_hasBorough_e {p : Program} {l : Launch} {e : Env} {s : State} {m : MethodId} {args : Array Value} {below : List Frame} {meth : Method} {c : Code} {Z : Sh} (C : Cx p s m args meth c cX2_hasBorough 2 wsX2_hasBorough RX2 (some .boolean) Z layX) {σ : Sg} {a : Nat} {v1 : Int32} {u : Int32} (h_a : IsR a) (h : fX2_hasBorough σ a v1 = some u) : G p l e rX2_hasBorough s m args below meth c 2 Z layX (MQ below (QI Z layX σ u s.heap.size) args s 0 0 (pA Z layX s.heap.size)) σ 0 [(0, .ref (ad Z a)), (1, .int v1)] [] := by
  unfold fX2_hasBorough at h
  refine g_iload_n (pc := 0) C dX2_hasBorough_0 rfl 1 rfl ?_
  refine g_if_lt (pc := 1) C (tgt := 16) dX2_hasBorough_1 (by decide) h (fun hc1 h => ?_) (fun hc1 h => ?_)
  · refine g_iconst (pc := 16) C (v := (0 : Int32)) dX2_hasBorough_16 (by decide) ?_
    exact g_zret C dX2_hasBorough_17 rfl (rz0.trans h)
  · refine g_iload_n (pc := 4) C dX2_hasBorough_4 rfl 1 rfl ?_
    refine g_aload_n (pc := 5) C dX2_hasBorough_5 rfl 0 rfl ?_
    refine g_geti (pc := 6) C (Cn := RX2) (T := TX2) (N := 8) (ci := 2) (k := a) (j := 1) uX2_hasBorough_X2 h_a.1 rfl (by decide) (by decide +kernel) (q := 0) rfl dX2_hasBorough_6 ?_
    refine g_icmp_ge (pc := 9) C (tgt := 16) dX2_hasBorough_9 (by decide) h (fun hc9 h => ?_) (fun hc9 h => ?_)
    · refine g_iconst (pc := 16) C (v := (0 : Int32)) dX2_hasBorough_16 (by decide) ?_
      exact g_zret C dX2_hasBorough_17 rfl (rz0.trans h)
    · refine g_iconst (pc := 12) C (v := (1 : Int32)) dX2_hasBorough_12 (by decide) ?_
      refine g_goto (pc := 13) C (tgt := 17) dX2_hasBorough_13 (by decide) ?_
      exact g_zret C dX2_hasBorough_17 rfl (rz1.trans h)
theorem mX2_hasBorough (l : Launch) (Z : Sh) {σ : Sg} {a : Nat} {v1 : Int32} {u : Int32} (h_a : IsR a) (h : fX2_hasBorough σ a v1 = some u) : MI l Z layX yX2_hasBorough wsX2_hasBorough rX2_hasBorough [.ref (ad Z a), .int v1] σ σ u :=
  MI.of (cc := cX2_hasBorough) (maxL := 2) (ret := (some .boolean)) (by decide) rfl (Nat.le_of_ble_eq_true rfl) (fun p e s m below meth c C => kX2_hasBorough_e C h_a h)

def rX2_everyLord : Room := { frames := 0, cells := 0, slots := 0, locals := 0 }
theorem uX2_everyLord_X2 : ∀ w ∈ wsX20, w ∈ wsX2_everyLord := by decide +kernel
def fX2_everyLord (σ : Sg) (a : Nat) : Option (Int32) := some (((1 : Int32) <<< ((σ a 0) &&& 31)) - (1 : Int32))
set_option maxHeartbeats 1000000 in
set_option maxRecDepth 20000 in
theorem kX2_everyLord_e {p : Program} {l : Launch} {e : Env} {s : State} {m : MethodId} {args : Array Value} {below : List Frame} {meth : Method} {c : Code} {Z : Sh} (C : Cx p s m args meth c cX2_everyLord 1 wsX2_everyLord RX2 (some .int) Z layX) {σ : Sg} {a : Nat} {u : Int32} (h_a : IsR a) (h : fX2_everyLord σ a = some u) : G p l e rX2_everyLord s m args below meth c 1 Z layX (MQ below (QI Z layX σ u s.heap.size) args s 0 0 (pA Z layX s.heap.size)) σ 0 [(0, .ref (ad Z a))] [] := by
  unfold fX2_everyLord at h
  refine g_iconst (pc := 0) C (v := (1 : Int32)) dX2_everyLord_0 (by decide) ?_
  refine g_aload_n (pc := 1) C dX2_everyLord_1 rfl 0 rfl ?_
  refine g_geti (pc := 2) C (Cn := RX2) (T := TX2) (N := 8) (ci := 2) (k := a) (j := 0) uX2_everyLord_X2 h_a.1 rfl (by decide) (by decide +kernel) (q := 0) rfl dX2_everyLord_2 ?_
  refine g_ishl (pc := 5) C dX2_everyLord_5 ?_
  refine g_iconst (pc := 6) C (v := (1 : Int32)) dX2_everyLord_6 (by decide) ?_
  refine g_isub (pc := 7) C dX2_everyLord_7 ?_
  exact g_iret C dX2_everyLord_8 rfl (Option.some.inj h)
theorem mX2_everyLord (l : Launch) (Z : Sh) {σ : Sg} {a : Nat} {u : Int32} (h_a : IsR a) (h : fX2_everyLord σ a = some u) : MI l Z layX yX2_everyLord wsX2_everyLord rX2_everyLord [.ref (ad Z a)] σ σ u :=
  MI.of (cc := cX2_everyLord) (maxL := 1) (ret := (some .int)) (by decide) rfl (Nat.le_of_ble_eq_true rfl) (fun p e s m below meth c C => kX2_everyLord_e C h_a h)

def rX2_hasLords : Room := { frames := 1, cells := 0, slots := 0, locals := 20 }
def fX2_hasLords (σ : Sg) (a : Nat) (v1 : Int32) : Option (Int32) := if v1 < 0 then some (0 : Int32) else (fX2_everyLord σ a).bind fun t1 => if t1 < v1 then some (0 : Int32) else some (1 : Int32)
set_option maxHeartbeats 1000000 in
set_option maxRecDepth 20000 in
theorem kX2_hasLords_e {p : Program} {l : Launch} {e : Env} {s : State} {m : MethodId} {args : Array Value} {below : List Frame} {meth : Method} {c : Code} {Z : Sh} (C : Cx p s m args meth c cX2_hasLords 2 wsX2_hasLords RX2 (some .boolean) Z layX) {σ : Sg} {a : Nat} {v1 : Int32} {u : Int32} (h_a : IsR a) (h : fX2_hasLords σ a v1 = some u) : G p l e rX2_hasLords s m args below meth c 2 Z layX (MQ below (QI Z layX σ u s.heap.size) args s 0 0 (pA Z layX s.heap.size)) σ 0 [(0, .ref (ad Z a)), (1, .int v1)] [] := by
  unfold fX2_hasLords at h
  refine g_iload_n (pc := 0) C dX2_hasLords_0 rfl 1 rfl ?_
  refine g_if_lt (pc := 1) C (tgt := 16) dX2_hasLords_1 (by decide) h (fun hc1 h => ?_) (fun hc1 h => ?_)
  · refine g_iconst (pc := 16) C (v := (0 : Int32)) dX2_hasLords_16 (by decide) ?_
    exact g_zret C dX2_hasLords_17 rfl (rz0.trans h)
  · refine g_iload_n (pc := 4) C dX2_hasLords_4 rfl 1 rfl ?_
    refine g_aload_n (pc := 5) C dX2_hasLords_5 rfl 0 rfl ?_
    obtain ⟨t1, et1, h⟩ := bs h
    refine g_callVi (pc := 6) C (As := []) (rest := [.int v1]) (k := a) h_a.1 (by rfl) (cwV 0 C.2.2.2.2.2.1 gX2_hasLords_X2_everyLord rfl rfl rfl (by decide +kernel) ⟨Nat.le_of_ble_eq_true rfl, Nat.le_of_ble_eq_true rfl⟩) (mX2_everyLord l Z h_a et1) rfl rfl (Nat.le_of_ble_eq_true rfl) dX2_hasLords_6 ?_
    refine g_icmp_gt (pc := 9) C (tgt := 16) dX2_hasLords_9 (by decide) h (fun hc9 h => ?_) (fun hc9 h => ?_)
    · refine g_iconst (pc := 16) C (v := (0 : Int32)) dX2_hasLords_16 (by decide) ?_
      exact g_zret C dX2_hasLords_17 rfl (rz0.trans h)
    · refine g_iconst (pc := 12) C (v := (1 : Int32)) dX2_hasLords_12 (by decide) ?_
      refine g_goto (pc := 13) C (tgt := 17) dX2_hasLords_13 (by decide) ?_
      exact g_zret C dX2_hasLords_17 rfl (rz1.trans h)
theorem mX2_hasLords (l : Launch) (Z : Sh) {σ : Sg} {a : Nat} {v1 : Int32} {u : Int32} (h_a : IsR a) (h : fX2_hasLords σ a v1 = some u) : MI l Z layX yX2_hasLords wsX2_hasLords rX2_hasLords [.ref (ad Z a), .int v1] σ σ u :=
  MI.of (cc := cX2_hasLords) (maxL := 2) (ret := (some .boolean)) (by decide) rfl (Nat.le_of_ble_eq_true rfl) (fun p e s m below meth c C => kX2_hasLords_e C h_a h)

def rX2_allGuineas : Room := { frames := 0, cells := 0, slots := 0, locals := 0 }
theorem uX2_allGuineas_X2 : ∀ w ∈ wsX20, w ∈ wsX2_allGuineas := by decide +kernel
def fX2_allGuineas_l4 (σ : Sg) (a : Nat)  : Nat → Int32 → Int32 → Option (Int32)
  | 0, _, _ => none
  | n + 1, v1, v2 => if (σ a 0) ≤ v2 then some v1 else (rd (σ (a + 1)) 4 v2).bind fun t1 => fX2_allGuineas_l4 σ a n (v1 + t1) (v2 + 1)
def fX2_allGuineas (σ : Sg) (a : Nat) : Option (Int32) := fX2_allGuineas_l4 σ a 2000 (0 : Int32) (0 : Int32)
set_option maxHeartbeats 1000000 in
set_option maxRecDepth 20000 in
theorem kX2_allGuineas_l4 {p : Program} {l : Launch} {e : Env} {s : State} {m : MethodId} {args : Array Value} {below : List Frame} {meth : Method} {c : Code} {Z : Sh} (C : Cx p s m args meth c cX2_allGuineas 3 wsX2_allGuineas RX2 (some .int) Z layX) {σ : Sg} {a : Nat} {u : Int32} (h_a : IsR a)  : ∀ (n : Nat) (v1 : Int32) (v2 : Int32), fX2_allGuineas_l4 σ a n v1 v2 = some u → G p l e rX2_allGuineas s m args below meth c 3 Z layX (MQ below (QI Z layX σ u s.heap.size) args s 0 0 (pA Z layX s.heap.size)) σ 4 [(0, .ref (ad Z a)), (1, .int v1), (2, .int v2)] [] := by
  intro n
  induction n with
  | zero => intro v1 v2 h; exact absurd h (by simp [fX2_allGuineas_l4])
  | succ n ih =>
    intro v1 v2 h
    rw [fX2_allGuineas_l4] at h
    refine g_iload_n (pc := 4) C dX2_allGuineas_4 rfl 2 rfl ?_
    refine g_aload_n (pc := 5) C dX2_allGuineas_5 rfl 0 rfl ?_
    refine g_geti (pc := 6) C (Cn := RX2) (T := TX2) (N := 8) (ci := 2) (k := a) (j := 0) uX2_allGuineas_X2 h_a.1 rfl (by decide) (by decide +kernel) (q := 0) rfl dX2_allGuineas_6 ?_
    refine g_icmp_ge (pc := 9) C (tgt := 27) dX2_allGuineas_9 (by decide) h (fun hc9 h => ?_) (fun hc9 h => ?_)
    · refine g_iload_n (pc := 27) C dX2_allGuineas_27 rfl 1 rfl ?_
      exact g_iret C dX2_allGuineas_28 rfl (Option.some.inj h)
    · refine g_iload_n (pc := 12) C dX2_allGuineas_12 rfl 1 rfl ?_
      refine g_aload_n (pc := 13) C dX2_allGuineas_13 rfl 0 rfl ?_
      refine g_getr (pc := 14) C (Cn := RX2) (T := TX2) (N := 8) (ci := 2) (k := a) (j := 3) uX2_allGuineas_X2 h_a.1 rfl (by decide) (by decide +kernel) (q := (a + 1)) rfl dX2_allGuineas_14 ?_
      refine g_iload_n (pc := 17) C dX2_allGuineas_17 rfl 2 rfl ?_
      obtain ⟨t1, et1, h⟩ := bs h
      refine g_iald (pc := 18) C (k := (a + 1)) (n := 4) h_a.2.1 et1 dX2_allGuineas_18 ?_
      refine g_iadd (pc := 19) C dX2_allGuineas_19 ?_
      refine g_istore_n (pc := 20) C (lv2 := [(1, .int (v1 + t1)), (0, .ref (ad Z a)), (2, .int v2)]) dX2_allGuineas_20 rfl (by decide) rfl ?_
      refine g_iinc (pc := 21) C (j := 2) (v := (v2 + 1)) (lv2 := [(2, .int (v2 + 1)), (1, .int (v1 + t1)), (0, .ref (ad Z a))]) dX2_allGuineas_21 rfl rfl (by decide) rfl ?_
      refine g_goto (pc := 24) C (tgt := 4) dX2_allGuineas_24 (by decide) ?_
      exact g_sub [2, 1, 0] rfl (ih _ _ h)
set_option maxHeartbeats 1000000 in
set_option maxRecDepth 20000 in
theorem kX2_allGuineas_e {p : Program} {l : Launch} {e : Env} {s : State} {m : MethodId} {args : Array Value} {below : List Frame} {meth : Method} {c : Code} {Z : Sh} (C : Cx p s m args meth c cX2_allGuineas 3 wsX2_allGuineas RX2 (some .int) Z layX) {σ : Sg} {a : Nat} {u : Int32} (h_a : IsR a) (h : fX2_allGuineas σ a = some u) : G p l e rX2_allGuineas s m args below meth c 3 Z layX (MQ below (QI Z layX σ u s.heap.size) args s 0 0 (pA Z layX s.heap.size)) σ 0 [(0, .ref (ad Z a))] [] := by
  unfold fX2_allGuineas at h
  refine g_iconst (pc := 0) C (v := (0 : Int32)) dX2_allGuineas_0 (by decide) ?_
  refine g_istore_n (pc := 1) C (lv2 := [(1, .int (0 : Int32)), (0, .ref (ad Z a))]) dX2_allGuineas_1 rfl (by decide) rfl ?_
  refine g_iconst (pc := 2) C (v := (0 : Int32)) dX2_allGuineas_2 (by decide) ?_
  refine g_istore_n (pc := 3) C (lv2 := [(2, .int (0 : Int32)), (1, .int (0 : Int32)), (0, .ref (ad Z a))]) dX2_allGuineas_3 rfl (by decide) rfl ?_
  exact g_sub [2, 1, 0] rfl (kX2_allGuineas_l4 C h_a  _ _ _ h)
theorem mX2_allGuineas (l : Launch) (Z : Sh) {σ : Sg} {a : Nat} {u : Int32} (h_a : IsR a) (h : fX2_allGuineas σ a = some u) : MI l Z layX yX2_allGuineas wsX2_allGuineas rX2_allGuineas [.ref (ad Z a)] σ σ u :=
  MI.of (cc := cX2_allGuineas) (maxL := 3) (ret := (some .int)) (by decide) rfl (Nat.le_of_ble_eq_true rfl) (fun p e s m below meth c C => kX2_allGuineas_e C h_a h)

def rX2_votesOf : Room := { frames := 1, cells := 0, slots := 0, locals := 21 }
theorem uX2_votesOf_X2 : ∀ w ∈ wsX20, w ∈ wsX2_votesOf := by decide +kernel
def fX2_votesOf (σ : Sg) (a : Nat) (v1 : Int32) : Option (Int32) := (fX2_hasBorough σ a v1).bind fun t1 => if t1 = 0 then some (0 : Int32) else (rd (σ (a + 3)) 6 v1).bind fun t2 => (dv (t2 + (1 : Int32)) (2 : Int32)).bind fun t3 => (rd (σ (a + 2)) 6 v1).bind fun t4 => if t4 = (0 : Int32) then (rd (σ (a + 3)) 6 v1).bind fun t5 => some t5 else if t4 = (1 : Int32) then some t3 else if t4 = (2 : Int32) then some (t3 + (1 : Int32)) else (rd (σ (a + 3)) 6 v1).bind fun t6 => some (t6 + t3)
set_option maxHeartbeats 1000000 in
set_option maxRecDepth 20000 in
theorem kX2_votesOf_e {p : Program} {l : Launch} {e : Env} {s : State} {m : MethodId} {args : Array Value} {below : List Frame} {meth : Method} {c : Code} {Z : Sh} (C : Cx p s m args meth c cX2_votesOf 3 wsX2_votesOf RX2 (some .int) Z layX) {σ : Sg} {a : Nat} {v1 : Int32} {u : Int32} (h_a : IsR a) (h : fX2_votesOf σ a v1 = some u) : G p l e rX2_votesOf s m args below meth c 3 Z layX (MQ below (QI Z layX σ u s.heap.size) args s 0 0 (pA Z layX s.heap.size)) σ 0 [(0, .ref (ad Z a)), (1, .int v1)] [] := by
  unfold fX2_votesOf at h
  refine g_aload_n (pc := 0) C dX2_votesOf_0 rfl 0 rfl ?_
  refine g_iload_n (pc := 1) C dX2_votesOf_1 rfl 1 rfl ?_
  obtain ⟨t1, et1, h⟩ := bs h
  refine g_callVi (pc := 2) C (As := [.int v1]) (rest := []) (k := a) h_a.1 (by rfl) (cwV 1 C.2.2.2.2.2.1 gX2_votesOf_X2_hasBorough rfl rfl rfl (by decide +kernel) ⟨Nat.le_of_ble_eq_true rfl, Nat.le_of_ble_eq_true rfl⟩) (mX2_hasBorough l Z h_a et1) rfl rfl (Nat.le_of_ble_eq_true rfl) dX2_votesOf_2 ?_
  refine g_if_ne (pc := 5) C (tgt := 10) dX2_votesOf_5 (by decide) h (fun hc5 h => ?_) (fun hc5 h => ?_)
  · refine g_aload_n (pc := 10) C dX2_votesOf_10 rfl 0 rfl ?_
    refine g_getr (pc := 11) C (Cn := RX2) (T := TX2) (N := 8) (ci := 2) (k := a) (j := 5) uX2_votesOf_X2 h_a.1 rfl (by decide) (by decide +kernel) (q := (a + 3)) rfl dX2_votesOf_11 ?_
    refine g_iload_n (pc := 14) C dX2_votesOf_14 rfl 1 rfl ?_
    obtain ⟨t2, et2, h⟩ := bs h
    refine g_iald (pc := 15) C (k := (a + 3)) (n := 6) h_a.2.2.2.1 et2 dX2_votesOf_15 ?_
    refine g_iconst (pc := 16) C (v := (1 : Int32)) dX2_votesOf_16 (by decide) ?_
    refine g_iadd (pc := 17) C dX2_votesOf_17 ?_
    refine g_iconst (pc := 18) C (v := (2 : Int32)) dX2_votesOf_18 (by decide) ?_
    obtain ⟨t3, et3, h⟩ := bs h
    refine g_idiv (pc := 19) C dX2_votesOf_19 et3 ?_
    refine g_istore_n (pc := 20) C (lv2 := [(2, .int t3), (0, .ref (ad Z a)), (1, .int v1)]) dX2_votesOf_20 rfl (by decide) rfl ?_
    refine g_aload_n (pc := 21) C dX2_votesOf_21 rfl 1 rfl ?_
    refine g_getr (pc := 22) C (Cn := RX2) (T := TX2) (N := 8) (ci := 2) (k := a) (j := 4) uX2_votesOf_X2 h_a.1 rfl (by decide) (by decide +kernel) (q := (a + 2)) rfl dX2_votesOf_22 ?_
    refine g_iload_n (pc := 25) C dX2_votesOf_25 rfl 2 rfl ?_
    obtain ⟨t4, et4, h⟩ := bs h
    refine g_iald (pc := 26) C (k := (a + 2)) (n := 6) h_a.2.2.1 et4 dX2_votesOf_26 ?_
    refine g_sw (pc := 27) C (off := 25) (tgt := 52) (0 : Int32) dX2_votesOf_27 (by decide) (by decide) (by decide) (by decide) h (fun hc27 h => ?_) (fun hn27_0 h => ?_)
    · refine g_aload_n (pc := 52) C dX2_votesOf_52 rfl 1 rfl ?_
      refine g_getr (pc := 53) C (Cn := RX2) (T := TX2) (N := 8) (ci := 2) (k := a) (j := 5) uX2_votesOf_X2 h_a.1 rfl (by decide) (by decide +kernel) (q := (a + 3)) rfl dX2_votesOf_53 ?_
      refine g_iload_n (pc := 56) C dX2_votesOf_56 rfl 2 rfl ?_
      obtain ⟨t5, et5, h⟩ := bs h
      refine g_iald (pc := 57) C (k := (a + 3)) (n := 6) h_a.2.2.2.1 et5 dX2_votesOf_57 ?_
      exact g_iret C dX2_votesOf_58 rfl (Option.some.inj h)
    refine g_sw (pc := 27) C (off := 32) (tgt := 59) (1 : Int32) dX2_votesOf_27 (by decide) (by decide) (by decide) (by decide) h (fun hc27 h => ?_) (fun hn27_1 h => ?_)
    · refine g_iload_n (pc := 59) C dX2_votesOf_59 rfl 0 rfl ?_
      exact g_iret C dX2_votesOf_60 rfl (Option.some.inj h)
    refine g_sw (pc := 27) C (off := 34) (tgt := 61) (2 : Int32) dX2_votesOf_27 (by decide) (by decide) (by decide) (by decide) h (fun hc27 h => ?_) (fun hn27_2 h => ?_)
    · refine g_iload_n (pc := 61) C dX2_votesOf_61 rfl 0 rfl ?_
      refine g_iconst (pc := 62) C (v := (1 : Int32)) dX2_votesOf_62 (by decide) ?_
      refine g_iadd (pc := 63) C dX2_votesOf_63 ?_
      exact g_iret C dX2_votesOf_64 rfl (Option.some.inj h)
    refine g_swd (pc := 27) C (tgt := 65) dX2_votesOf_27 (by have z0 := ne_ti hn27_0; have z1 := ne_ti hn27_1; have z2 := ne_ti hn27_2; simp at z0 z1 z2; omega) (by decide) ?_
    refine g_aload_n (pc := 65) C dX2_votesOf_65 rfl 1 rfl ?_
    refine g_getr (pc := 66) C (Cn := RX2) (T := TX2) (N := 8) (ci := 2) (k := a) (j := 5) uX2_votesOf_X2 h_a.1 rfl (by decide) (by decide +kernel) (q := (a + 3)) rfl dX2_votesOf_66 ?_
    refine g_iload_n (pc := 69) C dX2_votesOf_69 rfl 2 rfl ?_
    obtain ⟨t6, et6, h⟩ := bs h
    refine g_iald (pc := 70) C (k := (a + 3)) (n := 6) h_a.2.2.2.1 et6 dX2_votesOf_70 ?_
    refine g_iload_n (pc := 71) C dX2_votesOf_71 rfl 0 rfl ?_
    refine g_iadd (pc := 72) C dX2_votesOf_72 ?_
    exact g_iret C dX2_votesOf_73 rfl (Option.some.inj h)
  · refine g_iconst (pc := 8) C (v := (0 : Int32)) dX2_votesOf_8 (by decide) ?_
    exact g_iret C dX2_votesOf_9 rfl (Option.some.inj h)
theorem mX2_votesOf (l : Launch) (Z : Sh) {σ : Sg} {a : Nat} {v1 : Int32} {u : Int32} (h_a : IsR a) (h : fX2_votesOf σ a v1 = some u) : MI l Z layX yX2_votesOf wsX2_votesOf rX2_votesOf [.ref (ad Z a), .int v1] σ σ u :=
  MI.of (cc := cX2_votesOf) (maxL := 3) (ret := (some .int)) (by decide) rfl (Nat.le_of_ble_eq_true rfl) (fun p e s m below meth c C => kX2_votesOf_e C h_a h)

def rX2_allVotes : Room := { frames := 2, cells := 0, slots := 0, locals := 43 }
theorem uX2_allVotes_X2 : ∀ w ∈ wsX20, w ∈ wsX2_allVotes := by decide +kernel
def fX2_allVotes_l4 (σ : Sg) (a : Nat)  : Nat → Int32 → Int32 → Option (Int32)
  | 0, _, _ => none
  | n + 1, v1, v2 => if (σ a 1) ≤ v2 then some v1 else (fX2_votesOf σ a v2).bind fun t1 => fX2_allVotes_l4 σ a n (v1 + t1) (v2 + 1)
def fX2_allVotes (σ : Sg) (a : Nat) : Option (Int32) := fX2_allVotes_l4 σ a 2000 (0 : Int32) (0 : Int32)
set_option maxHeartbeats 1000000 in
set_option maxRecDepth 20000 in
theorem kX2_allVotes_l4 {p : Program} {l : Launch} {e : Env} {s : State} {m : MethodId} {args : Array Value} {below : List Frame} {meth : Method} {c : Code} {Z : Sh} (C : Cx p s m args meth c cX2_allVotes 3 wsX2_allVotes RX2 (some .int) Z layX) {σ : Sg} {a : Nat} {u : Int32} (h_a : IsR a)  : ∀ (n : Nat) (v1 : Int32) (v2 : Int32), fX2_allVotes_l4 σ a n v1 v2 = some u → G p l e rX2_allVotes s m args below meth c 3 Z layX (MQ below (QI Z layX σ u s.heap.size) args s 0 0 (pA Z layX s.heap.size)) σ 4 [(0, .ref (ad Z a)), (1, .int v1), (2, .int v2)] [] := by
  intro n
  induction n with
  | zero => intro v1 v2 h; exact absurd h (by simp [fX2_allVotes_l4])
  | succ n ih =>
    intro v1 v2 h
    rw [fX2_allVotes_l4] at h
    refine g_iload_n (pc := 4) C dX2_allVotes_4 rfl 2 rfl ?_
    refine g_aload_n (pc := 5) C dX2_allVotes_5 rfl 0 rfl ?_
    refine g_geti (pc := 6) C (Cn := RX2) (T := TX2) (N := 8) (ci := 2) (k := a) (j := 1) uX2_allVotes_X2 h_a.1 rfl (by decide) (by decide +kernel) (q := 0) rfl dX2_allVotes_6 ?_
    refine g_icmp_ge (pc := 9) C (tgt := 26) dX2_allVotes_9 (by decide) h (fun hc9 h => ?_) (fun hc9 h => ?_)
    · refine g_iload_n (pc := 26) C dX2_allVotes_26 rfl 1 rfl ?_
      exact g_iret C dX2_allVotes_27 rfl (Option.some.inj h)
    · refine g_iload_n (pc := 12) C dX2_allVotes_12 rfl 1 rfl ?_
      refine g_aload_n (pc := 13) C dX2_allVotes_13 rfl 0 rfl ?_
      refine g_iload_n (pc := 14) C dX2_allVotes_14 rfl 2 rfl ?_
      obtain ⟨t1, et1, h⟩ := bs h
      refine g_callVi (pc := 15) C (As := [.int v2]) (rest := [.int v1]) (k := a) h_a.1 (by rfl) (cwV 1 C.2.2.2.2.2.1 gX2_allVotes_X2_votesOf rfl rfl rfl (by decide +kernel) ⟨Nat.le_of_ble_eq_true rfl, Nat.le_of_ble_eq_true rfl⟩) (mX2_votesOf l Z h_a et1) rfl rfl (Nat.le_of_ble_eq_true rfl) dX2_allVotes_15 ?_
      refine g_iadd (pc := 18) C dX2_allVotes_18 ?_
      refine g_istore_n (pc := 19) C (lv2 := [(1, .int (v1 + t1)), (0, .ref (ad Z a)), (2, .int v2)]) dX2_allVotes_19 rfl (by decide) rfl ?_
      refine g_iinc (pc := 20) C (j := 2) (v := (v2 + 1)) (lv2 := [(2, .int (v2 + 1)), (1, .int (v1 + t1)), (0, .ref (ad Z a))]) dX2_allVotes_20 rfl rfl (by decide) rfl ?_
      refine g_goto (pc := 23) C (tgt := 4) dX2_allVotes_23 (by decide) ?_
      exact g_sub [2, 1, 0] rfl (ih _ _ h)
set_option maxHeartbeats 1000000 in
set_option maxRecDepth 20000 in
theorem kX2_allVotes_e {p : Program} {l : Launch} {e : Env} {s : State} {m : MethodId} {args : Array Value} {below : List Frame} {meth : Method} {c : Code} {Z : Sh} (C : Cx p s m args meth c cX2_allVotes 3 wsX2_allVotes RX2 (some .int) Z layX) {σ : Sg} {a : Nat} {u : Int32} (h_a : IsR a) (h : fX2_allVotes σ a = some u) : G p l e rX2_allVotes s m args below meth c 3 Z layX (MQ below (QI Z layX σ u s.heap.size) args s 0 0 (pA Z layX s.heap.size)) σ 0 [(0, .ref (ad Z a))] [] := by
  unfold fX2_allVotes at h
  refine g_iconst (pc := 0) C (v := (0 : Int32)) dX2_allVotes_0 (by decide) ?_
  refine g_istore_n (pc := 1) C (lv2 := [(1, .int (0 : Int32)), (0, .ref (ad Z a))]) dX2_allVotes_1 rfl (by decide) rfl ?_
  refine g_iconst (pc := 2) C (v := (0 : Int32)) dX2_allVotes_2 (by decide) ?_
  refine g_istore_n (pc := 3) C (lv2 := [(2, .int (0 : Int32)), (1, .int (0 : Int32)), (0, .ref (ad Z a))]) dX2_allVotes_3 rfl (by decide) rfl ?_
  exact g_sub [2, 1, 0] rfl (kX2_allVotes_l4 C h_a  _ _ _ h)
theorem mX2_allVotes (l : Launch) (Z : Sh) {σ : Sg} {a : Nat} {u : Int32} (h_a : IsR a) (h : fX2_allVotes σ a = some u) : MI l Z layX yX2_allVotes wsX2_allVotes rX2_allVotes [.ref (ad Z a)] σ σ u :=
  MI.of (cc := cX2_allVotes) (maxL := 3) (ret := (some .int)) (by decide) rfl (Nat.le_of_ble_eq_true rfl) (fun p e s m below meth c C => kX2_allVotes_e C h_a h)

def rX2_ownerless : Room := { frames := 0, cells := 0, slots := 0, locals := 0 }
theorem uX2_ownerless_X2 : ∀ w ∈ wsX20, w ∈ wsX2_ownerless := by decide +kernel
def fX2_ownerless_l4 (σ : Sg) (a : Nat)  : Nat → Int32 → Int32 → Option (Int32)
  | 0, _, _ => none
  | n + 1, v1, v2 => if (σ a 1) ≤ v2 then some v1 else (rd (σ (a + 5)) 6 v2).bind fun t1 => if t1 = (-4 : Int32) then fX2_ownerless_l4 σ a n (v1 ||| ((1 : Int32) <<< (v2 &&& 31))) (v2 + 1) else fX2_ownerless_l4 σ a n v1 (v2 + 1)
def fX2_ownerless (σ : Sg) (a : Nat) : Option (Int32) := fX2_ownerless_l4 σ a 2000 (0 : Int32) (0 : Int32)
set_option maxHeartbeats 1000000 in
set_option maxRecDepth 20000 in
theorem kX2_ownerless_l4 {p : Program} {l : Launch} {e : Env} {s : State} {m : MethodId} {args : Array Value} {below : List Frame} {meth : Method} {c : Code} {Z : Sh} (C : Cx p s m args meth c cX2_ownerless 3 wsX2_ownerless RX2 (some .int) Z layX) {σ : Sg} {a : Nat} {u : Int32} (h_a : IsR a)  : ∀ (n : Nat) (v1 : Int32) (v2 : Int32), fX2_ownerless_l4 σ a n v1 v2 = some u → G p l e rX2_ownerless s m args below meth c 3 Z layX (MQ below (QI Z layX σ u s.heap.size) args s 0 0 (pA Z layX s.heap.size)) σ 4 [(0, .ref (ad Z a)), (1, .int v1), (2, .int v2)] [] := by
  intro n
  induction n with
  | zero => intro v1 v2 h; exact absurd h (by simp [fX2_ownerless_l4])
  | succ n ih =>
    intro v1 v2 h
    rw [fX2_ownerless_l4] at h
    refine g_iload_n (pc := 4) C dX2_ownerless_4 rfl 2 rfl ?_
    refine g_aload_n (pc := 5) C dX2_ownerless_5 rfl 0 rfl ?_
    refine g_geti (pc := 6) C (Cn := RX2) (T := TX2) (N := 8) (ci := 2) (k := a) (j := 1) uX2_ownerless_X2 h_a.1 rfl (by decide) (by decide +kernel) (q := 0) rfl dX2_ownerless_6 ?_
    refine g_icmp_ge (pc := 9) C (tgt := 35) dX2_ownerless_9 (by decide) h (fun hc9 h => ?_) (fun hc9 h => ?_)
    · refine g_iload_n (pc := 35) C dX2_ownerless_35 rfl 1 rfl ?_
      exact g_iret C dX2_ownerless_36 rfl (Option.some.inj h)
    · refine g_aload_n (pc := 12) C dX2_ownerless_12 rfl 0 rfl ?_
      refine g_getr (pc := 13) C (Cn := RX2) (T := TX2) (N := 8) (ci := 2) (k := a) (j := 7) uX2_ownerless_X2 h_a.1 rfl (by decide) (by decide +kernel) (q := (a + 5)) rfl dX2_ownerless_13 ?_
      refine g_iload_n (pc := 16) C dX2_ownerless_16 rfl 2 rfl ?_
      obtain ⟨t1, et1, h⟩ := bs h
      refine g_iald (pc := 17) C (k := (a + 5)) (n := 6) h_a.2.2.2.2.2 et1 dX2_ownerless_17 ?_
      refine g_bipush (pc := 18) C (v := (-4 : Int32)) dX2_ownerless_18 (by decide) ?_
      refine g_icmp_ne (pc := 20) C (tgt := 29) dX2_ownerless_20 (by decide) h (fun hc20 h => ?_) (fun hc20 h => ?_)
      · refine g_iinc (pc := 29) C (j := 2) (v := (v2 + 1)) (lv2 := [(2, .int (v2 + 1)), (0, .ref (ad Z a)), (1, .int v1)]) dX2_ownerless_29 rfl rfl (by decide) rfl ?_
        refine g_goto (pc := 32) C (tgt := 4) dX2_ownerless_32 (by decide) ?_
        exact g_sub [1, 2, 0] rfl (ih _ _ h)
      · refine g_iload_n (pc := 23) C dX2_ownerless_23 rfl 1 rfl ?_
        refine g_iconst (pc := 24) C (v := (1 : Int32)) dX2_ownerless_24 (by decide) ?_
        refine g_iload_n (pc := 25) C dX2_ownerless_25 rfl 2 rfl ?_
        refine g_ishl (pc := 26) C dX2_ownerless_26 ?_
        refine g_ior (pc := 27) C dX2_ownerless_27 ?_
        refine g_istore_n (pc := 28) C (lv2 := [(1, .int (v1 ||| ((1 : Int32) <<< (v2 &&& 31)))), (0, .ref (ad Z a)), (2, .int v2)]) dX2_ownerless_28 rfl (by decide) rfl ?_
        refine g_iinc (pc := 29) C (j := 2) (v := (v2 + 1)) (lv2 := [(2, .int (v2 + 1)), (1, .int (v1 ||| ((1 : Int32) <<< (v2 &&& 31)))), (0, .ref (ad Z a))]) dX2_ownerless_29 rfl rfl (by decide) rfl ?_
        refine g_goto (pc := 32) C (tgt := 4) dX2_ownerless_32 (by decide) ?_
        exact g_sub [2, 1, 0] rfl (ih _ _ h)
set_option maxHeartbeats 1000000 in
set_option maxRecDepth 20000 in
theorem kX2_ownerless_e {p : Program} {l : Launch} {e : Env} {s : State} {m : MethodId} {args : Array Value} {below : List Frame} {meth : Method} {c : Code} {Z : Sh} (C : Cx p s m args meth c cX2_ownerless 3 wsX2_ownerless RX2 (some .int) Z layX) {σ : Sg} {a : Nat} {u : Int32} (h_a : IsR a) (h : fX2_ownerless σ a = some u) : G p l e rX2_ownerless s m args below meth c 3 Z layX (MQ below (QI Z layX σ u s.heap.size) args s 0 0 (pA Z layX s.heap.size)) σ 0 [(0, .ref (ad Z a))] [] := by
  unfold fX2_ownerless at h
  refine g_iconst (pc := 0) C (v := (0 : Int32)) dX2_ownerless_0 (by decide) ?_
  refine g_istore_n (pc := 1) C (lv2 := [(1, .int (0 : Int32)), (0, .ref (ad Z a))]) dX2_ownerless_1 rfl (by decide) rfl ?_
  refine g_iconst (pc := 2) C (v := (0 : Int32)) dX2_ownerless_2 (by decide) ?_
  refine g_istore_n (pc := 3) C (lv2 := [(2, .int (0 : Int32)), (1, .int (0 : Int32)), (0, .ref (ad Z a))]) dX2_ownerless_3 rfl (by decide) rfl ?_
  exact g_sub [2, 1, 0] rfl (kX2_ownerless_l4 C h_a  _ _ _ h)
theorem mX2_ownerless (l : Launch) (Z : Sh) {σ : Sg} {a : Nat} {u : Int32} (h_a : IsR a) (h : fX2_ownerless σ a = some u) : MI l Z layX yX2_ownerless wsX2_ownerless rX2_ownerless [.ref (ad Z a)] σ σ u :=
  MI.of (cc := cX2_ownerless) (maxL := 3) (ret := (some .int)) (by decide) rfl (Nat.le_of_ble_eq_true rfl) (fun p e s m below meth c C => kX2_ownerless_e C h_a h)

def rX2_seatless : Room := { frames := 0, cells := 0, slots := 0, locals := 0 }
theorem uX2_seatless_X2 : ∀ w ∈ wsX20, w ∈ wsX2_seatless := by decide +kernel
def fX2_seatless_l4 (σ : Sg) (a : Nat)  : Nat → Int32 → Int32 → Option (Int32)
  | 0, _, _ => none
  | n + 1, v1, v2 => if (σ a 1) ≤ v2 then some v1 else (rd (σ (a + 4)) 6 v2).bind fun t1 => if t1 = 0 then fX2_seatless_l4 σ a n (v1 ||| ((1 : Int32) <<< (v2 &&& 31))) (v2 + 1) else fX2_seatless_l4 σ a n v1 (v2 + 1)
def fX2_seatless (σ : Sg) (a : Nat) : Option (Int32) := fX2_seatless_l4 σ a 2000 (0 : Int32) (0 : Int32)
set_option maxHeartbeats 1000000 in
set_option maxRecDepth 20000 in
theorem kX2_seatless_l4 {p : Program} {l : Launch} {e : Env} {s : State} {m : MethodId} {args : Array Value} {below : List Frame} {meth : Method} {c : Code} {Z : Sh} (C : Cx p s m args meth c cX2_seatless 3 wsX2_seatless RX2 (some .int) Z layX) {σ : Sg} {a : Nat} {u : Int32} (h_a : IsR a)  : ∀ (n : Nat) (v1 : Int32) (v2 : Int32), fX2_seatless_l4 σ a n v1 v2 = some u → G p l e rX2_seatless s m args below meth c 3 Z layX (MQ below (QI Z layX σ u s.heap.size) args s 0 0 (pA Z layX s.heap.size)) σ 4 [(0, .ref (ad Z a)), (1, .int v1), (2, .int v2)] [] := by
  intro n
  induction n with
  | zero => intro v1 v2 h; exact absurd h (by simp [fX2_seatless_l4])
  | succ n ih =>
    intro v1 v2 h
    rw [fX2_seatless_l4] at h
    refine g_iload_n (pc := 4) C dX2_seatless_4 rfl 2 rfl ?_
    refine g_aload_n (pc := 5) C dX2_seatless_5 rfl 0 rfl ?_
    refine g_geti (pc := 6) C (Cn := RX2) (T := TX2) (N := 8) (ci := 2) (k := a) (j := 1) uX2_seatless_X2 h_a.1 rfl (by decide) (by decide +kernel) (q := 0) rfl dX2_seatless_6 ?_
    refine g_icmp_ge (pc := 9) C (tgt := 33) dX2_seatless_9 (by decide) h (fun hc9 h => ?_) (fun hc9 h => ?_)
    · refine g_iload_n (pc := 33) C dX2_seatless_33 rfl 1 rfl ?_
      exact g_iret C dX2_seatless_34 rfl (Option.some.inj h)
    · refine g_aload_n (pc := 12) C dX2_seatless_12 rfl 0 rfl ?_
      refine g_getr (pc := 13) C (Cn := RX2) (T := TX2) (N := 8) (ci := 2) (k := a) (j := 6) uX2_seatless_X2 h_a.1 rfl (by decide) (by decide +kernel) (q := (a + 4)) rfl dX2_seatless_13 ?_
      refine g_iload_n (pc := 16) C dX2_seatless_16 rfl 2 rfl ?_
      obtain ⟨t1, et1, h⟩ := bs h
      refine g_iald (pc := 17) C (k := (a + 4)) (n := 6) h_a.2.2.2.2.1 et1 dX2_seatless_17 ?_
      refine g_if_ne (pc := 18) C (tgt := 27) dX2_seatless_18 (by decide) h (fun hc18 h => ?_) (fun hc18 h => ?_)
      · refine g_iinc (pc := 27) C (j := 2) (v := (v2 + 1)) (lv2 := [(2, .int (v2 + 1)), (0, .ref (ad Z a)), (1, .int v1)]) dX2_seatless_27 rfl rfl (by decide) rfl ?_
        refine g_goto (pc := 30) C (tgt := 4) dX2_seatless_30 (by decide) ?_
        exact g_sub [1, 2, 0] rfl (ih _ _ h)
      · refine g_iload_n (pc := 21) C dX2_seatless_21 rfl 1 rfl ?_
        refine g_iconst (pc := 22) C (v := (1 : Int32)) dX2_seatless_22 (by decide) ?_
        refine g_iload_n (pc := 23) C dX2_seatless_23 rfl 2 rfl ?_
        refine g_ishl (pc := 24) C dX2_seatless_24 ?_
        refine g_ior (pc := 25) C dX2_seatless_25 ?_
        refine g_istore_n (pc := 26) C (lv2 := [(1, .int (v1 ||| ((1 : Int32) <<< (v2 &&& 31)))), (0, .ref (ad Z a)), (2, .int v2)]) dX2_seatless_26 rfl (by decide) rfl ?_
        refine g_iinc (pc := 27) C (j := 2) (v := (v2 + 1)) (lv2 := [(2, .int (v2 + 1)), (1, .int (v1 ||| ((1 : Int32) <<< (v2 &&& 31)))), (0, .ref (ad Z a))]) dX2_seatless_27 rfl rfl (by decide) rfl ?_
        refine g_goto (pc := 30) C (tgt := 4) dX2_seatless_30 (by decide) ?_
        exact g_sub [2, 1, 0] rfl (ih _ _ h)
set_option maxHeartbeats 1000000 in
set_option maxRecDepth 20000 in
theorem kX2_seatless_e {p : Program} {l : Launch} {e : Env} {s : State} {m : MethodId} {args : Array Value} {below : List Frame} {meth : Method} {c : Code} {Z : Sh} (C : Cx p s m args meth c cX2_seatless 3 wsX2_seatless RX2 (some .int) Z layX) {σ : Sg} {a : Nat} {u : Int32} (h_a : IsR a) (h : fX2_seatless σ a = some u) : G p l e rX2_seatless s m args below meth c 3 Z layX (MQ below (QI Z layX σ u s.heap.size) args s 0 0 (pA Z layX s.heap.size)) σ 0 [(0, .ref (ad Z a))] [] := by
  unfold fX2_seatless at h
  refine g_iconst (pc := 0) C (v := (0 : Int32)) dX2_seatless_0 (by decide) ?_
  refine g_istore_n (pc := 1) C (lv2 := [(1, .int (0 : Int32)), (0, .ref (ad Z a))]) dX2_seatless_1 rfl (by decide) rfl ?_
  refine g_iconst (pc := 2) C (v := (0 : Int32)) dX2_seatless_2 (by decide) ?_
  refine g_istore_n (pc := 3) C (lv2 := [(2, .int (0 : Int32)), (1, .int (0 : Int32)), (0, .ref (ad Z a))]) dX2_seatless_3 rfl (by decide) rfl ?_
  exact g_sub [2, 1, 0] rfl (kX2_seatless_l4 C h_a  _ _ _ h)
theorem mX2_seatless (l : Launch) (Z : Sh) {σ : Sg} {a : Nat} {u : Int32} (h_a : IsR a) (h : fX2_seatless σ a = some u) : MI l Z layX yX2_seatless wsX2_seatless rX2_seatless [.ref (ad Z a)] σ σ u :=
  MI.of (cc := cX2_seatless) (maxL := 3) (ret := (some .int)) (by decide) rfl (Nat.le_of_ble_eq_true rfl) (fun p e s m below meth c C => kX2_seatless_e C h_a h)

def rX2_costOf : Room := { frames := 2, cells := 0, slots := 0, locals := 43 }
theorem uX2_costOf_X2 : ∀ w ∈ wsX20, w ∈ wsX2_costOf := by decide +kernel
def fX2_costOf (σ : Sg) (a : Nat) (v1 : Int32) : Option (Int32) := (fX2_votesOf σ a v1).bind fun t1 => some ((σ a 2) * t1)
set_option maxHeartbeats 1000000 in
set_option maxRecDepth 20000 in
theorem kX2_costOf_e {p : Program} {l : Launch} {e : Env} {s : State} {m : MethodId} {args : Array Value} {below : List Frame} {meth : Method} {c : Code} {Z : Sh} (C : Cx p s m args meth c cX2_costOf 2 wsX2_costOf RX2 (some .int) Z layX) {σ : Sg} {a : Nat} {v1 : Int32} {u : Int32} (h_a : IsR a) (h : fX2_costOf σ a v1 = some u) : G p l e rX2_costOf s m args below meth c 2 Z layX (MQ below (QI Z layX σ u s.heap.size) args s 0 0 (pA Z layX s.heap.size)) σ 0 [(0, .ref (ad Z a)), (1, .int v1)] [] := by
  unfold fX2_costOf at h
  refine g_aload_n (pc := 0) C dX2_costOf_0 rfl 0 rfl ?_
  refine g_geti (pc := 1) C (Cn := RX2) (T := TX2) (N := 8) (ci := 2) (k := a) (j := 2) uX2_costOf_X2 h_a.1 rfl (by decide) (by decide +kernel) (q := 0) rfl dX2_costOf_1 ?_
  refine g_aload_n (pc := 4) C dX2_costOf_4 rfl 0 rfl ?_
  refine g_iload_n (pc := 5) C dX2_costOf_5 rfl 1 rfl ?_
  obtain ⟨t1, et1, h⟩ := bs h
  refine g_callVi (pc := 6) C (As := [.int v1]) (rest := [.int (σ a 2)]) (k := a) h_a.1 (by rfl) (cwV 1 C.2.2.2.2.2.1 gX2_costOf_X2_votesOf rfl rfl rfl (by decide +kernel) ⟨Nat.le_of_ble_eq_true rfl, Nat.le_of_ble_eq_true rfl⟩) (mX2_votesOf l Z h_a et1) rfl rfl (Nat.le_of_ble_eq_true rfl) dX2_costOf_6 ?_
  refine g_imul (pc := 9) C dX2_costOf_9 ?_
  exact g_iret C dX2_costOf_10 rfl (Option.some.inj h)
theorem mX2_costOf (l : Launch) (Z : Sh) {σ : Sg} {a : Nat} {v1 : Int32} {u : Int32} (h_a : IsR a) (h : fX2_costOf σ a v1 = some u) : MI l Z layX yX2_costOf wsX2_costOf rX2_costOf [.ref (ad Z a), .int v1] σ σ u :=
  MI.of (cc := cX2_costOf) (maxL := 2) (ret := (some .int)) (by decide) rfl (Nat.le_of_ble_eq_true rfl) (fun p e s m below meth c C => kX2_costOf_e C h_a h)

def rX2_costOfAll : Room := { frames := 3, cells := 0, slots := 0, locals := 64 }
theorem uX2_costOfAll_X2 : ∀ w ∈ wsX20, w ∈ wsX2_costOfAll := by decide +kernel
def fX2_costOfAll_l4 (σ : Sg) (a : Nat) (v1 : Int32)  : Nat → Int32 → Int32 → Option (Int32)
  | 0, _, _ => none
  | n + 1, v2, v3 => if (σ a 1) ≤ v3 then some v2 else (fX7_holds v1 v3).bind fun t1 => if t1 = 0 then fX2_costOfAll_l4 σ a v1 n v2 (v3 + 1) else (fX2_costOf σ a v3).bind fun t2 => fX2_costOfAll_l4 σ a v1 n (v2 + t2) (v3 + 1)
def fX2_costOfAll (σ : Sg) (a : Nat) (v1 : Int32) : Option (Int32) := fX2_costOfAll_l4 σ a v1 2000 (0 : Int32) (0 : Int32)
set_option maxHeartbeats 1000000 in
set_option maxRecDepth 20000 in
theorem kX2_costOfAll_l4 {p : Program} {l : Launch} {e : Env} {s : State} {m : MethodId} {args : Array Value} {below : List Frame} {meth : Method} {c : Code} {Z : Sh} (C : Cx p s m args meth c cX2_costOfAll 4 wsX2_costOfAll RX2 (some .int) Z layX) {σ : Sg} {a : Nat} {v1 : Int32} {u : Int32} (h_a : IsR a)  : ∀ (n : Nat) (v2 : Int32) (v3 : Int32), fX2_costOfAll_l4 σ a v1 n v2 v3 = some u → G p l e rX2_costOfAll s m args below meth c 4 Z layX (MQ below (QI Z layX σ u s.heap.size) args s 0 0 (pA Z layX s.heap.size)) σ 4 [(0, .ref (ad Z a)), (1, .int v1), (2, .int v2), (3, .int v3)] [] := by
  intro n
  induction n with
  | zero => intro v2 v3 h; exact absurd h (by simp [fX2_costOfAll_l4])
  | succ n ih =>
    intro v2 v3 h
    rw [fX2_costOfAll_l4] at h
    refine g_iload_n (pc := 4) C dX2_costOfAll_4 rfl 3 rfl ?_
    refine g_aload_n (pc := 5) C dX2_costOfAll_5 rfl 0 rfl ?_
    refine g_geti (pc := 6) C (Cn := RX2) (T := TX2) (N := 8) (ci := 2) (k := a) (j := 1) uX2_costOfAll_X2 h_a.1 rfl (by decide) (by decide +kernel) (q := 0) rfl dX2_costOfAll_6 ?_
    refine g_icmp_ge (pc := 9) C (tgt := 34) dX2_costOfAll_9 (by decide) h (fun hc9 h => ?_) (fun hc9 h => ?_)
    · refine g_iload_n (pc := 34) C dX2_costOfAll_34 rfl 2 rfl ?_
      exact g_iret C dX2_costOfAll_35 rfl (Option.some.inj h)
    · refine g_iload_n (pc := 12) C dX2_costOfAll_12 rfl 1 rfl ?_
      refine g_iload_n (pc := 13) C dX2_costOfAll_13 rfl 3 rfl ?_
      obtain ⟨t1, et1, h⟩ := bs h
      refine g_callSNi (pc := 14) C (As := [.int v1, .int v3]) (rest := []) ⟨va_cnB (y := yX7_holds) 2 C.2.2.2.2.2.1 gX2_costOfAll_X7_holds_n45 rfl rfl rfl (C.2.2.2.2.2.2.2.2.1 (.methodLinkNest "MoundVotes$Realm" 45 ⟨"MoundVotes", "holds", "(II)Z"⟩ "MoundVotes") (by decide +kernel)) (C.2.2.2.2.2.1 (.initialized RX7) (by decide +kernel)) (by decide +kernel) ⟨Nat.le_of_ble_eq_true rfl, Nat.le_of_ble_eq_true rfl⟩, C.2.2.2.2.2.1 (.static yX7_holds) (by decide +kernel), trivial⟩ (mX7_holds l Z  et1) rfl rfl (Nat.le_of_ble_eq_true rfl) dX2_costOfAll_14 ?_
      refine g_if_eq (pc := 17) C (tgt := 28) dX2_costOfAll_17 (by decide) h (fun hc17 h => ?_) (fun hc17 h => ?_)
      · refine g_iinc (pc := 28) C (j := 3) (v := (v3 + 1)) (lv2 := [(3, .int (v3 + 1)), (0, .ref (ad Z a)), (1, .int v1), (2, .int v2)]) dX2_costOfAll_28 rfl rfl (by decide) rfl ?_
        refine g_goto (pc := 31) C (tgt := 4) dX2_costOfAll_31 (by decide) ?_
        exact g_sub [1, 2, 3, 0] rfl (ih _ _ h)
      · refine g_iload_n (pc := 20) C dX2_costOfAll_20 rfl 2 rfl ?_
        refine g_aload_n (pc := 21) C dX2_costOfAll_21 rfl 0 rfl ?_
        refine g_iload_n (pc := 22) C dX2_costOfAll_22 rfl 3 rfl ?_
        obtain ⟨t2, et2, h⟩ := bs h
        refine g_callVi (pc := 23) C (As := [.int v3]) (rest := [.int v2]) (k := a) h_a.1 (by rfl) (cwV 1 C.2.2.2.2.2.1 gX2_costOfAll_X2_costOf rfl rfl rfl (by decide +kernel) ⟨Nat.le_of_ble_eq_true rfl, Nat.le_of_ble_eq_true rfl⟩) (mX2_costOf l Z h_a et2) rfl rfl (Nat.le_of_ble_eq_true rfl) dX2_costOfAll_23 ?_
        refine g_iadd (pc := 26) C dX2_costOfAll_26 ?_
        refine g_istore_n (pc := 27) C (lv2 := [(2, .int (v2 + t2)), (0, .ref (ad Z a)), (1, .int v1), (3, .int v3)]) dX2_costOfAll_27 rfl (by decide) rfl ?_
        refine g_iinc (pc := 28) C (j := 3) (v := (v3 + 1)) (lv2 := [(3, .int (v3 + 1)), (2, .int (v2 + t2)), (0, .ref (ad Z a)), (1, .int v1)]) dX2_costOfAll_28 rfl rfl (by decide) rfl ?_
        refine g_goto (pc := 31) C (tgt := 4) dX2_costOfAll_31 (by decide) ?_
        exact g_sub [2, 3, 1, 0] rfl (ih _ _ h)
set_option maxHeartbeats 1000000 in
set_option maxRecDepth 20000 in
theorem kX2_costOfAll_e {p : Program} {l : Launch} {e : Env} {s : State} {m : MethodId} {args : Array Value} {below : List Frame} {meth : Method} {c : Code} {Z : Sh} (C : Cx p s m args meth c cX2_costOfAll 4 wsX2_costOfAll RX2 (some .int) Z layX) {σ : Sg} {a : Nat} {v1 : Int32} {u : Int32} (h_a : IsR a) (h : fX2_costOfAll σ a v1 = some u) : G p l e rX2_costOfAll s m args below meth c 4 Z layX (MQ below (QI Z layX σ u s.heap.size) args s 0 0 (pA Z layX s.heap.size)) σ 0 [(0, .ref (ad Z a)), (1, .int v1)] [] := by
  unfold fX2_costOfAll at h
  refine g_iconst (pc := 0) C (v := (0 : Int32)) dX2_costOfAll_0 (by decide) ?_
  refine g_istore_n (pc := 1) C (lv2 := [(2, .int (0 : Int32)), (0, .ref (ad Z a)), (1, .int v1)]) dX2_costOfAll_1 rfl (by decide) rfl ?_
  refine g_iconst (pc := 2) C (v := (0 : Int32)) dX2_costOfAll_2 (by decide) ?_
  refine g_istore_n (pc := 3) C (lv2 := [(3, .int (0 : Int32)), (2, .int (0 : Int32)), (0, .ref (ad Z a)), (1, .int v1)]) dX2_costOfAll_3 rfl (by decide) rfl ?_
  exact g_sub [2, 3, 1, 0] rfl (kX2_costOfAll_l4 C h_a  _ _ _ h)
theorem mX2_costOfAll (l : Launch) (Z : Sh) {σ : Sg} {a : Nat} {v1 : Int32} {u : Int32} (h_a : IsR a) (h : fX2_costOfAll σ a v1 = some u) : MI l Z layX yX2_costOfAll wsX2_costOfAll rX2_costOfAll [.ref (ad Z a), .int v1] σ σ u :=
  MI.of (cc := cX2_costOfAll) (maxL := 4) (ret := (some .int)) (by decide) rfl (Nat.le_of_ble_eq_true rfl) (fun p e s m below meth c C => kX2_costOfAll_e C h_a h)
