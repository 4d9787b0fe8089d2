def rX7_ownersThatCarry : Room := { frames := 3, cells := 0, slots := 0, locals := 65 }
theorem uX7_ownersThatCarry_X2 : ∀ w ∈ wsX20, w ∈ wsX7_ownersThatCarry := by decide +kernel
theorem uX7_ownersThatCarry_X7 : ∀ w ∈ wsX70, w ∈ wsX7_ownersThatCarry := by decide +kernel
def fX7_ownersThatCarry_l17 (v1 : Int32) (v2 : Int32) (v3 : Int32)  : Nat → Sg → Int32 → Int32 → Option (Sg × Int32)
  | 0, _, _, _ => none
  | n + 1, σ, v4, v5 => if (4 : Int32) < v5 then some (σ, v4) else (fX7_holds v2 v5).bind fun t1 => if t1 = 0 then fX7_ownersThatCarry_l17 v1 v2 v3 n σ v4 (v5 + 1) else (fX7_candidate v5).bind fun t2 => (wr σ 12 6 v1 t2).bind fun σ3 => (fX2_carries σ3 7 v3).bind fun t4 => if t4 = 0 then fX7_ownersThatCarry_l17 v1 v2 v3 n σ3 v4 (v5 + 1) else fX7_ownersThatCarry_l17 v1 v2 v3 n σ3 (v4 + 1) (v5 + 1)
def fX7_ownersThatCarry (σ : Sg) (v1 : Int32) (v2 : Int32) (v3 : Int32) : Option (Sg × Int32) := (fX2_copyFrom σ 7 1).bind fun σ1 => fX7_ownersThatCarry_l17 v1 v2 v3 2000 σ1 (0 : Int32) (0 : Int32)
set_option maxHeartbeats 1000000 in
set_option maxRecDepth 20000 in
theorem kX7_ownersThatCarry_l17 {p : Program} {l : Launch} {e : Env} {s : State} {m : MethodId} {args : Array Value} {below : List Frame} {meth : Method} {c : Code} {Z : Sh} (C : Cx p s m args meth c cX7_ownersThatCarry 6 wsX7_ownersThatCarry RX7 (some .int) Z layX) {v1 : Int32} {v2 : Int32} {v3 : Int32} {u : Sg × Int32}   : ∀ (n : Nat) (σ : Sg) (v4 : Int32) (v5 : Int32), fX7_ownersThatCarry_l17 v1 v2 v3 n σ v4 v5 = some u → G p l e rX7_ownersThatCarry s m args below meth c 6 Z layX (MQ below (QI Z layX u.1 u.2 s.heap.size) args s 0 0 (pA Z layX s.heap.size)) σ 17 [(0, .ref (ad Z 0)), (1, .int v1), (2, .int v2), (3, .int v3), (4, .int v4), (5, .int v5)] [] := by
  intro n
  induction n with
  | zero => intro σ v4 v5 h; exact absurd h (by simp [fX7_ownersThatCarry_l17])
  | succ n ih =>
    intro σ v4 v5 h
    rw [fX7_ownersThatCarry_l17] at h
    refine g_iload (pc := 17) C dX7_ownersThatCarry_17 5 rfl ?_
    refine g_iconst (pc := 19) C (v := (4 : Int32)) dX7_ownersThatCarry_19 (by decide) ?_
    refine g_icmp_gt (pc := 20) C (tgt := 66) dX7_ownersThatCarry_20 (by decide) h (fun hc20 h => ?_) (fun hc20 h => ?_)
    · refine g_iload (pc := 66) C dX7_ownersThatCarry_66 4 rfl ?_
      exact g_iret C dX7_ownersThatCarry_68 (pfst h) (psnd h)
    · refine g_iload_n (pc := 23) C dX7_ownersThatCarry_23 rfl 2 rfl ?_
      refine g_iload (pc := 24) C dX7_ownersThatCarry_24 5 rfl ?_
      obtain ⟨t1, et1, h⟩ := bs h
      refine g_callSi (pc := 26) C (As := [.int v2, .int v5]) (rest := []) (va_cwS 2 C.2.2.2.2.2.1 gX7_ownersThatCarry_X7_holds rfl rfl rfl (by decide +kernel) ⟨Nat.le_of_ble_eq_true rfl, Nat.le_of_ble_eq_true rfl⟩) (mX7_holds l Z  et1) rfl rfl (Nat.le_of_ble_eq_true rfl) dX7_ownersThatCarry_26 ?_
      refine g_if_eq (pc := 29) C (tgt := 60) dX7_ownersThatCarry_29 (by decide) h (fun hc29 h => ?_) (fun hc29 h => ?_)
      · refine g_iinc (pc := 60) C (j := 5) (v := (v5 + 1)) (lv2 := [(5, .int (v5 + 1)), (0, .ref (ad Z 0)), (1, .int v1), (2, .int v2), (3, .int v3), (4, .int v4)]) dX7_ownersThatCarry_60 rfl rfl (by decide) rfl ?_
        refine g_goto (pc := 63) C (tgt := 17) dX7_ownersThatCarry_63 (by decide) ?_
        exact g_sub [1, 2, 3, 4, 5, 0] rfl (ih _ _ _ h)
      · refine g_aload_n (pc := 32) C dX7_ownersThatCarry_32 rfl 0 rfl ?_
        refine g_getr (pc := 33) C (Cn := RX7) (T := TX7) (N := 11) (ci := 7) (k := 0) (j := 1) uX7_ownersThatCarry_X7 (by rfl) rfl (by decide) (by decide +kernel) (q := 7) rfl dX7_ownersThatCarry_33 ?_
        refine g_getrN (pc := 36) C (host := "MoundVotes") (Cn := RX2) (T := TX2) (N := 8) (ci := 2) (k := 7) (j := 7) uX7_ownersThatCarry_X2 (by rfl) rfl (by decide) (by decide +kernel) (q := 12) rfl dX7_ownersThatCarry_36 ?_
        refine g_iload_n (pc := 39) C dX7_ownersThatCarry_39 rfl 1 rfl ?_
        refine g_iload (pc := 40) C dX7_ownersThatCarry_40 5 rfl ?_
        obtain ⟨t2, et2, h⟩ := bs h
        refine g_callSi (pc := 42) C (As := [.int v5]) (rest := [.int v1, .ref (ad Z 12)]) (va_cwS 1 C.2.2.2.2.2.1 gX7_ownersThatCarry_X7_candidate rfl rfl rfl (by decide +kernel) ⟨Nat.le_of_ble_eq_true rfl, Nat.le_of_ble_eq_true rfl⟩) (mX7_candidate l Z  et2) rfl rfl (Nat.le_of_ble_eq_true rfl) dX7_ownersThatCarry_42 ?_
        obtain ⟨σ3, eσ3, h⟩ := bs h
        refine g_iast (pc := 45) C (k := 12) (n := 6) (by rfl) eσ3 dX7_ownersThatCarry_45 ?_
        refine g_aload_n (pc := 46) C dX7_ownersThatCarry_46 rfl 0 rfl ?_
        refine g_getr (pc := 47) C (Cn := RX7) (T := TX7) (N := 11) (ci := 7) (k := 0) (j := 1) uX7_ownersThatCarry_X7 (by rfl) rfl (by decide) (by decide +kernel) (q := 7) rfl dX7_ownersThatCarry_47 ?_
        refine g_iload_n (pc := 50) C dX7_ownersThatCarry_50 rfl 3 rfl ?_
        obtain ⟨t4, et4, h⟩ := bs h
        refine g_callVi (pc := 51) C (As := [.int v3]) (rest := []) (k := 7) (by rfl) (by rfl) (cwV 1 C.2.2.2.2.2.1 gX7_ownersThatCarry_X2_carries rfl rfl rfl (by decide +kernel) ⟨Nat.le_of_ble_eq_true rfl, Nat.le_of_ble_eq_true rfl⟩) (mX2_carries l Z isR7 et4) rfl rfl (Nat.le_of_ble_eq_true rfl) dX7_ownersThatCarry_51 ?_
        refine g_if_eq (pc := 54) C (tgt := 60) dX7_ownersThatCarry_54 (by decide) h (fun hc54 h => ?_) (fun hc54 h => ?_)
        · refine g_iinc (pc := 60) C (j := 5) (v := (v5 + 1)) (lv2 := [(5, .int (v5 + 1)), (0, .ref (ad Z 0)), (1, .int v1), (2, .int v2), (3, .int v3), (4, .int v4)]) dX7_ownersThatCarry_60 rfl rfl (by decide) rfl ?_
          refine g_goto (pc := 63) C (tgt := 17) dX7_ownersThatCarry_63 (by decide) ?_
          exact g_sub [1, 2, 3, 4, 5, 0] rfl (ih _ _ _ h)
        · refine g_iinc (pc := 57) C (j := 4) (v := (v4 + 1)) (lv2 := [(4, .int (v4 + 1)), (0, .ref (ad Z 0)), (1, .int v1), (2, .int v2), (3, .int v3), (5, .int v5)]) dX7_ownersThatCarry_57 rfl rfl (by decide) rfl ?_
          refine g_iinc (pc := 60) C (j := 5) (v := (v5 + 1)) (lv2 := [(5, .int (v5 + 1)), (4, .int (v4 + 1)), (0, .ref (ad Z 0)), (1, .int v1), (2, .int v2), (3, .int v3)]) dX7_ownersThatCarry_60 rfl rfl (by decide) rfl ?_
          refine g_goto (pc := 63) C (tgt := 17) dX7_ownersThatCarry_63 (by decide) ?_
          exact g_sub [2, 3, 4, 5, 1, 0] rfl (ih _ _ _ h)
set_option maxHeartbeats 1000000 in
set_option maxRecDepth 20000 in
theorem kX7_ownersThatCarry_e {p : Program} {l : Launch} {e : Env} {s : State} {m : MethodId} {args : Array Value} {below : List Frame} {meth : Method} {c : Code} {Z : Sh} (C : Cx p s m args meth c cX7_ownersThatCarry 6 wsX7_ownersThatCarry RX7 (some .int) Z layX) {σ : Sg} {v1 : Int32} {v2 : Int32} {v3 : Int32} {u : Sg × Int32}  (h : fX7_ownersThatCarry σ v1 v2 v3 = some u) : G p l e rX7_ownersThatCarry s m args below meth c 6 Z layX (MQ below (QI Z layX u.1 u.2 s.heap.size) args s 0 0 (pA Z layX s.heap.size)) σ 0 [(0, .ref (ad Z 0)), (1, .int v1), (2, .int v2), (3, .int v3)] [] := by
  unfold fX7_ownersThatCarry at h
  refine g_aload_n (pc := 0) C dX7_ownersThatCarry_0 rfl 0 rfl ?_
  refine g_getr (pc := 1) C (Cn := RX7) (T := TX7) (N := 11) (ci := 7) (k := 0) (j := 1) uX7_ownersThatCarry_X7 (by rfl) rfl (by decide) (by decide +kernel) (q := 7) rfl dX7_ownersThatCarry_1 ?_
  refine g_aload_n (pc := 4) C dX7_ownersThatCarry_4 rfl 0 rfl ?_
  refine g_getr (pc := 5) C (Cn := RX7) (T := TX7) (N := 11) (ci := 7) (k := 0) (j := 0) uX7_ownersThatCarry_X7 (by rfl) rfl (by decide) (by decide +kernel) (q := 1) rfl dX7_ownersThatCarry_5 ?_
  obtain ⟨σ1, eσ1, h⟩ := bs h
  refine g_callVv (pc := 8) C (As := [.ref (ad Z 1)]) (rest := []) (k := 7) (by rfl) (by rfl) (cwV 1 C.2.2.2.2.2.1 gX7_ownersThatCarry_X2_copyFrom rfl rfl rfl (by decide +kernel) ⟨Nat.le_of_ble_eq_true rfl, Nat.le_of_ble_eq_true rfl⟩) (mX2_copyFrom l Z isR7 isR1 eσ1) rfl rfl (Nat.le_of_ble_eq_true rfl) dX7_ownersThatCarry_8 ?_
  refine g_iconst (pc := 11) C (v := (0 : Int32)) dX7_ownersThatCarry_11 (by decide) ?_
  refine g_istore (pc := 12) C (lv2 := [(4, .int (0 : Int32)), (0, .ref (ad Z 0)), (1, .int v1), (2, .int v2), (3, .int v3)]) dX7_ownersThatCarry_12 (by decide) rfl ?_
  refine g_iconst (pc := 14) C (v := (0 : Int32)) dX7_ownersThatCarry_14 (by decide) ?_
  refine g_istore (pc := 15) C (lv2 := [(5, .int (0 : Int32)), (4, .int (0 : Int32)), (0, .ref (ad Z 0)), (1, .int v1), (2, .int v2), (3, .int v3)]) dX7_ownersThatCarry_15 (by decide) rfl ?_
  exact g_sub [2, 3, 4, 5, 1, 0] rfl (kX7_ownersThatCarry_l17 C   _ _ _ _ h)
theorem mX7_ownersThatCarry (l : Launch) (Z : Sh) {σ : Sg} {v1 : Int32} {v2 : Int32} {v3 : Int32} {u : Sg × Int32}  (h : fX7_ownersThatCarry σ v1 v2 v3 = some u) : MI l Z layX yX7_ownersThatCarry wsX7_ownersThatCarry rX7_ownersThatCarry [.ref (ad Z 0), .int v1, .int v2, .int v3] σ u.1 u.2 :=
  MI.of (cc := cX7_ownersThatCarry) (maxL := 6) (ret := (some .int)) (by decide) rfl (Nat.le_of_ble_eq_true rfl) (fun p e s m below meth c C => kX7_ownersThatCarry_e C  h)

def rX7_ask : Room := { frames := 5, cells := 0, slots := 0, locals := 110 }
theorem uX7_ask_X7 : ∀ w ∈ wsX70, w ∈ wsX7_ask := by decide +kernel
def fX7_ask_l45 (v1 : Int32) (v2 : Int32)  : Nat → Sg → Int32 → Int32 → Int32 → Int32 → Int32 → Option (Sg × Int32)
  | 0, _, _, _, _, _, _ => none
  | n + 1, σ, v3, v4, v5, v6, v7 => (fX2_everyLord σ 1).bind fun t1 => if t1 < v7 then if v6 = (-4 : Int32) then some (σ, v6) else if v2 = 0 then some (σ, v6) else some (σ, v5) else (fX7_ownersThatCarry σ v1 v3 v7).bind fun u2 => if v5 ≤ (imax u2.2 (v4 - u2.2)) then fX7_ask_l45 v1 v2 n u2.1 v3 v4 v5 v6 (v7 + 1) else fX7_ask_l45 v1 v2 n u2.1 v3 v4 (imax u2.2 (v4 - u2.2)) v7 (v7 + 1)
def fX7_ask (σ : Sg) (v1 : Int32) (v2 : Int32) : Option (Sg × Int32) := (fX2_hasBorough σ 1 v1).bind fun t1 => if t1 = 0 then some (σ, (-1 : Int32)) else (fX7_within v2 (0 : Int32) (1 : Int32)).bind fun t2 => if t2 = 0 then some (σ, (-1 : Int32)) else (fX7_possibleOwners σ v1).bind fun u3 => (fJ6_bitCount_0f7a4 u3.2).bind fun t4 => fX7_ask_l45 v1 v2 2000 u3.1 u3.2 t4 t4 (-4 : Int32) (1 : Int32)
set_option maxHeartbeats 1000000 in
set_option maxRecDepth 20000 in
theorem kX7_ask_l45 {p : Program} {l : Launch} {e : Env} {s : State} {m : MethodId} {args : Array Value} {below : List Frame} {meth : Method} {c : Code} {Z : Sh} (C : Cx p s m args meth c cX7_ask 10 wsX7_ask RX7 (some .int) Z layX) {v1 : Int32} {v2 : Int32} {u : Sg × Int32}   : ∀ (n : Nat) (σ : Sg) (v3 : Int32) (v4 : Int32) (v5 : Int32) (v6 : Int32) (v7 : Int32), fX7_ask_l45 v1 v2 n σ v3 v4 v5 v6 v7 = some u → G p l e rX7_ask s m args below meth c 10 Z layX (MQ below (QI Z layX u.1 u.2 s.heap.size) args s 0 0 (pA Z layX s.heap.size)) σ 45 [(0, .ref (ad Z 0)), (1, .int v1), (2, .int v2), (3, .int v3), (4, .int v4), (5, .int v5), (6, .int v6), (7, .int v7)] [] := by
  intro n
  induction n with
  | zero => intro σ v3 v4 v5 v6 v7 h; exact absurd h (by simp [fX7_ask_l45])
  | succ n ih =>
    intro σ v3 v4 v5 v6 v7 h
    rw [fX7_ask_l45] at h
    refine g_iload (pc := 45) C dX7_ask_45 7 rfl ?_
    refine g_aload_n (pc := 47) C dX7_ask_47 rfl 0 rfl ?_
    refine g_getr (pc := 48) C (Cn := RX7) (T := TX7) (N := 11) (ci := 7) (k := 0) (j := 0) uX7_ask_X7 (by rfl) rfl (by decide) (by decide +kernel) (q := 1) rfl dX7_ask_48 ?_
    obtain ⟨t1, et1, h⟩ := bs h
    refine g_callVi (pc := 51) C (As := []) (rest := [.int v7]) (k := 1) (by rfl) (by rfl) (cwV 0 C.2.2.2.2.2.1 gX7_ask_X2_everyLord rfl rfl rfl (by decide +kernel) ⟨Nat.le_of_ble_eq_true rfl, Nat.le_of_ble_eq_true rfl⟩) (mX2_everyLord l Z isR1 et1) rfl rfl (Nat.le_of_ble_eq_true rfl) dX7_ask_51 ?_
    refine g_icmp_gt (pc := 54) C (tgt := 100) dX7_ask_54 (by decide) h (fun hc54 h => ?_) (fun hc54 h => ?_)
    · refine g_iload (pc := 100) C dX7_ask_100 6 rfl ?_
      refine g_bipush (pc := 102) C (v := (-4 : Int32)) dX7_ask_102 (by decide) ?_
      refine g_icmp_eq (pc := 104) C (tgt := 111) dX7_ask_104 (by decide) h (fun hc104 h => ?_) (fun hc104 h => ?_)
      · refine g_iload (pc := 111) C dX7_ask_111 6 rfl ?_
        refine g_goto (pc := 113) C (tgt := 118) dX7_ask_113 (by decide) ?_
        exact g_iret C dX7_ask_118 (pfst h) (psnd h)
      · refine g_iload_n (pc := 107) C dX7_ask_107 rfl 2 rfl ?_
        refine g_if_ne (pc := 108) C (tgt := 116) dX7_ask_108 (by decide) h (fun hc108 h => ?_) (fun hc108 h => ?_)
        · refine g_iload (pc := 116) C dX7_ask_116 5 rfl ?_
          exact g_iret C dX7_ask_118 (pfst h) (psnd h)
        · refine g_iload (pc := 111) C dX7_ask_111 6 rfl ?_
          refine g_goto (pc := 113) C (tgt := 118) dX7_ask_113 (by decide) ?_
          exact g_iret C dX7_ask_118 (pfst h) (psnd h)
    · refine g_aload_n (pc := 57) C dX7_ask_57 rfl 0 rfl ?_
      refine g_iload_n (pc := 58) C dX7_ask_58 rfl 1 rfl ?_
      refine g_iload_n (pc := 59) C dX7_ask_59 rfl 3 rfl ?_
      refine g_iload (pc := 60) C dX7_ask_60 7 rfl ?_
      obtain ⟨u2, eu2, h⟩ := bs h
      refine g_callVi (pc := 62) C (As := [.int v1, .int v3, .int v7]) (rest := []) (k := 0) (by rfl) (by rfl) (cwV 3 C.2.2.2.2.2.1 gX7_ask_X7_ownersThatCarry rfl rfl rfl (by decide +kernel) ⟨Nat.le_of_ble_eq_true rfl, Nat.le_of_ble_eq_true rfl⟩) (mX7_ownersThatCarry l Z  eu2) rfl rfl (Nat.le_of_ble_eq_true rfl) dX7_ask_62 ?_
      refine g_istore (pc := 65) C (lv2 := [(8, .int u2.2), (0, .ref (ad Z 0)), (1, .int v1), (2, .int v2), (3, .int v3), (4, .int v4), (5, .int v5), (6, .int v6), (7, .int v7)]) dX7_ask_65 (by decide) rfl ?_
      refine g_iload (pc := 67) C dX7_ask_67 0 rfl ?_
      refine g_iload (pc := 69) C dX7_ask_69 5 rfl ?_
      refine g_iload (pc := 71) C dX7_ask_71 0 rfl ?_
      refine g_isub (pc := 73) C dX7_ask_73 ?_
      refine g_mmax (pc := 74) C (by decide +kernel) (by decide +kernel) (by decide +kernel) (by decide +kernel) (Nat.le_of_ble_eq_true rfl) (Nat.le_of_ble_eq_true rfl) (Nat.le_of_ble_eq_true rfl) dX7_ask_74 ?_
      refine g_istore (pc := 77) C (lv2 := [(9, .int (imax u2.2 (v4 - u2.2))), (8, .int u2.2), (0, .ref (ad Z 0)), (1, .int v1), (2, .int v2), (3, .int v3), (4, .int v4), (5, .int v5), (6, .int v6), (7, .int v7)]) dX7_ask_77 (by decide) rfl ?_
      refine g_iload (pc := 79) C dX7_ask_79 0 rfl ?_
      refine g_iload (pc := 81) C dX7_ask_81 7 rfl ?_
      refine g_icmp_ge (pc := 83) C (tgt := 94) dX7_ask_83 (by decide) h (fun hc83 h => ?_) (fun hc83 h => ?_)
      · refine g_iinc (pc := 94) C (j := 9) (v := (v7 + 1)) (lv2 := [(7, .int (v7 + 1)), (9, .int (imax u2.2 (v4 - u2.2))), (8, .int u2.2), (0, .ref (ad Z 0)), (1, .int v1), (2, .int v2), (3, .int v3), (4, .int v4), (5, .int v5), (6, .int v6)]) dX7_ask_94 rfl rfl (by decide) rfl ?_
        refine g_goto (pc := 97) C (tgt := 45) dX7_ask_97 (by decide) ?_
        exact g_sub [3, 4, 5, 6, 7, 8, 9, 0] rfl (ih _ _ _ _ _ _ h)
      · refine g_iload (pc := 86) C dX7_ask_86 0 rfl ?_
        refine g_istore (pc := 88) C (lv2 := [(5, .int (imax u2.2 (v4 - u2.2))), (9, .int (imax u2.2 (v4 - u2.2))), (8, .int u2.2), (0, .ref (ad Z 0)), (1, .int v1), (2, .int v2), (3, .int v3), (4, .int v4), (6, .int v6), (7, .int v7)]) dX7_ask_88 (by decide) rfl ?_
        refine g_iload (pc := 90) C dX7_ask_90 9 rfl ?_
        refine g_istore (pc := 92) C (lv2 := [(6, .int v7), (5, .int (imax u2.2 (v4 - u2.2))), (9, .int (imax u2.2 (v4 - u2.2))), (8, .int u2.2), (0, .ref (ad Z 0)), (1, .int v1), (2, .int v2), (3, .int v3), (4, .int v4), (7, .int v7)]) dX7_ask_92 (by decide) rfl ?_
        refine g_iinc (pc := 94) C (j := 9) (v := (v7 + 1)) (lv2 := [(7, .int (v7 + 1)), (6, .int v7), (5, .int (imax u2.2 (v4 - u2.2))), (9, .int (imax u2.2 (v4 - u2.2))), (8, .int u2.2), (0, .ref (ad Z 0)), (1, .int v1), (2, .int v2), (3, .int v3), (4, .int v4)]) dX7_ask_94 rfl rfl (by decide) rfl ?_
        refine g_goto (pc := 97) C (tgt := 45) dX7_ask_97 (by decide) ?_
        exact g_sub [5, 6, 7, 8, 9, 2, 1, 0] rfl (ih _ _ _ _ _ _ h)
set_option maxHeartbeats 1000000 in
set_option maxRecDepth 20000 in
theorem kX7_ask_e {p : Program} {l : Launch} {e : Env} {s : State} {m : MethodId} {args : Array Value} {below : List Frame} {meth : Method} {c : Code} {Z : Sh} (C : Cx p s m args meth c cX7_ask 10 wsX7_ask RX7 (some .int) Z layX) {σ : Sg} {v1 : Int32} {v2 : Int32} {u : Sg × Int32}  (h : fX7_ask σ v1 v2 = some u) : G p l e rX7_ask s m args below meth c 10 Z layX (MQ below (QI Z layX u.1 u.2 s.heap.size) args s 0 0 (pA Z layX s.heap.size)) σ 0 [(0, .ref (ad Z 0)), (1, .int v1), (2, .int v2)] [] := by
  unfold fX7_ask at h
  refine g_aload_n (pc := 0) C dX7_ask_0 rfl 0 rfl ?_
  refine g_getr (pc := 1) C (Cn := RX7) (T := TX7) (N := 11) (ci := 7) (k := 0) (j := 0) uX7_ask_X7 (by rfl) rfl (by decide) (by decide +kernel) (q := 1) rfl dX7_ask_1 ?_
  refine g_iload_n (pc := 4) C dX7_ask_4 rfl 1 rfl ?_
  obtain ⟨t1, et1, h⟩ := bs h
  refine g_callVi (pc := 5) C (As := [.int v1]) (rest := []) (k := 1) (by rfl) (by rfl) (cwV 1 C.2.2.2.2.2.1 gX7_ask_X2_hasBorough rfl rfl rfl (by decide +kernel) ⟨Nat.le_of_ble_eq_true rfl, Nat.le_of_ble_eq_true rfl⟩) (mX2_hasBorough l Z isR1 et1) rfl rfl (Nat.le_of_ble_eq_true rfl) dX7_ask_5 ?_
  refine g_if_eq (pc := 8) C (tgt := 20) dX7_ask_8 (by decide) h (fun hc8 h => ?_) (fun hc8 h => ?_)
  · refine g_iconst (pc := 20) C (v := (-1 : Int32)) dX7_ask_20 (by decide) ?_
    exact g_iret C dX7_ask_21 (pfst h) (psnd h)
  · refine g_iload_n (pc := 11) C dX7_ask_11 rfl 2 rfl ?_
    refine g_iconst (pc := 12) C (v := (0 : Int32)) dX7_ask_12 (by decide) ?_
    refine g_iconst (pc := 13) C (v := (1 : Int32)) dX7_ask_13 (by decide) ?_
    obtain ⟨t2, et2, h⟩ := bs h
    refine g_callSi (pc := 14) C (As := [.int v2, .int (0 : Int32), .int (1 : Int32)]) (rest := []) (va_cwS 3 C.2.2.2.2.2.1 gX7_ask_X7_within rfl rfl rfl (by decide +kernel) ⟨Nat.le_of_ble_eq_true rfl, Nat.le_of_ble_eq_true rfl⟩) (mX7_within l Z  et2) rfl rfl (Nat.le_of_ble_eq_true rfl) dX7_ask_14 ?_
    refine g_if_ne (pc := 17) C (tgt := 22) dX7_ask_17 (by decide) h (fun hc17 h => ?_) (fun hc17 h => ?_)
    · refine g_aload_n (pc := 22) C dX7_ask_22 rfl 0 rfl ?_
      refine g_iload_n (pc := 23) C dX7_ask_23 rfl 1 rfl ?_
      obtain ⟨u3, eu3, h⟩ := bs h
      refine g_callVi (pc := 24) C (As := [.int v1]) (rest := []) (k := 0) (by rfl) (by rfl) (cwV 1 C.2.2.2.2.2.1 gX7_ask_X7_possibleOwners rfl rfl rfl (by decide +kernel) ⟨Nat.le_of_ble_eq_true rfl, Nat.le_of_ble_eq_true rfl⟩) (mX7_possibleOwners l Z  eu3) rfl rfl (Nat.le_of_ble_eq_true rfl) dX7_ask_24 ?_
      refine g_istore_n (pc := 27) C (lv2 := [(3, .int u3.2), (0, .ref (ad Z 0)), (1, .int v1), (2, .int v2)]) dX7_ask_27 rfl (by decide) rfl ?_
      refine g_iload_n (pc := 28) C dX7_ask_28 rfl 0 rfl ?_
      obtain ⟨t4, et4, h⟩ := bs h
      refine g_callSi (pc := 29) C (As := [.int u3.2]) (rest := []) (va_cwS 1 C.2.2.2.2.2.1 gX7_ask_J6_bitCount_0f7a4 rfl rfl rfl (by decide +kernel) ⟨Nat.le_of_ble_eq_true rfl, Nat.le_of_ble_eq_true rfl⟩) (mJ6_bitCount_0f7a4 l Z  et4) rfl rfl (Nat.le_of_ble_eq_true rfl) dX7_ask_29 ?_
      refine g_istore (pc := 32) C (lv2 := [(4, .int t4), (3, .int u3.2), (0, .ref (ad Z 0)), (1, .int v1), (2, .int v2)]) dX7_ask_32 (by decide) rfl ?_
      refine g_iload (pc := 34) C dX7_ask_34 0 rfl ?_
      refine g_istore (pc := 36) C (lv2 := [(5, .int t4), (4, .int t4), (3, .int u3.2), (0, .ref (ad Z 0)), (1, .int v1), (2, .int v2)]) dX7_ask_36 (by decide) rfl ?_
      refine g_bipush (pc := 38) C (v := (-4 : Int32)) dX7_ask_38 (by decide) ?_
      refine g_istore (pc := 40) C (lv2 := [(6, .int (-4 : Int32)), (5, .int t4), (4, .int t4), (3, .int u3.2), (0, .ref (ad Z 0)), (1, .int v1), (2, .int v2)]) dX7_ask_40 (by decide) rfl ?_
      refine g_iconst (pc := 42) C (v := (1 : Int32)) dX7_ask_42 (by decide) ?_
      refine g_istore (pc := 43) C (lv2 := [(7, .int (1 : Int32)), (6, .int (-4 : Int32)), (5, .int t4), (4, .int t4), (3, .int u3.2), (0, .ref (ad Z 0)), (1, .int v1), (2, .int v2)]) dX7_ask_43 (by decide) rfl ?_
      exact g_sub [5, 6, 7, 4, 3, 2, 1, 0] rfl (kX7_ask_l45 C   _ _ _ _ _ _ _ h)
    · refine g_iconst (pc := 20) C (v := (-1 : Int32)) dX7_ask_20 (by decide) ?_
      exact g_iret C dX7_ask_21 (pfst h) (psnd h)
theorem mX7_ask (l : Launch) (Z : Sh) {σ : Sg} {v1 : Int32} {v2 : Int32} {u : Sg × Int32}  (h : fX7_ask σ v1 v2 = some u) : MI l Z layX yX7_ask wsX7_ask rX7_ask [.ref (ad Z 0), .int v1, .int v2] σ u.1 u.2 :=
  MI.of (cc := cX7_ask) (maxL := 10) (ret := (some .int)) (by decide) rfl (Nat.le_of_ble_eq_true rfl) (fun p e s m below meth c C => kX7_ask_e C  h)

def rX7_nextSeed : Room := { frames := 0, cells := 0, slots := 0, locals := 0 }
def fX7_nextSeed (v0 : Int32) : Option (Int32) := some ((v0 * (1103515245 : Int32)) + (12345 : Int32))
set_option maxHeartbeats 1000000 in
set_option maxRecDepth 20000 in
theorem kX7_nextSeed_e {p : Program} {l : Launch} {e : Env} {s : State} {m : MethodId} {args : Array Value} {below : List Frame} {meth : Method} {c : Code} {Z : Sh} (C : Cx p s m args meth c cX7_nextSeed 1 wsX7_nextSeed RX7 (some .int) Z layX) {σ : Sg} {v0 : Int32} {u : Int32}  (h : fX7_nextSeed v0 = some u) : G p l e rX7_nextSeed s m args below meth c 1 Z layX (MQ below (QI Z layX σ u s.heap.size) args s 0 0 (pA Z layX s.heap.size)) σ 0 [(0, .int v0)] [] := by
  unfold fX7_nextSeed at h
  refine g_iload_n (pc := 0) C dX7_nextSeed_0 rfl 0 rfl ?_
  refine g_ldcw (pc := 1) C (v := (1103515245 : Int32)) (by decide +kernel) dX7_nextSeed_1 ?_
  refine g_imul (pc := 4) C dX7_nextSeed_4 ?_
  refine g_sipush (pc := 5) C (v := (12345 : Int32)) dX7_nextSeed_5 (by decide) ?_
  refine g_iadd (pc := 8) C dX7_nextSeed_8 ?_
  exact g_iret C dX7_nextSeed_9 rfl (Option.some.inj h)
theorem mX7_nextSeed (l : Launch) (Z : Sh) {σ : Sg} {v0 : Int32} {u : Int32}  (h : fX7_nextSeed v0 = some u) : MI l Z layX yX7_nextSeed wsX7_nextSeed rX7_nextSeed [.int v0] σ σ u :=
  MI.of (cc := cX7_nextSeed) (maxL := 1) (ret := (some .int)) (by decide) rfl (Nat.le_of_ble_eq_true rfl) (fun p e s m below meth c C => kX7_nextSeed_e C  h)

def rX7_drawn : Room := { frames := 0, cells := 0, slots := 0, locals := 0 }
def fX7_drawn (v0 : Int32) : Option (Int32) := some (((v0.toUInt32 >>> ((16 : Int32).toUInt32 &&& Int32.toUInt32 31)).toInt32) &&& (32767 : Int32))
set_option maxHeartbeats 1000000 in
set_option maxRecDepth 20000 in
theorem kX7_drawn_e {p : Program} {l : Launch} {e : Env} {s : State} {m : MethodId} {args : Array Value} {below : List Frame} {meth : Method} {c : Code} {Z : Sh} (C : Cx p s m args meth c cX7_drawn 1 wsX7_drawn RX7 (some .int) Z layX) {σ : Sg} {v0 : Int32} {u : Int32}  (h : fX7_drawn v0 = some u) : G p l e rX7_drawn s m args below meth c 1 Z layX (MQ below (QI Z layX σ u s.heap.size) args s 0 0 (pA Z layX s.heap.size)) σ 0 [(0, .int v0)] [] := by
  unfold fX7_drawn at h
  refine g_iload_n (pc := 0) C dX7_drawn_0 rfl 0 rfl ?_
  refine g_bipush (pc := 1) C (v := (16 : Int32)) dX7_drawn_1 (by decide) ?_
  refine g_iushr (pc := 3) C dX7_drawn_3 ?_
  refine g_sipush (pc := 4) C (v := (32767 : Int32)) dX7_drawn_4 (by decide) ?_
  refine g_iand (pc := 7) C dX7_drawn_7 ?_
  exact g_iret C dX7_drawn_8 rfl (Option.some.inj h)
theorem mX7_drawn (l : Launch) (Z : Sh) {σ : Sg} {v0 : Int32} {u : Int32}  (h : fX7_drawn v0 = some u) : MI l Z layX yX7_drawn wsX7_drawn rX7_drawn [.int v0] σ σ u :=
  MI.of (cc := cX7_drawn) (maxL := 1) (ret := (some .int)) (by decide) rfl (Nat.le_of_ble_eq_true rfl) (fun p e s m below meth c C => kX7_drawn_e C  h)

def rX7_drift : Room := { frames := 5, cells := 0, slots := 0, locals := 110 }
theorem uX7_drift_X2 : ∀ w ∈ wsX20, w ∈ wsX7_drift := by decide +kernel
theorem uX7_drift_X7 : ∀ w ∈ wsX70, w ∈ wsX7_drift := by decide +kernel
def fX7_drift_l64 (v1 : Int32) (v2 : Int32) (v3 : Int32)  : Nat → Sg → Int32 → Int32 → Int32 → Option (Sg × Int32)
  | 0, _, _, _, _ => none
  | n + 1, σ, v4, v5, v6 => if v2 ≤ v6 then if v3 = 0 then some (σ, v5) else (fX2_allGuineas σ 7).bind fun t1 => some (σ, t1) else (fX7_nextSeed v4).bind fun t2 => (fX7_drawn t2).bind fun t3 => (rm t3 (σ 1 0)).bind fun t4 => (fX7_nextSeed t2).bind fun t5 => (fX7_drawn t5).bind fun t6 => (rm t6 (σ 1 1)).bind fun t7 => (fX2_sell σ 7 t4 t7).bind fun u8 => if u8.2 = 0 then fX7_drift_l64 v1 v2 v3 n u8.1 t5 v5 (v6 + 1) else fX7_drift_l64 v1 v2 v3 n u8.1 t5 (v5 + 1) (v6 + 1)
def fX7_drift (σ : Sg) (v1 : Int32) (v2 : Int32) (v3 : Int32) : Option (Sg × Int32) := (fX7_within v2 (1 : Int32) (60 : Int32)).bind fun t1 => if t1 = 0 then some (σ, (-1 : Int32)) else (fX7_within v3 (0 : Int32) (1 : Int32)).bind fun t2 => if t2 = 0 then some (σ, (-1 : Int32)) else if (σ 1 0) ≤ 0 then some (σ, (-2 : Int32)) else if 0 < (σ 1 1) then (fX2_copyFrom σ 7 1).bind fun σ3 => fX7_drift_l64 v1 v2 v3 2000 σ3 v1 (0 : Int32) (0 : Int32) else some (σ, (-2 : Int32))
set_option maxHeartbeats 1000000 in
set_option maxRecDepth 20000 in
theorem kX7_drift_l64 {p : Program} {l : Launch} {e : Env} {s : State} {m : MethodId} {args : Array Value} {below : List Frame} {meth : Method} {c : Code} {Z : Sh} (C : Cx p s m args meth c cX7_drift 9 wsX7_drift RX7 (some .int) Z layX) {v1 : Int32} {v2 : Int32} {v3 : Int32} {u : Sg × Int32}   : ∀ (n : Nat) (σ : Sg) (v4 : Int32) (v5 : Int32) (v6 : Int32), fX7_drift_l64 v1 v2 v3 n σ v4 v5 v6 = some u → G p l e rX7_drift s m args below meth c 9 Z layX (MQ below (QI Z layX u.1 u.2 s.heap.size) args s 0 0 (pA Z layX s.heap.size)) σ 64 [(0, .ref (ad Z 0)), (2, .int v2), (3, .int v3), (4, .int v4), (5, .int v5), (6, .int v6)] [] := by
  intro n
  induction n with
  | zero => intro σ v4 v5 v6 h; exact absurd h (by simp [fX7_drift_l64])
  | succ n ih =>
    intro σ v4 v5 v6 h
    rw [fX7_drift_l64] at h
    refine g_iload (pc := 64) C dX7_drift_64 5 rfl ?_
    refine g_iload_n (pc := 66) C dX7_drift_66 rfl 1 rfl ?_
    refine g_icmp_ge (pc := 67) C (tgt := 137) dX7_drift_67 (by decide) h (fun hc67 h => ?_) (fun hc67 h => ?_)
    · refine g_iload_n (pc := 137) C dX7_drift_137 rfl 2 rfl ?_
      refine g_if_ne (pc := 138) C (tgt := 146) dX7_drift_138 (by decide) h (fun hc138 h => ?_) (fun hc138 h => ?_)
      · refine g_aload_n (pc := 146) C dX7_drift_146 rfl 0 rfl ?_
        refine g_getr (pc := 147) C (Cn := RX7) (T := TX7) (N := 11) (ci := 7) (k := 0) (j := 1) uX7_drift_X7 (by rfl) rfl (by decide) (by decide +kernel) (q := 7) rfl dX7_drift_147 ?_
        obtain ⟨t1, et1, h⟩ := bs h
        refine g_callVi (pc := 150) C (As := []) (rest := []) (k := 7) (by rfl) (by rfl) (cwV 0 C.2.2.2.2.2.1 gX7_drift_X2_allGuineas rfl rfl rfl (by decide +kernel) ⟨Nat.le_of_ble_eq_true rfl, Nat.le_of_ble_eq_true rfl⟩) (mX2_allGuineas l Z isR7 et1) rfl rfl (Nat.le_of_ble_eq_true rfl) dX7_drift_150 ?_
        exact g_iret C dX7_drift_153 (pfst h) (psnd h)
      · refine g_iload (pc := 141) C dX7_drift_141 4 rfl ?_
        refine g_goto (pc := 143) C (tgt := 153) dX7_drift_143 (by decide) ?_
        exact g_iret C dX7_drift_153 (pfst h) (psnd h)
    · refine g_iload (pc := 70) C dX7_drift_70 3 rfl ?_
      obtain ⟨t2, et2, h⟩ := bs h
      refine g_callSi (pc := 72) C (As := [.int v4]) (rest := []) (va_cwS 1 C.2.2.2.2.2.1 gX7_drift_X7_nextSeed rfl rfl rfl (by decide +kernel) ⟨Nat.le_of_ble_eq_true rfl, Nat.le_of_ble_eq_true rfl⟩) (mX7_nextSeed l Z  et2) rfl rfl (Nat.le_of_ble_eq_true rfl) dX7_drift_72 ?_
      refine g_istore (pc := 75) C (lv2 := [(4, .int t2), (0, .ref (ad Z 0)), (2, .int v2), (3, .int v3), (5, .int v5), (6, .int v6)]) dX7_drift_75 (by decide) rfl ?_
      refine g_iload (pc := 77) C dX7_drift_77 0 rfl ?_
      obtain ⟨t3, et3, h⟩ := bs h
      refine g_callSi (pc := 79) C (As := [.int t2]) (rest := []) (va_cwS 1 C.2.2.2.2.2.1 gX7_drift_X7_drawn rfl rfl rfl (by decide +kernel) ⟨Nat.le_of_ble_eq_true rfl, Nat.le_of_ble_eq_true rfl⟩) (mX7_drawn l Z  et3) rfl rfl (Nat.le_of_ble_eq_true rfl) dX7_drift_79 ?_
      refine g_aload_n (pc := 82) C dX7_drift_82 rfl 1 rfl ?_
      refine g_getr (pc := 83) C (Cn := RX7) (T := TX7) (N := 11) (ci := 7) (k := 0) (j := 0) uX7_drift_X7 (by rfl) rfl (by decide) (by decide +kernel) (q := 1) rfl dX7_drift_83 ?_
      refine g_getiN (pc := 86) C (host := "MoundVotes") (Cn := RX2) (T := TX2) (N := 8) (ci := 2) (k := 1) (j := 0) uX7_drift_X2 (by rfl) rfl (by decide) (by decide +kernel) (q := 0) rfl dX7_drift_86 ?_
      obtain ⟨t4, et4, h⟩ := bs h
      refine g_irem (pc := 89) C dX7_drift_89 et4 ?_
      refine g_istore (pc := 90) C (lv2 := [(7, .int t4), (4, .int t2), (0, .ref (ad Z 0)), (2, .int v2), (3, .int v3), (5, .int v5), (6, .int v6)]) dX7_drift_90 (by decide) rfl ?_
      refine g_iload (pc := 92) C dX7_drift_92 1 rfl ?_
      obtain ⟨t5, et5, h⟩ := bs h
      refine g_callSi (pc := 94) C (As := [.int t2]) (rest := []) (va_cwS 1 C.2.2.2.2.2.1 gX7_drift_X7_nextSeed rfl rfl rfl (by decide +kernel) ⟨Nat.le_of_ble_eq_true rfl, Nat.le_of_ble_eq_true rfl⟩) (mX7_nextSeed l Z  et5) rfl rfl (Nat.le_of_ble_eq_true rfl) dX7_drift_94 ?_
      refine g_istore (pc := 97) C (lv2 := [(4, .int t5), (7, .int t4), (0, .ref (ad Z 0)), (2, .int v2), (3, .int v3), (5, .int v5), (6, .int v6)]) dX7_drift_97 (by decide) rfl ?_
      refine g_iload (pc := 99) C dX7_drift_99 0 rfl ?_
      obtain ⟨t6, et6, h⟩ := bs h
      refine g_callSi (pc := 101) C (As := [.int t5]) (rest := []) (va_cwS 1 C.2.2.2.2.2.1 gX7_drift_X7_drawn rfl rfl rfl (by decide +kernel) ⟨Nat.le_of_ble_eq_true rfl, Nat.le_of_ble_eq_true rfl⟩) (mX7_drawn l Z  et6) rfl rfl (Nat.le_of_ble_eq_true rfl) dX7_drift_101 ?_
      refine g_aload_n (pc := 104) C dX7_drift_104 rfl 2 rfl ?_
      refine g_getr (pc := 105) C (Cn := RX7) (T := TX7) (N := 11) (ci := 7) (k := 0) (j := 0) uX7_drift_X7 (by rfl) rfl (by decide) (by decide +kernel) (q := 1) rfl dX7_drift_105 ?_
      refine g_getiN (pc := 108) C (host := "MoundVotes") (Cn := RX2) (T := TX2) (N := 8) (ci := 2) (k := 1) (j := 1) uX7_drift_X2 (by rfl) rfl (by decide) (by decide +kernel) (q := 0) rfl dX7_drift_108 ?_
      obtain ⟨t7, et7, h⟩ := bs h
      refine g_irem (pc := 111) C dX7_drift_111 et7 ?_
      refine g_istore (pc := 112) C (lv2 := [(8, .int t7), (4, .int t5), (7, .int t4), (0, .ref (ad Z 0)), (2, .int v2), (3, .int v3), (5, .int v5), (6, .int v6)]) dX7_drift_112 (by decide) rfl ?_
      refine g_aload_n (pc := 114) C dX7_drift_114 rfl 3 rfl ?_
      refine g_getr (pc := 115) C (Cn := RX7) (T := TX7) (N := 11) (ci := 7) (k := 0) (j := 1) uX7_drift_X7 (by rfl) rfl (by decide) (by decide +kernel) (q := 7) rfl dX7_drift_115 ?_
      refine g_iload (pc := 118) C dX7_drift_118 2 rfl ?_
      refine g_iload (pc := 120) C dX7_drift_120 0 rfl ?_
      obtain ⟨u8, eu8, h⟩ := bs h
      refine g_callVi (pc := 122) C (As := [.int t4, .int t7]) (rest := []) (k := 7) (by rfl) (by rfl) (cwV 2 C.2.2.2.2.2.1 gX7_drift_X2_sell rfl rfl rfl (by decide +kernel) ⟨Nat.le_of_ble_eq_true rfl, Nat.le_of_ble_eq_true rfl⟩) (mX2_sell l Z isR7 eu8) rfl rfl (Nat.le_of_ble_eq_true rfl) dX7_drift_122 ?_
      refine g_if_eq (pc := 125) C (tgt := 131) dX7_drift_125 (by decide) h (fun hc125 h => ?_) (fun hc125 h => ?_)
      · refine g_iinc (pc := 131) C (j := 7) (v := (v6 + 1)) (lv2 := [(6, .int (v6 + 1)), (8, .int t7), (4, .int t5), (7, .int t4), (0, .ref (ad Z 0)), (2, .int v2), (3, .int v3), (5, .int v5)]) dX7_drift_131 rfl rfl (by decide) rfl ?_
        refine g_goto (pc := 134) C (tgt := 64) dX7_drift_134 (by decide) ?_
        exact g_sub [4, 5, 6, 2, 7, 0] rfl (ih _ _ _ _ h)
      · refine g_iinc (pc := 128) C (j := 6) (v := (v5 + 1)) (lv2 := [(5, .int (v5 + 1)), (8, .int t7), (4, .int t5), (7, .int t4), (0, .ref (ad Z 0)), (2, .int v2), (3, .int v3), (6, .int v6)]) dX7_drift_128 rfl rfl (by decide) rfl ?_
        refine g_iinc (pc := 131) C (j := 7) (v := (v6 + 1)) (lv2 := [(6, .int (v6 + 1)), (5, .int (v5 + 1)), (8, .int t7), (4, .int t5), (7, .int t4), (0, .ref (ad Z 0)), (2, .int v2), (3, .int v3)]) dX7_drift_131 rfl rfl (by decide) rfl ?_
        refine g_goto (pc := 134) C (tgt := 64) dX7_drift_134 (by decide) ?_
        exact g_sub [5, 6, 7, 3, 1, 0] rfl (ih _ _ _ _ h)
set_option maxHeartbeats 1000000 in
set_option maxRecDepth 20000 in
theorem kX7_drift_e {p : Program} {l : Launch} {e : Env} {s : State} {m : MethodId} {args : Array Value} {below : List Frame} {meth : Method} {c : Code} {Z : Sh} (C : Cx p s m args meth c cX7_drift 9 wsX7_drift RX7 (some .int) Z layX) {σ : Sg} {v1 : Int32} {v2 : Int32} {v3 : Int32} {u : Sg × Int32}  (h : fX7_drift σ v1 v2 v3 = some u) : G p l e rX7_drift s m args below meth c 9 Z layX (MQ below (QI Z layX u.1 u.2 s.heap.size) args s 0 0 (pA Z layX s.heap.size)) σ 0 [(0, .ref (ad Z 0)), (1, .int v1), (2, .int v2), (3, .int v3)] [] := by
  unfold fX7_drift at h
  refine g_iload_n (pc := 0) C dX7_drift_0 rfl 2 rfl ?_
  refine g_iconst (pc := 1) C (v := (1 : Int32)) dX7_drift_1 (by decide) ?_
  refine g_bipush (pc := 2) C (v := (60 : Int32)) dX7_drift_2 (by decide) ?_
  obtain ⟨t1, et1, h⟩ := bs h
  refine g_callSi (pc := 4) C (As := [.int v2, .int (1 : Int32), .int (60 : Int32)]) (rest := []) (va_cwS 3 C.2.2.2.2.2.1 gX7_drift_X7_within rfl rfl rfl (by decide +kernel) ⟨Nat.le_of_ble_eq_true rfl, Nat.le_of_ble_eq_true rfl⟩) (mX7_within l Z  et1) rfl rfl (Nat.le_of_ble_eq_true rfl) dX7_drift_4 ?_
  refine g_if_eq (pc := 7) C (tgt := 19) dX7_drift_7 (by decide) h (fun hc7 h => ?_) (fun hc7 h => ?_)
  · refine g_iconst (pc := 19) C (v := (-1 : Int32)) dX7_drift_19 (by decide) ?_
    exact g_iret C dX7_drift_20 (pfst h) (psnd h)
  · refine g_iload_n (pc := 10) C dX7_drift_10 rfl 3 rfl ?_
    refine g_iconst (pc := 11) C (v := (0 : Int32)) dX7_drift_11 (by decide) ?_
    refine g_iconst (pc := 12) C (v := (1 : Int32)) dX7_drift_12 (by decide) ?_
    obtain ⟨t2, et2, h⟩ := bs h
    refine g_callSi (pc := 13) C (As := [.int v3, .int (0 : Int32), .int (1 : Int32)]) (rest := []) (va_cwS 3 C.2.2.2.2.2.1 gX7_drift_X7_within rfl rfl rfl (by decide +kernel) ⟨Nat.le_of_ble_eq_true rfl, Nat.le_of_ble_eq_true rfl⟩) (mX7_within l Z  et2) rfl rfl (Nat.le_of_ble_eq_true rfl) dX7_drift_13 ?_
    refine g_if_ne (pc := 16) C (tgt := 21) dX7_drift_16 (by decide) h (fun hc16 h => ?_) (fun hc16 h => ?_)
    · refine g_aload_n (pc := 21) C dX7_drift_21 rfl 0 rfl ?_
      refine g_getr (pc := 22) C (Cn := RX7) (T := TX7) (N := 11) (ci := 7) (k := 0) (j := 0) uX7_drift_X7 (by rfl) rfl (by decide) (by decide +kernel) (q := 1) rfl dX7_drift_22 ?_
      refine g_getiN (pc := 25) C (host := "MoundVotes") (Cn := RX2) (T := TX2) (N := 8) (ci := 2) (k := 1) (j := 0) uX7_drift_X2 (by rfl) rfl (by decide) (by decide +kernel) (q := 0) rfl dX7_drift_25 ?_
      refine g_if_le (pc := 28) C (tgt := 41) dX7_drift_28 (by decide) h (fun hc28 h => ?_) (fun hc28 h => ?_)
      · refine g_bipush (pc := 41) C (v := (-2 : Int32)) dX7_drift_41 (by decide) ?_
        exact g_iret C dX7_drift_43 (pfst h) (psnd h)
      · refine g_aload_n (pc := 31) C dX7_drift_31 rfl 0 rfl ?_
        refine g_getr (pc := 32) C (Cn := RX7) (T := TX7) (N := 11) (ci := 7) (k := 0) (j := 0) uX7_drift_X7 (by rfl) rfl (by decide) (by decide +kernel) (q := 1) rfl dX7_drift_32 ?_
        refine g_getiN (pc := 35) C (host := "MoundVotes") (Cn := RX2) (T := TX2) (N := 8) (ci := 2) (k := 1) (j := 1) uX7_drift_X2 (by rfl) rfl (by decide) (by decide +kernel) (q := 0) rfl dX7_drift_35 ?_
        refine g_if_gt (pc := 38) C (tgt := 44) dX7_drift_38 (by decide) h (fun hc38 h => ?_) (fun hc38 h => ?_)
        · refine g_aload_n (pc := 44) C dX7_drift_44 rfl 0 rfl ?_
          refine g_getr (pc := 45) C (Cn := RX7) (T := TX7) (N := 11) (ci := 7) (k := 0) (j := 1) uX7_drift_X7 (by rfl) rfl (by decide) (by decide +kernel) (q := 7) rfl dX7_drift_45 ?_
          refine g_aload_n (pc := 48) C dX7_drift_48 rfl 0 rfl ?_
          refine g_getr (pc := 49) C (Cn := RX7) (T := TX7) (N := 11) (ci := 7) (k := 0) (j := 0) uX7_drift_X7 (by rfl) rfl (by decide) (by decide +kernel) (q := 1) rfl dX7_drift_49 ?_
          obtain ⟨σ3, eσ3, h⟩ := bs h
          refine g_callVv (pc := 52) C (As := [.ref (ad Z 1)]) (rest := []) (k := 7) (by rfl) (by rfl) (cwV 1 C.2.2.2.2.2.1 gX7_drift_X2_copyFrom rfl rfl rfl (by decide +kernel) ⟨Nat.le_of_ble_eq_true rfl, Nat.le_of_ble_eq_true rfl⟩) (mX2_copyFrom l Z isR7 isR1 eσ3) rfl rfl (Nat.le_of_ble_eq_true rfl) dX7_drift_52 ?_
          refine g_iload_n (pc := 55) C dX7_drift_55 rfl 1 rfl ?_
          refine g_istore (pc := 56) C (lv2 := [(4, .int v1), (0, .ref (ad Z 0)), (1, .int v1), (2, .int v2), (3, .int v3)]) dX7_drift_56 (by decide) rfl ?_
          refine g_iconst (pc := 58) C (v := (0 : Int32)) dX7_drift_58 (by decide) ?_
          refine g_istore (pc := 59) C (lv2 := [(5, .int (0 : Int32)), (4, .int v1), (0, .ref (ad Z 0)), (1, .int v1), (2, .int v2), (3, .int v3)]) dX7_drift_59 (by decide) rfl ?_
          refine g_iconst (pc := 61) C (v := (0 : Int32)) dX7_drift_61 (by decide) ?_
          refine g_istore (pc := 62) C (lv2 := [(6, .int (0 : Int32)), (5, .int (0 : Int32)), (4, .int v1), (0, .ref (ad Z 0)), (1, .int v1), (2, .int v2), (3, .int v3)]) dX7_drift_62 (by decide) rfl ?_
          exact g_sub [3, 5, 6, 2, 1, 0] rfl (kX7_drift_l64 C   _ _ _ _ _ h)
        · refine g_bipush (pc := 41) C (v := (-2 : Int32)) dX7_drift_41 (by decide) ?_
          exact g_iret C dX7_drift_43 (pfst h) (psnd h)
    · refine g_iconst (pc := 19) C (v := (-1 : Int32)) dX7_drift_19 (by decide) ?_
      exact g_iret C dX7_drift_20 (pfst h) (psnd h)
theorem mX7_drift (l : Launch) (Z : Sh) {σ : Sg} {v1 : Int32} {v2 : Int32} {v3 : Int32} {u : Sg × Int32}  (h : fX7_drift σ v1 v2 v3 = some u) : MI l Z layX yX7_drift wsX7_drift rX7_drift [.ref (ad Z 0), .int v1, .int v2, .int v3] σ u.1 u.2 :=
  MI.of (cc := cX7_drift) (maxL := 9) (ret := (some .int)) (by decide) rfl (Nat.le_of_ble_eq_true rfl) (fun p e s m below meth c C => kX7_drift_e C  h)

def rX7_keep : Room := { frames := 1, cells := 0, slots := 0, locals := 22 }
theorem uX7_keep_X7 : ∀ w ∈ wsX70, w ∈ wsX7_keep := by decide +kernel
def fX7_keep_b25 (v1 : Int32)  (σ : Sg) (s0 : Int32) : Option (Sg × Int32) := (rx [13, 19] v1).bind fun q1 => (fX2_copyFrom σ q1 1).bind fun σ2 => (wr σ2 43 2 v1 (vp_nar .boolean (1 : Int32))).bind fun σ3 => some (σ3, s0)
def fX7_keep (σ : Sg) (v1 : Int32) : Option (Sg × Int32) := (fX7_within v1 (0 : Int32) (1 : Int32)).bind fun t1 => if t1 = 0 then some (σ, (-1 : Int32)) else (rd (σ 43) 2 v1).bind fun t2 => if t2 = 0 then fX7_keep_b25 v1 σ (0 : Int32) else fX7_keep_b25 v1 σ (1 : Int32)
set_option maxHeartbeats 1000000 in
set_option maxRecDepth 20000 in
theorem kX7_keep_b25 {p : Program} {l : Launch} {e : Env} {s : State} {m : MethodId} {args : Array Value} {below : List Frame} {meth : Method} {c : Code} {Z : Sh} (C : Cx p s m args meth c cX7_keep 3 wsX7_keep RX7 (some .int) Z layX) {v1 : Int32} {u : Sg × Int32}   {σ : Sg} {s0 : Int32} (h : fX7_keep_b25 v1 σ s0 = some u) : G p l e rX7_keep s m args below meth c 3 Z layX (MQ below (QI Z layX u.1 u.2 s.heap.size) args s 0 0 (pA Z layX s.heap.size)) σ 25 [(0, .ref (ad Z 0)), (1, .int v1)] [.int s0] := by
  unfold fX7_keep_b25 at h
  refine g_istore_n (pc := 25) C (lv2 := [(2, .int s0), (0, .ref (ad Z 0)), (1, .int v1)]) dX7_keep_25 rfl (by decide) rfl ?_
  refine g_aload_n (pc := 26) C dX7_keep_26 rfl 1 rfl ?_
  refine g_getr (pc := 27) C (Cn := RX7) (T := TX7) (N := 11) (ci := 7) (k := 0) (j := 2) uX7_keep_X7 (by rfl) rfl (by decide) (by decide +kernel) (q := 42) rfl dX7_keep_27 ?_
  refine g_iload_n (pc := 30) C dX7_keep_30 rfl 2 rfl ?_
  obtain ⟨q1, eq1, h⟩ := bs h
  have h_q1 := rxR eq1
  refine g_aald (pc := 31) C (k := 42) (t := 3) (by rfl) rfl eq1 dX7_keep_31 ?_
  refine g_aload_n (pc := 32) C dX7_keep_32 rfl 1 rfl ?_
  refine g_getr (pc := 33) C (Cn := RX7) (T := TX7) (N := 11) (ci := 7) (k := 0) (j := 0) uX7_keep_X7 (by rfl) rfl (by decide) (by decide +kernel) (q := 1) rfl dX7_keep_33 ?_
  obtain ⟨σ2, eσ2, h⟩ := bs h
  refine g_callVv (pc := 36) C (As := [.ref (ad Z 1)]) (rest := []) (k := q1) h_q1.1 (by rfl) (cwV 1 C.2.2.2.2.2.1 gX7_keep_X2_copyFrom rfl rfl rfl (by decide +kernel) ⟨Nat.le_of_ble_eq_true rfl, Nat.le_of_ble_eq_true rfl⟩) (mX2_copyFrom l Z h_q1 isR1 eσ2) rfl rfl (Nat.le_of_ble_eq_true rfl) dX7_keep_36 ?_
  refine g_aload_n (pc := 39) C dX7_keep_39 rfl 1 rfl ?_
  refine g_getr (pc := 40) C (Cn := RX7) (T := TX7) (N := 11) (ci := 7) (k := 0) (j := 3) uX7_keep_X7 (by rfl) rfl (by decide) (by decide +kernel) (q := 43) rfl dX7_keep_40 ?_
  refine g_iload_n (pc := 43) C dX7_keep_43 rfl 2 rfl ?_
  refine g_iconst (pc := 44) C (v := (1 : Int32)) dX7_keep_44 (by decide) ?_
  obtain ⟨σ3, eσ3, h⟩ := bs h
  refine g_zast (pc := 45) C (k := 43) (n := 2) (by rfl) eσ3 dX7_keep_45 ?_
  refine g_iload_n (pc := 46) C dX7_keep_46 rfl 0 rfl ?_
  exact g_iret C dX7_keep_47 (pfst h) (psnd h)
set_option maxHeartbeats 1000000 in
set_option maxRecDepth 20000 in
theorem kX7_keep_e {p : Program} {l : Launch} {e : Env} {s : State} {m : MethodId} {args : Array Value} {below : List Frame} {meth : Method} {c : Code} {Z : Sh} (C : Cx p s m args meth c cX7_keep 3 wsX7_keep RX7 (some .int) Z layX) {σ : Sg} {v1 : Int32} {u : Sg × Int32}  (h : fX7_keep σ v1 = some u) : G p l e rX7_keep s m args below meth c 3 Z layX (MQ below (QI Z layX u.1 u.2 s.heap.size) args s 0 0 (pA Z layX s.heap.size)) σ 0 [(0, .ref (ad Z 0)), (1, .int v1)] [] := by
  unfold fX7_keep at h
  refine g_iload_n (pc := 0) C dX7_keep_0 rfl 1 rfl ?_
  refine g_iconst (pc := 1) C (v := (0 : Int32)) dX7_keep_1 (by decide) ?_
  refine g_iconst (pc := 2) C (v := (1 : Int32)) dX7_keep_2 (by decide) ?_
  obtain ⟨t1, et1, h⟩ := bs h
  refine g_callSi (pc := 3) C (As := [.int v1, .int (0 : Int32), .int (1 : Int32)]) (rest := []) (va_cwS 3 C.2.2.2.2.2.1 gX7_keep_X7_within rfl rfl rfl (by decide +kernel) ⟨Nat.le_of_ble_eq_true rfl, Nat.le_of_ble_eq_true rfl⟩) (mX7_within l Z  et1) rfl rfl (Nat.le_of_ble_eq_true rfl) dX7_keep_3 ?_
  refine g_if_ne (pc := 6) C (tgt := 11) dX7_keep_6 (by decide) h (fun hc6 h => ?_) (fun hc6 h => ?_)
  · refine g_aload_n (pc := 11) C dX7_keep_11 rfl 0 rfl ?_
    refine g_getr (pc := 12) C (Cn := RX7) (T := TX7) (N := 11) (ci := 7) (k := 0) (j := 3) uX7_keep_X7 (by rfl) rfl (by decide) (by decide +kernel) (q := 43) rfl dX7_keep_12 ?_
    refine g_iload_n (pc := 15) C dX7_keep_15 rfl 1 rfl ?_
    obtain ⟨t2, et2, h⟩ := bs h
    refine g_zald (pc := 16) C (k := 43) (n := 2) (by rfl) et2 dX7_keep_16 ?_
    refine g_if_eq (pc := 17) C (tgt := 24) dX7_keep_17 (by decide) h (fun hc17 h => ?_) (fun hc17 h => ?_)
    · refine g_iconst (pc := 24) C (v := (0 : Int32)) dX7_keep_24 (by decide) ?_
      exact g_sub [0, 1] rfl (kX7_keep_b25 C    h)
    · refine g_iconst (pc := 20) C (v := (1 : Int32)) dX7_keep_20 (by decide) ?_
      refine g_goto (pc := 21) C (tgt := 25) dX7_keep_21 (by decide) ?_
      exact g_sub [0, 1] rfl (kX7_keep_b25 C    h)
  · refine g_iconst (pc := 9) C (v := (-1 : Int32)) dX7_keep_9 (by decide) ?_
    exact g_iret C dX7_keep_10 (pfst h) (psnd h)
theorem mX7_keep (l : Launch) (Z : Sh) {σ : Sg} {v1 : Int32} {u : Sg × Int32}  (h : fX7_keep σ v1 = some u) : MI l Z layX yX7_keep wsX7_keep rX7_keep [.ref (ad Z 0), .int v1] σ u.1 u.2 :=
  MI.of (cc := cX7_keep) (maxL := 3) (ret := (some .int)) (by decide) rfl (Nat.le_of_ble_eq_true rfl) (fun p e s m below meth c C => kX7_keep_e C  h)

def rX7_back : Room := { frames := 1, cells := 0, slots := 0, locals := 22 }
theorem uX7_back_X7 : ∀ w ∈ wsX70, w ∈ wsX7_back := by decide +kernel
def fX7_back (σ : Sg) (v1 : Int32) : Option (Sg × Int32) := (fX7_within v1 (0 : Int32) (1 : Int32)).bind fun t1 => if t1 = 0 then some (σ, (-1 : Int32)) else (rd (σ 43) 2 v1).bind fun t2 => if t2 = 0 then some (σ, (-2 : Int32)) else (rx [13, 19] v1).bind fun q3 => (fX2_copyFrom σ 1 q3).bind fun σ4 => (fX2_allGuineas σ4 1).bind fun t5 => some (σ4, t5)
set_option maxHeartbeats 1000000 in
set_option maxRecDepth 20000 in
theorem kX7_back_e {p : Program} {l : Launch} {e : Env} {s : State} {m : MethodId} {args : Array Value} {below : List Frame} {meth : Method} {c : Code} {Z : Sh} (C : Cx p s m args meth c cX7_back 2 wsX7_back RX7 (some .int) Z layX) {σ : Sg} {v1 : Int32} {u : Sg × Int32}  (h : fX7_back σ v1 = some u) : G p l e rX7_back s m args below meth c 2 Z layX (MQ below (QI Z layX u.1 u.2 s.heap.size) args s 0 0 (pA Z layX s.heap.size)) σ 0 [(0, .ref (ad Z 0)), (1, .int v1)] [] := by
  unfold fX7_back at h
  refine g_iload_n (pc := 0) C dX7_back_0 rfl 1 rfl ?_
  refine g_iconst (pc := 1) C (v := (0 : Int32)) dX7_back_1 (by decide) ?_
  refine g_iconst (pc := 2) C (v := (1 : Int32)) dX7_back_2 (by decide) ?_
  obtain ⟨t1, et1, h⟩ := bs h
  refine g_callSi (pc := 3) C (As := [.int v1, .int (0 : Int32), .int (1 : Int32)]) (rest := []) (va_cwS 3 C.2.2.2.2.2.1 gX7_back_X7_within rfl rfl rfl (by decide +kernel) ⟨Nat.le_of_ble_eq_true rfl, Nat.le_of_ble_eq_true rfl⟩) (mX7_within l Z  et1) rfl rfl (Nat.le_of_ble_eq_true rfl) dX7_back_3 ?_
  refine g_if_ne (pc := 6) C (tgt := 11) dX7_back_6 (by decide) h (fun hc6 h => ?_) (fun hc6 h => ?_)
  · refine g_aload_n (pc := 11) C dX7_back_11 rfl 0 rfl ?_
    refine g_getr (pc := 12) C (Cn := RX7) (T := TX7) (N := 11) (ci := 7) (k := 0) (j := 3) uX7_back_X7 (by rfl) rfl (by decide) (by decide +kernel) (q := 43) rfl dX7_back_12 ?_
    refine g_iload_n (pc := 15) C dX7_back_15 rfl 1 rfl ?_
    obtain ⟨t2, et2, h⟩ := bs h
    refine g_zald (pc := 16) C (k := 43) (n := 2) (by rfl) et2 dX7_back_16 ?_
    refine g_if_ne (pc := 17) C (tgt := 23) dX7_back_17 (by decide) h (fun hc17 h => ?_) (fun hc17 h => ?_)
    · refine g_aload_n (pc := 23) C dX7_back_23 rfl 0 rfl ?_
      refine g_getr (pc := 24) C (Cn := RX7) (T := TX7) (N := 11) (ci := 7) (k := 0) (j := 0) uX7_back_X7 (by rfl) rfl (by decide) (by decide +kernel) (q := 1) rfl dX7_back_24 ?_
      refine g_aload_n (pc := 27) C dX7_back_27 rfl 0 rfl ?_
      refine g_getr (pc := 28) C (Cn := RX7) (T := TX7) (N := 11) (ci := 7) (k := 0) (j := 2) uX7_back_X7 (by rfl) rfl (by decide) (by decide +kernel) (q := 42) rfl dX7_back_28 ?_
      refine g_iload_n (pc := 31) C dX7_back_31 rfl 1 rfl ?_
      obtain ⟨q3, eq3, h⟩ := bs h
      have h_q3 := rxR eq3
      refine g_aald (pc := 32) C (k := 42) (t := 3) (by rfl) rfl eq3 dX7_back_32 ?_
      obtain ⟨σ4, eσ4, h⟩ := bs h
      refine g_callVv (pc := 33) C (As := [.ref (ad Z q3)]) (rest := []) (k := 1) (by rfl) (by rfl) (cwV 1 C.2.2.2.2.2.1 gX7_back_X2_copyFrom rfl rfl rfl (by decide +kernel) ⟨Nat.le_of_ble_eq_true rfl, Nat.le_of_ble_eq_true rfl⟩) (mX2_copyFrom l Z isR1 h_q3 eσ4) rfl rfl (Nat.le_of_ble_eq_true rfl) dX7_back_33 ?_
      refine g_aload_n (pc := 36) C dX7_back_36 rfl 0 rfl ?_
      refine g_getr (pc := 37) C (Cn := RX7) (T := TX7) (N := 11) (ci := 7) (k := 0) (j := 0) uX7_back_X7 (by rfl) rfl (by decide) (by decide +kernel) (q := 1) rfl dX7_back_37 ?_
      obtain ⟨t5, et5, h⟩ := bs h
      refine g_callVi (pc := 40) C (As := []) (rest := []) (k := 1) (by rfl) (by rfl) (cwV 0 C.2.2.2.2.2.1 gX7_back_X2_allGuineas rfl rfl rfl (by decide +kernel) ⟨Nat.le_of_ble_eq_true rfl, Nat.le_of_ble_eq_true rfl⟩) (mX2_allGuineas l Z isR1 et5) rfl rfl (Nat.le_of_ble_eq_true rfl) dX7_back_40 ?_
      exact g_iret C dX7_back_43 (pfst h) (psnd h)
    · refine g_bipush (pc := 20) C (v := (-2 : Int32)) dX7_back_20 (by decide) ?_
      exact g_iret C dX7_back_22 (pfst h) (psnd h)
  · refine g_iconst (pc := 9) C (v := (-1 : Int32)) dX7_back_9 (by decide) ?_
    exact g_iret C dX7_back_10 (pfst h) (psnd h)
theorem mX7_back (l : Launch) (Z : Sh) {σ : Sg} {v1 : Int32} {u : Sg × Int32}  (h : fX7_back σ v1 = some u) : MI l Z layX yX7_back wsX7_back rX7_back [.ref (ad Z 0), .int v1] σ u.1 u.2 :=
  MI.of (cc := cX7_back) (maxL := 2) (ret := (some .int)) (by decide) rfl (Nat.le_of_ble_eq_true rfl) (fun p e s m below meth c C => kX7_back_e C  h)

def rX7_sheet : Room := { frames := 1, cells := 0, slots := 0, locals := 23 }
theorem uX7_sheet_X7 : ∀ w ∈ wsX70, w ∈ wsX7_sheet := by decide +kernel
def fX7_sheet (σ : Sg) (v1 : Int32) (v2 : Int32) (v3 : Int32) : Option (Sg × Int32) := (fX7_within v1 (0 : Int32) (3 : Int32)).bind fun t1 => if t1 = 0 then some (σ, (-1 : Int32)) else (fX7_within v2 (0 : Int32) (2 : Int32)).bind fun t2 => if t2 = 0 then some (σ, (-1 : Int32)) else if v3 ≤ (40 : Int32) then if 0 ≤ v3 then (rx [45, 47, 49, 51] v1).bind fun q3 => (fX3_renew σ q3 v2 v3).bind fun σ4 => some (σ4, (1 : Int32)) else some (σ, (-14 : Int32)) else some (σ, (-1 : Int32))
set_option maxHeartbeats 1000000 in
set_option maxRecDepth 20000 in
theorem kX7_sheet_e {p : Program} {l : Launch} {e : Env} {s : State} {m : MethodId} {args : Array Value} {below : List Frame} {meth : Method} {c : Code} {Z : Sh} (C : Cx p s m args meth c cX7_sheet 4 wsX7_sheet RX7 (some .int) Z layX) {σ : Sg} {v1 : Int32} {v2 : Int32} {v3 : Int32} {u : Sg × Int32}  (h : fX7_sheet σ v1 v2 v3 = some u) : G p l e rX7_sheet s m args below meth c 4 Z layX (MQ below (QI Z layX u.1 u.2 s.heap.size) args s 0 0 (pA Z layX s.heap.size)) σ 0 [(0, .ref (ad Z 0)), (1, .int v1), (2, .int v2), (3, .int v3)] [] := by
  unfold fX7_sheet at h
  refine g_iload_n (pc := 0) C dX7_sheet_0 rfl 1 rfl ?_
  refine g_iconst (pc := 1) C (v := (0 : Int32)) dX7_sheet_1 (by decide) ?_
  refine g_iconst (pc := 2) C (v := (3 : Int32)) dX7_sheet_2 (by decide) ?_
  obtain ⟨t1, et1, h⟩ := bs h
  refine g_callSi (pc := 3) C (As := [.int v1, .int (0 : Int32), .int (3 : Int32)]) (rest := []) (va_cwS 3 C.2.2.2.2.2.1 gX7_sheet_X7_within rfl rfl rfl (by decide +kernel) ⟨Nat.le_of_ble_eq_true rfl, Nat.le_of_ble_eq_true rfl⟩) (mX7_within l Z  et1) rfl rfl (Nat.le_of_ble_eq_true rfl) dX7_sheet_3 ?_
  refine g_if_eq (pc := 6) C (tgt := 24) dX7_sheet_6 (by decide) h (fun hc6 h => ?_) (fun hc6 h => ?_)
  · refine g_iconst (pc := 24) C (v := (-1 : Int32)) dX7_sheet_24 (by decide) ?_
    exact g_iret C dX7_sheet_25 (pfst h) (psnd h)
  · refine g_iload_n (pc := 9) C dX7_sheet_9 rfl 2 rfl ?_
    refine g_iconst (pc := 10) C (v := (0 : Int32)) dX7_sheet_10 (by decide) ?_
    refine g_iconst (pc := 11) C (v := (2 : Int32)) dX7_sheet_11 (by decide) ?_
    obtain ⟨t2, et2, h⟩ := bs h
    refine g_callSi (pc := 12) C (As := [.int v2, .int (0 : Int32), .int (2 : Int32)]) (rest := []) (va_cwS 3 C.2.2.2.2.2.1 gX7_sheet_X7_within rfl rfl rfl (by decide +kernel) ⟨Nat.le_of_ble_eq_true rfl, Nat.le_of_ble_eq_true rfl⟩) (mX7_within l Z  et2) rfl rfl (Nat.le_of_ble_eq_true rfl) dX7_sheet_12 ?_
    refine g_if_eq (pc := 15) C (tgt := 24) dX7_sheet_15 (by decide) h (fun hc15 h => ?_) (fun hc15 h => ?_)
    · refine g_iconst (pc := 24) C (v := (-1 : Int32)) dX7_sheet_24 (by decide) ?_
      exact g_iret C dX7_sheet_25 (pfst h) (psnd h)
    · refine g_iload_n (pc := 18) C dX7_sheet_18 rfl 3 rfl ?_
      refine g_bipush (pc := 19) C (v := (40 : Int32)) dX7_sheet_19 (by decide) ?_
      refine g_icmp_le (pc := 21) C (tgt := 26) dX7_sheet_21 (by decide) h (fun hc21 h => ?_) (fun hc21 h => ?_)
      · refine g_iload_n (pc := 26) C dX7_sheet_26 rfl 3 rfl ?_
        refine g_if_ge (pc := 27) C (tgt := 33) dX7_sheet_27 (by decide) h (fun hc27 h => ?_) (fun hc27 h => ?_)
        · refine g_aload_n (pc := 33) C dX7_sheet_33 rfl 0 rfl ?_
          refine g_getr (pc := 34) C (Cn := RX7) (T := TX7) (N := 11) (ci := 7) (k := 0) (j := 9) uX7_sheet_X7 (by rfl) rfl (by decide) (by decide +kernel) (q := 44) rfl dX7_sheet_34 ?_
          refine g_iload_n (pc := 37) C dX7_sheet_37 rfl 1 rfl ?_
          obtain ⟨q3, eq3, h⟩ := bs h
          have h_q3 := rxS eq3
          refine g_aald (pc := 38) C (k := 44) (t := 4) (by rfl) rfl eq3 dX7_sheet_38 ?_
          refine g_iload_n (pc := 39) C dX7_sheet_39 rfl 2 rfl ?_
          refine g_iload_n (pc := 40) C dX7_sheet_40 rfl 3 rfl ?_
          obtain ⟨σ4, eσ4, h⟩ := bs h
          refine g_callVv (pc := 41) C (As := [.int v2, .int v3]) (rest := []) (k := q3) h_q3.1 (by rfl) (cwV 2 C.2.2.2.2.2.1 gX7_sheet_X3_renew rfl rfl rfl (by decide +kernel) ⟨Nat.le_of_ble_eq_true rfl, Nat.le_of_ble_eq_true rfl⟩) (mX3_renew l Z h_q3 eσ4) rfl rfl (Nat.le_of_ble_eq_true rfl) dX7_sheet_41 ?_
          refine g_iconst (pc := 44) C (v := (1 : Int32)) dX7_sheet_44 (by decide) ?_
          exact g_iret C dX7_sheet_45 (pfst h) (psnd h)
        · refine g_bipush (pc := 30) C (v := (-14 : Int32)) dX7_sheet_30 (by decide) ?_
          exact g_iret C dX7_sheet_32 (pfst h) (psnd h)
      · refine g_iconst (pc := 24) C (v := (-1 : Int32)) dX7_sheet_24 (by decide) ?_
        exact g_iret C dX7_sheet_25 (pfst h) (psnd h)
theorem mX7_sheet (l : Launch) (Z : Sh) {σ : Sg} {v1 : Int32} {v2 : Int32} {v3 : Int32} {u : Sg × Int32}  (h : fX7_sheet σ v1 v2 v3 = some u) : MI l Z layX yX7_sheet wsX7_sheet rX7_sheet [.ref (ad Z 0), .int v1, .int v2, .int v3] σ u.1 u.2 :=
  MI.of (cc := cX7_sheet) (maxL := 4) (ret := (some .int)) (by decide) rfl (Nat.le_of_ble_eq_true rfl) (fun p e s m below meth c C => kX7_sheet_e C  h)

def rX7_lay : Room := { frames := 3, cells := 0, slots := 0, locals := 65 }
theorem uX7_lay_X7 : ∀ w ∈ wsX70, w ∈ wsX7_lay := by decide +kernel
def fX7_lay (σ : Sg) (v1 : Int32) (v2 : Int32) (v3 : Int32) : Option (Sg × Int32) := (fX7_within v1 (0 : Int32) (3 : Int32)).bind fun t1 => if t1 = 0 then some (σ, (-1 : Int32)) else (rx [45, 47, 49, 51] v1).bind fun q2 => (fX3_faultAt σ q2 v2).bind fun t3 => if t3 = 0 then (rx [45, 47, 49, 51] v1).bind fun q4 => (fX3_put σ q4 v2 v3).bind fun σ5 => some (σ5, (1 : Int32)) else some (σ, ((-10 : Int32) - t3))
set_option maxHeartbeats 1000000 in
set_option maxRecDepth 20000 in
theorem kX7_lay_e {p : Program} {l : Launch} {e : Env} {s : State} {m : MethodId} {args : Array Value} {below : List Frame} {meth : Method} {c : Code} {Z : Sh} (C : Cx p s m args meth c cX7_lay 5 wsX7_lay RX7 (some .int) Z layX) {σ : Sg} {v1 : Int32} {v2 : Int32} {v3 : Int32} {u : Sg × Int32}  (h : fX7_lay σ v1 v2 v3 = some u) : G p l e rX7_lay s m args below meth c 5 Z layX (MQ below (QI Z layX u.1 u.2 s.heap.size) args s 0 0 (pA Z layX s.heap.size)) σ 0 [(0, .ref (ad Z 0)), (1, .int v1), (2, .int v2), (3, .int v3)] [] := by
  unfold fX7_lay at h
  refine g_iload_n (pc := 0) C dX7_lay_0 rfl 1 rfl ?_
  refine g_iconst (pc := 1) C (v := (0 : Int32)) dX7_lay_1 (by decide) ?_
  refine g_iconst (pc := 2) C (v := (3 : Int32)) dX7_lay_2 (by decide) ?_
  obtain ⟨t1, et1, h⟩ := bs h
  refine g_callSi (pc := 3) C (As := [.int v1, .int (0 : Int32), .int (3 : Int32)]) (rest := []) (va_cwS 3 C.2.2.2.2.2.1 gX7_lay_X7_within rfl rfl rfl (by decide +kernel) ⟨Nat.le_of_ble_eq_true rfl, Nat.le_of_ble_eq_true rfl⟩) (mX7_within l Z  et1) rfl rfl (Nat.le_of_ble_eq_true rfl) dX7_lay_3 ?_
  refine g_if_ne (pc := 6) C (tgt := 11) dX7_lay_6 (by decide) h (fun hc6 h => ?_) (fun hc6 h => ?_)
  · refine g_aload_n (pc := 11) C dX7_lay_11 rfl 0 rfl ?_
    refine g_getr (pc := 12) C (Cn := RX7) (T := TX7) (N := 11) (ci := 7) (k := 0) (j := 9) uX7_lay_X7 (by rfl) rfl (by decide) (by decide +kernel) (q := 44) rfl dX7_lay_12 ?_
    refine g_iload_n (pc := 15) C dX7_lay_15 rfl 1 rfl ?_
    obtain ⟨q2, eq2, h⟩ := bs h
    have h_q2 := rxS eq2
    refine g_aald (pc := 16) C (k := 44) (t := 4) (by rfl) rfl eq2 dX7_lay_16 ?_
    refine g_iload_n (pc := 17) C dX7_lay_17 rfl 2 rfl ?_
    obtain ⟨t3, et3, h⟩ := bs h
    refine g_callVi (pc := 18) C (As := [.int v2]) (rest := []) (k := q2) h_q2.1 (by rfl) (cwV 1 C.2.2.2.2.2.1 gX7_lay_X3_faultAt rfl rfl rfl (by decide +kernel) ⟨Nat.le_of_ble_eq_true rfl, Nat.le_of_ble_eq_true rfl⟩) (mX3_faultAt l Z h_q2 et3) rfl rfl (Nat.le_of_ble_eq_true rfl) dX7_lay_18 ?_
    refine g_istore (pc := 21) C (lv2 := [(4, .int t3), (0, .ref (ad Z 0)), (1, .int v1), (2, .int v2), (3, .int v3)]) dX7_lay_21 (by decide) rfl ?_
    refine g_iload (pc := 23) C dX7_lay_23 0 rfl ?_
    refine g_if_eq (pc := 25) C (tgt := 34) dX7_lay_25 (by decide) h (fun hc25 h => ?_) (fun hc25 h => ?_)
    · refine g_aload_n (pc := 34) C dX7_lay_34 rfl 1 rfl ?_
      refine g_getr (pc := 35) C (Cn := RX7) (T := TX7) (N := 11) (ci := 7) (k := 0) (j := 9) uX7_lay_X7 (by rfl) rfl (by decide) (by decide +kernel) (q := 44) rfl dX7_lay_35 ?_
      refine g_iload_n (pc := 38) C dX7_lay_38 rfl 2 rfl ?_
      obtain ⟨q4, eq4, h⟩ := bs h
      have h_q4 := rxS eq4
      refine g_aald (pc := 39) C (k := 44) (t := 4) (by rfl) rfl eq4 dX7_lay_39 ?_
      refine g_iload_n (pc := 40) C dX7_lay_40 rfl 3 rfl ?_
      refine g_iload_n (pc := 41) C dX7_lay_41 rfl 4 rfl ?_
      obtain ⟨σ5, eσ5, h⟩ := bs h
      refine g_callVv (pc := 42) C (As := [.int v2, .int v3]) (rest := []) (k := q4) h_q4.1 (by rfl) (cwV 2 C.2.2.2.2.2.1 gX7_lay_X3_put rfl rfl rfl (by decide +kernel) ⟨Nat.le_of_ble_eq_true rfl, Nat.le_of_ble_eq_true rfl⟩) (mX3_put l Z h_q4 eσ5) rfl rfl (Nat.le_of_ble_eq_true rfl) dX7_lay_42 ?_
      refine g_iconst (pc := 45) C (v := (1 : Int32)) dX7_lay_45 (by decide) ?_
      exact g_iret C dX7_lay_46 (pfst h) (psnd h)
    · refine g_bipush (pc := 28) C (v := (-10 : Int32)) dX7_lay_28 (by decide) ?_
      refine g_iload (pc := 30) C dX7_lay_30 0 rfl ?_
      refine g_isub (pc := 32) C dX7_lay_32 ?_
      exact g_iret C dX7_lay_33 (pfst h) (psnd h)
  · refine g_iconst (pc := 9) C (v := (-1 : Int32)) dX7_lay_9 (by decide) ?_
    exact g_iret C dX7_lay_10 (pfst h) (psnd h)
theorem mX7_lay (l : Launch) (Z : Sh) {σ : Sg} {v1 : Int32} {v2 : Int32} {v3 : Int32} {u : Sg × Int32}  (h : fX7_lay σ v1 v2 v3 = some u) : MI l Z layX yX7_lay wsX7_lay rX7_lay [.ref (ad Z 0), .int v1, .int v2, .int v3] σ u.1 u.2 :=
  MI.of (cc := cX7_lay) (maxL := 5) (ret := (some .int)) (by decide) rfl (Nat.le_of_ble_eq_true rfl) (fun p e s m below meth c C => kX7_lay_e C  h)

def rX7_read : Room := { frames := 5, cells := 0, slots := 0, locals := 110 }
theorem uX7_read_X7 : ∀ w ∈ wsX70, w ∈ wsX7_read := by decide +kernel
def fX7_read_b139 (v1 : Int32) (v2 : Int32) (v3 : Int32) (v4 : Int32)  (σ : Sg) (v6 : Int32) (v7 : Int32) : Option (Sg × Int32) := (fX2_copyFrom σ 1 7).bind fun σ1 => (pf σ1 0 10 v7).bind fun σ2 => some (σ2, v6)
def fX7_read_l59 (v1 : Int32) (v2 : Int32) (v3 : Int32) (v4 : Int32)  : Nat → Sg → Nat → Int32 → Int32 → Int32 → Option (Sg × Int32)
  | 0, _, _, _, _, _ => none
  | n + 1, σ, c5, v6, v7, v8 => if v4 ≤ v8 then fX7_read_b139 v1 v2 v3 v4 σ v6 v7 else if v7 = 0 then (fX3_faultOfPair σ c5 v2 (v3 + ((2 : Int32) * v8))).bind fun t1 => if t1 = 0 then (fX3_cellAt σ c5 (v3 + ((2 : Int32) * v8))).bind fun t2 => (fX3_cellAt σ c5 ((v3 + ((2 : Int32) * v8)) + (1 : Int32))).bind fun t3 => (fX2_sell σ 7 t2 t3).bind fun u4 => if u4.2 = 0 then some (u4.1, ((-20 : Int32) - v8)) else fX7_read_l59 v1 v2 v3 v4 n u4.1 c5 (v6 + 1) t1 (v8 + 1) else fX7_read_l59 v1 v2 v3 v4 n σ c5 v6 t1 (v8 + 1) else fX7_read_b139 v1 v2 v3 v4 σ v6 v7
def fX7_read (σ : Sg) (v1 : Int32) (v2 : Int32) (v3 : Int32) (v4 : Int32) : Option (Sg × Int32) := (fX7_within v1 (0 : Int32) (3 : Int32)).bind fun t1 => if t1 = 0 then some (σ, (-1 : Int32)) else (fX7_within v2 (0 : Int32) (2 : Int32)).bind fun t2 => if t2 = 0 then some (σ, (-1 : Int32)) else (fX7_within v4 (0 : Int32) (20 : Int32)).bind fun t3 => if t3 = 0 then some (σ, (-1 : Int32)) else (rx [45, 47, 49, 51] v1).bind fun q4 => (fX2_copyFrom σ 7 1).bind fun σ5 => fX7_read_l59 v1 v2 v3 v4 2000 σ5 q4 (0 : Int32) (0 : Int32) (0 : Int32)
set_option maxHeartbeats 1000000 in
set_option maxRecDepth 20000 in
theorem kX7_read_b139 {p : Program} {l : Launch} {e : Env} {s : State} {m : MethodId} {args : Array Value} {below : List Frame} {meth : Method} {c : Code} {Z : Sh} (C : Cx p s m args meth c cX7_read 9 wsX7_read RX7 (some .int) Z layX) {v1 : Int32} {v2 : Int32} {v3 : Int32} {v4 : Int32} {u : Sg × Int32}   {σ : Sg} {v6 : Int32} {v7 : Int32} (h : fX7_read_b139 v1 v2 v3 v4 σ v6 v7 = some u) : G p l e rX7_read s m args below meth c 9 Z layX (MQ below (QI Z layX u.1 u.2 s.heap.size) args s 0 0 (pA Z layX s.heap.size)) σ 139 [(0, .ref (ad Z 0)), (6, .int v6), (7, .int v7)] [] := by
  unfold fX7_read_b139 at h
  refine g_aload_n (pc := 139) C dX7_read_139 rfl 0 rfl ?_
  refine g_getr (pc := 140) C (Cn := RX7) (T := TX7) (N := 11) (ci := 7) (k := 0) (j := 0) uX7_read_X7 (by rfl) rfl (by decide) (by decide +kernel) (q := 1) rfl dX7_read_140 ?_
  refine g_aload_n (pc := 143) C dX7_read_143 rfl 0 rfl ?_
  refine g_getr (pc := 144) C (Cn := RX7) (T := TX7) (N := 11) (ci := 7) (k := 0) (j := 1) uX7_read_X7 (by rfl) rfl (by decide) (by decide +kernel) (q := 7) rfl dX7_read_144 ?_
  obtain ⟨σ1, eσ1, h⟩ := bs h
  refine g_callVv (pc := 147) C (As := [.ref (ad Z 7)]) (rest := []) (k := 1) (by rfl) (by rfl) (cwV 1 C.2.2.2.2.2.1 gX7_read_X2_copyFrom rfl rfl rfl (by decide +kernel) ⟨Nat.le_of_ble_eq_true rfl, Nat.le_of_ble_eq_true rfl⟩) (mX2_copyFrom l Z isR1 isR7 eσ1) rfl rfl (Nat.le_of_ble_eq_true rfl) dX7_read_147 ?_
  refine g_aload_n (pc := 150) C dX7_read_150 rfl 0 rfl ?_
  refine g_iload (pc := 151) C dX7_read_151 2 rfl ?_
  obtain ⟨σ2, eσ2, h⟩ := bs h
  refine g_puti (pc := 153) C (Cn := RX7) (T := TX7) (N := 11) (ci := 7) (k := 0) (j := 10) uX7_read_X7 (by rfl) rfl (by decide) (by decide +kernel) tyX7 tyX7_ok nmX7 rfl (by decide +kernel) rfl eσ2 dX7_read_153 ?_
  refine g_iload (pc := 156) C dX7_read_156 1 rfl ?_
  exact g_iret C dX7_read_158 (pfst h) (psnd h)
set_option maxHeartbeats 1000000 in
set_option maxRecDepth 20000 in
theorem kX7_read_l59 {p : Program} {l : Launch} {e : Env} {s : State} {m : MethodId} {args : Array Value} {below : List Frame} {meth : Method} {c : Code} {Z : Sh} (C : Cx p s m args meth c cX7_read 9 wsX7_read RX7 (some .int) Z layX) {v1 : Int32} {v2 : Int32} {v3 : Int32} {v4 : Int32} {u : Sg × Int32}   : ∀ (n : Nat) (σ : Sg) (c5 : Nat) (v6 : Int32) (v7 : Int32) (v8 : Int32), fX7_read_l59 v1 v2 v3 v4 n σ c5 v6 v7 v8 = some u → IsS c5 → G p l e rX7_read s m args below meth c 9 Z layX (MQ below (QI Z layX u.1 u.2 s.heap.size) args s 0 0 (pA Z layX s.heap.size)) σ 59 [(0, .ref (ad Z 0)), (2, .int v2), (3, .int v3), (4, .int v4), (5, .ref (ad Z c5)), (6, .int v6), (7, .int v7), (8, .int v8)] [] := by
  intro n
  induction n with
  | zero => intro σ c5 v6 v7 v8 h; exact absurd h (by simp [fX7_read_l59])
  | succ n ih =>
    intro σ c5 v6 v7 v8 h h_c5
    rw [fX7_read_l59] at h
    refine g_iload (pc := 59) C dX7_read_59 7 rfl ?_
    refine g_iload (pc := 61) C dX7_read_61 3 rfl ?_
    refine g_icmp_ge (pc := 63) C (tgt := 139) dX7_read_63 (by decide) h (fun hc63 h => ?_) (fun hc63 h => ?_)
    · exact g_sub [0, 5, 6] rfl (kX7_read_b139 C    h)
    · refine g_iload (pc := 66) C dX7_read_66 6 rfl ?_
      refine g_if_ne (pc := 68) C (tgt := 139) dX7_read_68 (by decide) h (fun hc68 h => ?_) (fun hc68 h => ?_)
      · exact g_sub [0, 5, 6] rfl (kX7_read_b139 C    h)
      · refine g_aload (pc := 71) C dX7_read_71 4 rfl ?_
        refine g_iload_n (pc := 73) C dX7_read_73 rfl 1 rfl ?_
        refine g_iload_n (pc := 74) C dX7_read_74 rfl 2 rfl ?_
        refine g_iconst (pc := 75) C (v := (2 : Int32)) dX7_read_75 (by decide) ?_
        refine g_iload (pc := 76) C dX7_read_76 7 rfl ?_
        refine g_imul (pc := 78) C dX7_read_78 ?_
        refine g_iadd (pc := 79) C dX7_read_79 ?_
        obtain ⟨t1, et1, h⟩ := bs h
        refine g_callVi (pc := 80) C (As := [.int v2, .int (v3 + ((2 : Int32) * v8))]) (rest := []) (k := c5) h_c5.1 (by rfl) (cwV 2 C.2.2.2.2.2.1 gX7_read_X3_faultOfPair rfl rfl rfl (by decide +kernel) ⟨Nat.le_of_ble_eq_true rfl, Nat.le_of_ble_eq_true rfl⟩) (mX3_faultOfPair l Z h_c5 et1) rfl rfl (Nat.le_of_ble_eq_true rfl) dX7_read_80 ?_
        refine g_istore (pc := 83) C (lv2 := [(7, .int t1), (0, .ref (ad Z 0)), (2, .int v2), (3, .int v3), (4, .int v4), (5, .ref (ad Z c5)), (6, .int v6), (8, .int v8)]) dX7_read_83 (by decide) rfl ?_
        refine g_iload (pc := 85) C dX7_read_85 0 rfl ?_
        refine g_if_ne (pc := 87) C (tgt := 133) dX7_read_87 (by decide) h (fun hc87 h => ?_) (fun hc87 h => ?_)
        · refine g_iinc (pc := 133) C (j := 7) (v := (v8 + 1)) (lv2 := [(8, .int (v8 + 1)), (7, .int t1), (0, .ref (ad Z 0)), (2, .int v2), (3, .int v3), (4, .int v4), (5, .ref (ad Z c5)), (6, .int v6)]) dX7_read_133 rfl rfl (by decide) rfl ?_
          refine g_goto (pc := 136) C (tgt := 59) dX7_read_136 (by decide) ?_
          exact g_sub [2, 3, 4, 5, 6, 7, 1, 0] rfl (ih _ _ _ _ _ h h_c5)
        · refine g_aload_n (pc := 90) C dX7_read_90 rfl 1 rfl ?_
          refine g_getr (pc := 91) C (Cn := RX7) (T := TX7) (N := 11) (ci := 7) (k := 0) (j := 1) uX7_read_X7 (by rfl) rfl (by decide) (by decide +kernel) (q := 7) rfl dX7_read_91 ?_
          refine g_aload (pc := 94) C dX7_read_94 5 rfl ?_
          refine g_iload_n (pc := 96) C dX7_read_96 rfl 3 rfl ?_
          refine g_iconst (pc := 97) C (v := (2 : Int32)) dX7_read_97 (by decide) ?_
          refine g_iload (pc := 98) C dX7_read_98 7 rfl ?_
          refine g_imul (pc := 100) C dX7_read_100 ?_
          refine g_iadd (pc := 101) C dX7_read_101 ?_
          obtain ⟨t2, et2, h⟩ := bs h
          refine g_callVi (pc := 102) C (As := [.int (v3 + ((2 : Int32) * v8))]) (rest := [.ref (ad Z 7)]) (k := c5) h_c5.1 (by rfl) (cwV 1 C.2.2.2.2.2.1 gX7_read_X3_cellAt rfl rfl rfl (by decide +kernel) ⟨Nat.le_of_ble_eq_true rfl, Nat.le_of_ble_eq_true rfl⟩) (mX3_cellAt l Z h_c5 et2) rfl rfl (Nat.le_of_ble_eq_true rfl) dX7_read_102 ?_
          refine g_aload (pc := 105) C dX7_read_105 5 rfl ?_
          refine g_iload_n (pc := 107) C dX7_read_107 rfl 3 rfl ?_
          refine g_iconst (pc := 108) C (v := (2 : Int32)) dX7_read_108 (by decide) ?_
          refine g_iload (pc := 109) C dX7_read_109 7 rfl ?_
          refine g_imul (pc := 111) C dX7_read_111 ?_
          refine g_iadd (pc := 112) C dX7_read_112 ?_
          refine g_iconst (pc := 113) C (v := (1 : Int32)) dX7_read_113 (by decide) ?_
          refine g_iadd (pc := 114) C dX7_read_114 ?_
          obtain ⟨t3, et3, h⟩ := bs h
          refine g_callVi (pc := 115) C (As := [.int ((v3 + ((2 : Int32) * v8)) + (1 : Int32))]) (rest := [.int t2, .ref (ad Z 7)]) (k := c5) h_c5.1 (by rfl) (cwV 1 C.2.2.2.2.2.1 gX7_read_X3_cellAt rfl rfl rfl (by decide +kernel) ⟨Nat.le_of_ble_eq_true rfl, Nat.le_of_ble_eq_true rfl⟩) (mX3_cellAt l Z h_c5 et3) rfl rfl (Nat.le_of_ble_eq_true rfl) dX7_read_115 ?_
          obtain ⟨u4, eu4, h⟩ := bs h
          refine g_callVi (pc := 118) C (As := [.int t2, .int t3]) (rest := []) (k := 7) (by rfl) (by rfl) (cwV 2 C.2.2.2.2.2.1 gX7_read_X2_sell rfl rfl rfl (by decide +kernel) ⟨Nat.le_of_ble_eq_true rfl, Nat.le_of_ble_eq_true rfl⟩) (mX2_sell l Z isR7 eu4) rfl rfl (Nat.le_of_ble_eq_true rfl) dX7_read_118 ?_
          refine g_if_ne (pc := 121) C (tgt := 130) dX7_read_121 (by decide) h (fun hc121 h => ?_) (fun hc121 h => ?_)
          · refine g_iinc (pc := 130) C (j := 6) (v := (v6 + 1)) (lv2 := [(6, .int (v6 + 1)), (7, .int t1), (0, .ref (ad Z 0)), (2, .int v2), (3, .int v3), (4, .int v4), (5, .ref (ad Z c5)), (8, .int v8)]) dX7_read_130 rfl rfl (by decide) rfl ?_
            refine g_iinc (pc := 133) C (j := 7) (v := (v8 + 1)) (lv2 := [(8, .int (v8 + 1)), (6, .int (v6 + 1)), (7, .int t1), (0, .ref (ad Z 0)), (2, .int v2), (3, .int v3), (4, .int v4), (5, .ref (ad Z c5))]) dX7_read_133 rfl rfl (by decide) rfl ?_
            refine g_goto (pc := 136) C (tgt := 59) dX7_read_136 (by decide) ?_
            exact g_sub [3, 4, 5, 6, 7, 1, 2, 0] rfl (ih _ _ _ _ _ h h_c5)
          · refine g_bipush (pc := 124) C (v := (-20 : Int32)) dX7_read_124 (by decide) ?_
            refine g_iload (pc := 126) C dX7_read_126 7 rfl ?_
            refine g_isub (pc := 128) C dX7_read_128 ?_
            exact g_iret C dX7_read_129 (pfst h) (psnd h)
set_option maxHeartbeats 1000000 in
set_option maxRecDepth 20000 in
theorem kX7_read_e {p : Program} {l : Launch} {e : Env} {s : State} {m : MethodId} {args : Array Value} {below : List Frame} {meth : Method} {c : Code} {Z : Sh} (C : Cx p s m args meth c cX7_read 9 wsX7_read RX7 (some .int) Z layX) {σ : Sg} {v1 : Int32} {v2 : Int32} {v3 : Int32} {v4 : Int32} {u : Sg × Int32}  (h : fX7_read σ v1 v2 v3 v4 = some u) : G p l e rX7_read s m args below meth c 9 Z layX (MQ below (QI Z layX u.1 u.2 s.heap.size) args s 0 0 (pA Z layX s.heap.size)) σ 0 [(0, .ref (ad Z 0)), (1, .int v1), (2, .int v2), (3, .int v3), (4, .int v4)] [] := by
  unfold fX7_read at h
  refine g_iload_n (pc := 0) C dX7_read_0 rfl 1 rfl ?_
  refine g_iconst (pc := 1) C (v := (0 : Int32)) dX7_read_1 (by decide) ?_
  refine g_iconst (pc := 2) C (v := (3 : Int32)) dX7_read_2 (by decide) ?_
  obtain ⟨t1, et1, h⟩ := bs h
  refine g_callSi (pc := 3) C (As := [.int v1, .int (0 : Int32), .int (3 : Int32)]) (rest := []) (va_cwS 3 C.2.2.2.2.2.1 gX7_read_X7_within rfl rfl rfl (by decide +kernel) ⟨Nat.le_of_ble_eq_true rfl, Nat.le_of_ble_eq_true rfl⟩) (mX7_within l Z  et1) rfl rfl (Nat.le_of_ble_eq_true rfl) dX7_read_3 ?_
  refine g_if_eq (pc := 6) C (tgt := 29) dX7_read_6 (by decide) h (fun hc6 h => ?_) (fun hc6 h => ?_)
  · refine g_iconst (pc := 29) C (v := (-1 : Int32)) dX7_read_29 (by decide) ?_
    exact g_iret C dX7_read_30 (pfst h) (psnd h)
  · refine g_iload_n (pc := 9) C dX7_read_9 rfl 2 rfl ?_
    refine g_iconst (pc := 10) C (v := (0 : Int32)) dX7_read_10 (by decide) ?_
    refine g_iconst (pc := 11) C (v := (2 : Int32)) dX7_read_11 (by decide) ?_
    obtain ⟨t2, et2, h⟩ := bs h
    refine g_callSi (pc := 12) C (As := [.int v2, .int (0 : Int32), .int (2 : Int32)]) (rest := []) (va_cwS 3 C.2.2.2.2.2.1 gX7_read_X7_within rfl rfl rfl (by decide +kernel) ⟨Nat.le_of_ble_eq_true rfl, Nat.le_of_ble_eq_true rfl⟩) (mX7_within l Z  et2) rfl rfl (Nat.le_of_ble_eq_true rfl) dX7_read_12 ?_
    refine g_if_eq (pc := 15) C (tgt := 29) dX7_read_15 (by decide) h (fun hc15 h => ?_) (fun hc15 h => ?_)
    · refine g_iconst (pc := 29) C (v := (-1 : Int32)) dX7_read_29 (by decide) ?_
      exact g_iret C dX7_read_30 (pfst h) (psnd h)
    · refine g_iload (pc := 18) C dX7_read_18 4 rfl ?_
      refine g_iconst (pc := 20) C (v := (0 : Int32)) dX7_read_20 (by decide) ?_
      refine g_bipush (pc := 21) C (v := (20 : Int32)) dX7_read_21 (by decide) ?_
      obtain ⟨t3, et3, h⟩ := bs h
      refine g_callSi (pc := 23) C (As := [.int v4, .int (0 : Int32), .int (20 : Int32)]) (rest := []) (va_cwS 3 C.2.2.2.2.2.1 gX7_read_X7_within rfl rfl rfl (by decide +kernel) ⟨Nat.le_of_ble_eq_true rfl, Nat.le_of_ble_eq_true rfl⟩) (mX7_within l Z  et3) rfl rfl (Nat.le_of_ble_eq_true rfl) dX7_read_23 ?_
      refine g_if_ne (pc := 26) C (tgt := 31) dX7_read_26 (by decide) h (fun hc26 h => ?_) (fun hc26 h => ?_)
      · refine g_aload_n (pc := 31) C dX7_read_31 rfl 0 rfl ?_
        refine g_getr (pc := 32) C (Cn := RX7) (T := TX7) (N := 11) (ci := 7) (k := 0) (j := 9) uX7_read_X7 (by rfl) rfl (by decide) (by decide +kernel) (q := 44) rfl dX7_read_32 ?_
        refine g_iload_n (pc := 35) C dX7_read_35 rfl 1 rfl ?_
        obtain ⟨q4, eq4, h⟩ := bs h
        have h_q4 := rxS eq4
        refine g_aald (pc := 36) C (k := 44) (t := 4) (by rfl) rfl eq4 dX7_read_36 ?_
        refine g_astore (pc := 37) C (lv2 := [(5, .ref (ad Z q4)), (0, .ref (ad Z 0)), (1, .int v1), (2, .int v2), (3, .int v3), (4, .int v4)]) dX7_read_37 (by decide) rfl ?_
        refine g_aload_n (pc := 39) C dX7_read_39 rfl 1 rfl ?_
        refine g_getr (pc := 40) C (Cn := RX7) (T := TX7) (N := 11) (ci := 7) (k := 0) (j := 1) uX7_read_X7 (by rfl) rfl (by decide) (by decide +kernel) (q := 7) rfl dX7_read_40 ?_
        refine g_aload_n (pc := 43) C dX7_read_43 rfl 1 rfl ?_
        refine g_getr (pc := 44) C (Cn := RX7) (T := TX7) (N := 11) (ci := 7) (k := 0) (j := 0) uX7_read_X7 (by rfl) rfl (by decide) (by decide +kernel) (q := 1) rfl dX7_read_44 ?_
        obtain ⟨σ5, eσ5, h⟩ := bs h
        refine g_callVv (pc := 47) C (As := [.ref (ad Z 1)]) (rest := []) (k := 7) (by rfl) (by rfl) (cwV 1 C.2.2.2.2.2.1 gX7_read_X2_copyFrom rfl rfl rfl (by decide +kernel) ⟨Nat.le_of_ble_eq_true rfl, Nat.le_of_ble_eq_true rfl⟩) (mX2_copyFrom l Z isR7 isR1 eσ5) rfl rfl (Nat.le_of_ble_eq_true rfl) dX7_read_47 ?_
        refine g_iconst (pc := 50) C (v := (0 : Int32)) dX7_read_50 (by decide) ?_
        refine g_istore (pc := 51) C (lv2 := [(6, .int (0 : Int32)), (5, .ref (ad Z q4)), (0, .ref (ad Z 0)), (1, .int v1), (2, .int v2), (3, .int v3), (4, .int v4)]) dX7_read_51 (by decide) rfl ?_
        refine g_iconst (pc := 53) C (v := (0 : Int32)) dX7_read_53 (by decide) ?_
        refine g_istore (pc := 54) C (lv2 := [(7, .int (0 : Int32)), (6, .int (0 : Int32)), (5, .ref (ad Z q4)), (0, .ref (ad Z 0)), (1, .int v1), (2, .int v2), (3, .int v3), (4, .int v4)]) dX7_read_54 (by decide) rfl ?_
        refine g_iconst (pc := 56) C (v := (0 : Int32)) dX7_read_56 (by decide) ?_
        refine g_istore (pc := 57) C (lv2 := [(8, .int (0 : Int32)), (7, .int (0 : Int32)), (6, .int (0 : Int32)), (5, .ref (ad Z q4)), (0, .ref (ad Z 0)), (1, .int v1), (2, .int v2), (3, .int v3), (4, .int v4)]) dX7_read_57 (by decide) rfl ?_
        exact g_sub [4, 6, 7, 8, 3, 2, 1, 0] rfl (kX7_read_l59 C   _ _ _ _ _ _ h h_q4)
      · refine g_iconst (pc := 29) C (v := (-1 : Int32)) dX7_read_29 (by decide) ?_
        exact g_iret C dX7_read_30 (pfst h) (psnd h)
theorem mX7_read (l : Launch) (Z : Sh) {σ : Sg} {v1 : Int32} {v2 : Int32} {v3 : Int32} {v4 : Int32} {u : Sg × Int32}  (h : fX7_read σ v1 v2 v3 v4 = some u) : MI l Z layX yX7_read wsX7_read rX7_read [.ref (ad Z 0), .int v1, .int v2, .int v3, .int v4] σ u.1 u.2 :=
  MI.of (cc := cX7_read) (maxL := 9) (ret := (some .int)) (by decide) rfl (Nat.le_of_ble_eq_true rfl) (fun p e s m below meth c C => kX7_read_e C  h)

def rX7_torn : Room := { frames := 0, cells := 0, slots := 0, locals := 0 }
theorem uX7_torn_X7 : ∀ w ∈ wsX70, w ∈ wsX7_torn := by decide +kernel
def fX7_torn (σ : Sg)  : Option (Int32) := some (σ 0 10)
set_option maxHeartbeats 1000000 in
set_option maxRecDepth 20000 in
theorem kX7_torn_e {p : Program} {l : Launch} {e : Env} {s : State} {m : MethodId} {args : Array Value} {below : List Frame} {meth : Method} {c : Code} {Z : Sh} (C : Cx p s m args meth c cX7_torn 1 wsX7_torn RX7 (some .int) Z layX) {σ : Sg}  {u : Int32}  (h : fX7_torn σ = some u) : G p l e rX7_torn s m args below meth c 1 Z layX (MQ below (QI Z layX σ u s.heap.size) args s 0 0 (pA Z layX s.heap.size)) σ 0 [(0, .ref (ad Z 0))] [] := by
  unfold fX7_torn at h
  refine g_aload_n (pc := 0) C dX7_torn_0 rfl 0 rfl ?_
  refine g_geti (pc := 1) C (Cn := RX7) (T := TX7) (N := 11) (ci := 7) (k := 0) (j := 10) uX7_torn_X7 (by rfl) rfl (by decide) (by decide +kernel) (q := 0) rfl dX7_torn_1 ?_
  exact g_iret C dX7_torn_4 rfl (Option.some.inj h)
theorem mX7_torn (l : Launch) (Z : Sh) {σ : Sg}  {u : Int32}  (h : fX7_torn σ = some u) : MI l Z layX yX7_torn wsX7_torn rX7_torn [.ref (ad Z 0)] σ σ u :=
  MI.of (cc := cX7_torn) (maxL := 1) (ret := (some .int)) (by decide) rfl (Nat.le_of_ble_eq_true rfl) (fun p e s m below meth c C => kX7_torn_e C  h)
