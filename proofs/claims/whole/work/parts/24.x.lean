def rX7_feed : Room := { frames := 1, cells := 0, slots := 0, locals := 22 }
theorem uX7_feed_X5 : ∀ w ∈ wsX50, w ∈ wsX7_feed := by decide +kernel
theorem uX7_feed_X7 : ∀ w ∈ wsX70, w ∈ wsX7_feed := by decide +kernel
def fX7_feed (σ : Sg) (v1 : Int32) : Option (Sg × Int32) := (fX7_within v1 (0 : Int32) (127 : Int32)).bind fun t1 => if t1 = 0 then some (σ, (-1 : Int32)) else (fX5_add σ v1).bind fun u2 => if u2.2 = 0 then some (u2.1, (-3 : Int32)) else some (u2.1, (u2.1 32 1))
set_option maxHeartbeats 1000000 in
set_option maxRecDepth 20000 in
theorem kX7_feed_e {p : Program} {l : Launch} {e : Env} {s : State} {m : MethodId} {args : Array Value} {below : List Frame} {meth : Method} {c : Code} {Z : Sh} (C : Cx p s m args meth c cX7_feed 2 wsX7_feed RX7 (some .int) Z layX) {σ : Sg} {v1 : Int32} {u : Sg × Int32}  (h : fX7_feed σ v1 = some u) : G p l e rX7_feed s m args below meth c 2 Z layX (MQ below (QI Z layX u.1 u.2 s.heap.size) args s 0 0 (pA Z layX s.heap.size)) σ 0 [(0, .ref (ad Z 0)), (1, .int v1)] [] := by
  unfold fX7_feed at h
  refine g_iload_n (pc := 0) C dX7_feed_0 rfl 1 rfl ?_
  refine g_iconst (pc := 1) C (v := (0 : Int32)) dX7_feed_1 (by decide) ?_
  refine g_bipush (pc := 2) C (v := (127 : Int32)) dX7_feed_2 (by decide) ?_
  obtain ⟨t1, et1, h⟩ := bs h
  refine g_callSi (pc := 4) C (As := [.int v1, .int (0 : Int32), .int (127 : Int32)]) (rest := []) (va_cwS 3 C.2.2.2.2.2.1 gX7_feed_X7_within rfl rfl rfl (by decide +kernel) ⟨Nat.le_of_ble_eq_true rfl, Nat.le_of_ble_eq_true rfl⟩) (mX7_within l Z  et1) rfl rfl (Nat.le_of_ble_eq_true rfl) dX7_feed_4 ?_
  refine g_if_ne (pc := 7) C (tgt := 12) dX7_feed_7 (by decide) h (fun hc7 h => ?_) (fun hc7 h => ?_)
  · refine g_aload_n (pc := 12) C dX7_feed_12 rfl 0 rfl ?_
    refine g_getr (pc := 13) C (Cn := RX7) (T := TX7) (N := 11) (ci := 7) (k := 0) (j := 5) uX7_feed_X7 (by rfl) rfl (by decide) (by decide +kernel) (q := 32) rfl dX7_feed_13 ?_
    refine g_iload_n (pc := 16) C dX7_feed_16 rfl 1 rfl ?_
    obtain ⟨u2, eu2, h⟩ := bs h
    refine g_callVi (pc := 17) C (As := [.int v1]) (rest := []) (k := 32) (by rfl) (by rfl) (cwV 1 C.2.2.2.2.2.1 gX7_feed_X5_add rfl rfl rfl (by decide +kernel) ⟨Nat.le_of_ble_eq_true rfl, Nat.le_of_ble_eq_true rfl⟩) (mX5_add l Z  eu2) rfl rfl (Nat.le_of_ble_eq_true rfl) dX7_feed_17 ?_
    refine g_if_eq (pc := 20) C (tgt := 33) dX7_feed_20 (by decide) h (fun hc20 h => ?_) (fun hc20 h => ?_)
    · refine g_bipush (pc := 33) C (v := (-3 : Int32)) dX7_feed_33 (by decide) ?_
      exact g_iret C dX7_feed_35 (pfst h) (psnd h)
    · refine g_aload_n (pc := 23) C dX7_feed_23 rfl 0 rfl ?_
      refine g_getr (pc := 24) C (Cn := RX7) (T := TX7) (N := 11) (ci := 7) (k := 0) (j := 5) uX7_feed_X7 (by rfl) rfl (by decide) (by decide +kernel) (q := 32) rfl dX7_feed_24 ?_
      refine g_getiN (pc := 27) C (host := "MoundVotes") (Cn := RX5) (T := TX5) (N := 2) (ci := 5) (k := 32) (j := 1) uX7_feed_X5 (by rfl) rfl (by decide) (by decide +kernel) (q := 0) rfl dX7_feed_27 ?_
      refine g_goto (pc := 30) C (tgt := 35) dX7_feed_30 (by decide) ?_
      exact g_iret C dX7_feed_35 (pfst h) (psnd h)
  · refine g_iconst (pc := 10) C (v := (-1 : Int32)) dX7_feed_10 (by decide) ?_
    exact g_iret C dX7_feed_11 (pfst h) (psnd h)
theorem mX7_feed (l : Launch) (Z : Sh) {σ : Sg} {v1 : Int32} {u : Sg × Int32}  (h : fX7_feed σ v1 = some u) : MI l Z layX yX7_feed wsX7_feed rX7_feed [.ref (ad Z 0), .int v1] σ u.1 u.2 :=
  MI.of (cc := cX7_feed) (maxL := 2) (ret := (some .int)) (by decide) rfl (Nat.le_of_ble_eq_true rfl) (fun p e s m below meth c C => kX7_feed_e C  h)

def rX7_end : Room := { frames := 1, cells := 0, slots := 0, locals := 22 }
theorem uX7_end_X5 : ∀ w ∈ wsX50, w ∈ wsX7_end := by decide +kernel
theorem uX7_end_X7 : ∀ w ∈ wsX70, w ∈ wsX7_end := by decide +kernel
def fX7_end (σ : Sg) (v1 : Int32) : Option (Sg × Int32) := (fX7_within v1 (0 : Int32) (σ 32 1)).bind fun t1 => if t1 = 0 then some (σ, (-1 : Int32)) else (pf σ 32 1 v1).bind fun σ2 => some (σ2, (σ 32 1))
set_option maxHeartbeats 1000000 in
set_option maxRecDepth 20000 in
theorem kX7_end_e {p : Program} {l : Launch} {e : Env} {s : State} {m : MethodId} {args : Array Value} {below : List Frame} {meth : Method} {c : Code} {Z : Sh} (C : Cx p s m args meth c cX7_end 3 wsX7_end RX7 (some .int) Z layX) {σ : Sg} {v1 : Int32} {u : Sg × Int32}  (h : fX7_end σ v1 = some u) : G p l e rX7_end s m args below meth c 3 Z layX (MQ below (QI Z layX u.1 u.2 s.heap.size) args s 0 0 (pA Z layX s.heap.size)) σ 0 [(0, .ref (ad Z 0)), (1, .int v1)] [] := by
  unfold fX7_end at h
  refine g_iload_n (pc := 0) C dX7_end_0 rfl 1 rfl ?_
  refine g_iconst (pc := 1) C (v := (0 : Int32)) dX7_end_1 (by decide) ?_
  refine g_aload_n (pc := 2) C dX7_end_2 rfl 0 rfl ?_
  refine g_getr (pc := 3) C (Cn := RX7) (T := TX7) (N := 11) (ci := 7) (k := 0) (j := 5) uX7_end_X7 (by rfl) rfl (by decide) (by decide +kernel) (q := 32) rfl dX7_end_3 ?_
  refine g_getiN (pc := 6) C (host := "MoundVotes") (Cn := RX5) (T := TX5) (N := 2) (ci := 5) (k := 32) (j := 1) uX7_end_X5 (by rfl) rfl (by decide) (by decide +kernel) (q := 0) rfl dX7_end_6 ?_
  obtain ⟨t1, et1, h⟩ := bs h
  refine g_callSi (pc := 9) C (As := [.int v1, .int (0 : Int32), .int (σ 32 1)]) (rest := []) (va_cwS 3 C.2.2.2.2.2.1 gX7_end_X7_within rfl rfl rfl (by decide +kernel) ⟨Nat.le_of_ble_eq_true rfl, Nat.le_of_ble_eq_true rfl⟩) (mX7_within l Z  et1) rfl rfl (Nat.le_of_ble_eq_true rfl) dX7_end_9 ?_
  refine g_if_ne (pc := 12) C (tgt := 17) dX7_end_12 (by decide) h (fun hc12 h => ?_) (fun hc12 h => ?_)
  · refine g_aload_n (pc := 17) C dX7_end_17 rfl 0 rfl ?_
    refine g_getr (pc := 18) C (Cn := RX7) (T := TX7) (N := 11) (ci := 7) (k := 0) (j := 5) uX7_end_X7 (by rfl) rfl (by decide) (by decide +kernel) (q := 32) rfl dX7_end_18 ?_
    refine g_getiN (pc := 21) C (host := "MoundVotes") (Cn := RX5) (T := TX5) (N := 2) (ci := 5) (k := 32) (j := 1) uX7_end_X5 (by rfl) rfl (by decide) (by decide +kernel) (q := 0) rfl dX7_end_21 ?_
    refine g_istore_n (pc := 24) C (lv2 := [(2, .int (σ 32 1)), (0, .ref (ad Z 0)), (1, .int v1)]) dX7_end_24 rfl (by decide) rfl ?_
    refine g_aload_n (pc := 25) C dX7_end_25 rfl 1 rfl ?_
    refine g_getr (pc := 26) C (Cn := RX7) (T := TX7) (N := 11) (ci := 7) (k := 0) (j := 5) uX7_end_X7 (by rfl) rfl (by decide) (by decide +kernel) (q := 32) rfl dX7_end_26 ?_
    refine g_iload_n (pc := 29) C dX7_end_29 rfl 2 rfl ?_
    obtain ⟨σ2, eσ2, h⟩ := bs h
    refine g_putiN (pc := 30) C (host := "MoundVotes") (Cn := RX5) (T := TX5) (N := 2) (ci := 5) (k := 32) (j := 1) uX7_end_X5 (by rfl) rfl (by decide) (by decide +kernel) tyX5 tyX5_ok nmX5 rfl (by decide +kernel) rfl eσ2 dX7_end_30 ?_
    refine g_iload_n (pc := 33) C dX7_end_33 rfl 0 rfl ?_
    exact g_iret C dX7_end_34 (pfst h) (psnd h)
  · refine g_iconst (pc := 15) C (v := (-1 : Int32)) dX7_end_15 (by decide) ?_
    exact g_iret C dX7_end_16 (pfst h) (psnd h)
theorem mX7_end (l : Launch) (Z : Sh) {σ : Sg} {v1 : Int32} {u : Sg × Int32}  (h : fX7_end σ v1 = some u) : MI l Z layX yX7_end wsX7_end rX7_end [.ref (ad Z 0), .int v1] σ u.1 u.2 :=
  MI.of (cc := cX7_end) (maxL := 3) (ret := (some .int)) (by decide) rfl (Nat.le_of_ble_eq_true rfl) (fun p e s m below meth c C => kX7_end_e C  h)

def rX7_text : Room := { frames := 7, cells := 0, slots := 0, locals := 149 }
theorem uX7_text_X1 : ∀ w ∈ wsX10, w ∈ wsX7_text := by decide +kernel
theorem uX7_text_X5 : ∀ w ∈ wsX50, w ∈ wsX7_text := by decide +kernel
theorem uX7_text_X6 : ∀ w ∈ wsX60, w ∈ wsX7_text := by decide +kernel
theorem uX7_text_X7 : ∀ w ∈ wsX70, w ∈ wsX7_text := by decide +kernel
def fX7_text_l61   : Nat → Sg → Int32 → Int32 → Option (Sg × Int32)
  | 0, _, _, _ => none
  | n + 1, σ, v1, v2 => if (2 : Int32) ≤ v2 then some (σ, v1) else (wr σ 43 2 v2 (vp_nar .boolean (0 : Int32))).bind fun σ1 => fX7_text_l61 n σ1 v1 (v2 + 1)
def fX7_text (σ : Sg)  : Option (Sg × Int32) := (fX1_tellAll σ).bind fun u1 => (pf u1.1 32 1 (0 : Int32)).bind fun σ2 => if (σ2 31 2) = 0 then (fX2_copyFrom σ2 1 25).bind fun σ3 => (pf σ3 37 2 (0 : Int32)).bind fun σ4 => fX7_text_l61 2000 σ4 u1.2 (0 : Int32) else some (σ2, ((-10 : Int32) - (σ2 31 3)))
set_option maxHeartbeats 1000000 in
set_option maxRecDepth 20000 in
theorem kX7_text_l61 {p : Program} {l : Launch} {e : Env} {s : State} {m : MethodId} {args : Array Value} {below : List Frame} {meth : Method} {c : Code} {Z : Sh} (C : Cx p s m args meth c cX7_text 3 wsX7_text RX7 (some .int) Z layX)  {u : Sg × Int32}   : ∀ (n : Nat) (σ : Sg) (v1 : Int32) (v2 : Int32), fX7_text_l61 n σ v1 v2 = some u → G p l e rX7_text s m args below meth c 3 Z layX (MQ below (QI Z layX u.1 u.2 s.heap.size) args s 0 0 (pA Z layX s.heap.size)) σ 61 [(0, .ref (ad Z 0)), (1, .int v1), (2, .int v2)] [] := by
  intro n
  induction n with
  | zero => intro σ v1 v2 h; exact absurd h (by simp [fX7_text_l61])
  | succ n ih =>
    intro σ v1 v2 h
    rw [fX7_text_l61] at h
    refine g_iload_n (pc := 61) C dX7_text_61 rfl 2 rfl ?_
    refine g_iconst (pc := 62) C (v := (2 : Int32)) dX7_text_62 (by decide) ?_
    refine g_icmp_ge (pc := 63) C (tgt := 79) dX7_text_63 (by decide) h (fun hc63 h => ?_) (fun hc63 h => ?_)
    · refine g_iload_n (pc := 79) C dX7_text_79 rfl 1 rfl ?_
      exact g_iret C dX7_text_80 (pfst h) (psnd h)
    · refine g_aload_n (pc := 66) C dX7_text_66 rfl 0 rfl ?_
      refine g_getr (pc := 67) C (Cn := RX7) (T := TX7) (N := 11) (ci := 7) (k := 0) (j := 3) uX7_text_X7 (by rfl) rfl (by decide) (by decide +kernel) (q := 43) rfl dX7_text_67 ?_
      refine g_iload_n (pc := 70) C dX7_text_70 rfl 2 rfl ?_
      refine g_iconst (pc := 71) C (v := (0 : Int32)) dX7_text_71 (by decide) ?_
      obtain ⟨σ1, eσ1, h⟩ := bs h
      refine g_zast (pc := 72) C (k := 43) (n := 2) (by rfl) eσ1 dX7_text_72 ?_
      refine g_iinc (pc := 73) C (j := 2) (v := (v2 + 1)) (lv2 := [(2, .int (v2 + 1)), (0, .ref (ad Z 0)), (1, .int v1)]) dX7_text_73 rfl rfl (by decide) rfl ?_
      refine g_goto (pc := 76) C (tgt := 61) dX7_text_76 (by decide) ?_
      exact g_sub [1, 2, 0] rfl (ih _ _ _ h)
set_option maxHeartbeats 1000000 in
set_option maxRecDepth 20000 in
theorem kX7_text_e {p : Program} {l : Launch} {e : Env} {s : State} {m : MethodId} {args : Array Value} {below : List Frame} {meth : Method} {c : Code} {Z : Sh} (C : Cx p s m args meth c cX7_text 3 wsX7_text RX7 (some .int) Z layX) {σ : Sg}  {u : Sg × Int32}  (h : fX7_text σ = some u) : G p l e rX7_text s m args below meth c 3 Z layX (MQ below (QI Z layX u.1 u.2 s.heap.size) args s 0 0 (pA Z layX s.heap.size)) σ 0 [(0, .ref (ad Z 0))] [] := by
  unfold fX7_text at h
  refine g_aload_n (pc := 0) C dX7_text_0 rfl 0 rfl ?_
  refine g_getr (pc := 1) C (Cn := RX7) (T := TX7) (N := 11) (ci := 7) (k := 0) (j := 4) uX7_text_X7 (by rfl) rfl (by decide) (by decide +kernel) (q := 31) rfl dX7_text_1 ?_
  obtain ⟨u1, eu1, h⟩ := bs h
  refine g_callVi (pc := 4) C (As := []) (rest := []) (k := 31) (by rfl) (by rfl) (cwV 0 C.2.2.2.2.2.1 gX7_text_X1_tellAll rfl rfl rfl (by decide +kernel) ⟨Nat.le_of_ble_eq_true rfl, Nat.le_of_ble_eq_true rfl⟩) (mX1_tellAll l Z  eu1) rfl rfl (Nat.le_of_ble_eq_true rfl) dX7_text_4 ?_
  refine g_istore_n (pc := 7) C (lv2 := [(1, .int u1.2), (0, .ref (ad Z 0))]) dX7_text_7 rfl (by decide) rfl ?_
  refine g_aload_n (pc := 8) C dX7_text_8 rfl 1 rfl ?_
  refine g_getr (pc := 9) C (Cn := RX7) (T := TX7) (N := 11) (ci := 7) (k := 0) (j := 5) uX7_text_X7 (by rfl) rfl (by decide) (by decide +kernel) (q := 32) rfl dX7_text_9 ?_
  refine g_iconst (pc := 12) C (v := (0 : Int32)) dX7_text_12 (by decide) ?_
  obtain ⟨σ2, eσ2, h⟩ := bs h
  refine g_putiN (pc := 13) C (host := "MoundVotes") (Cn := RX5) (T := TX5) (N := 2) (ci := 5) (k := 32) (j := 1) uX7_text_X5 (by rfl) rfl (by decide) (by decide +kernel) tyX5 tyX5_ok nmX5 rfl (by decide +kernel) rfl eσ2 dX7_text_13 ?_
  refine g_aload_n (pc := 16) C dX7_text_16 rfl 1 rfl ?_
  refine g_getr (pc := 17) C (Cn := RX7) (T := TX7) (N := 11) (ci := 7) (k := 0) (j := 4) uX7_text_X7 (by rfl) rfl (by decide) (by decide +kernel) (q := 31) rfl dX7_text_17 ?_
  refine g_getiN (pc := 20) C (host := "MoundVotes") (Cn := RX1) (T := TX1) (N := 9) (ci := 1) (k := 31) (j := 2) uX7_text_X1 (by rfl) rfl (by decide) (by decide +kernel) (q := 0) rfl dX7_text_20 ?_
  refine g_if_eq (pc := 23) C (tgt := 37) dX7_text_23 (by decide) h (fun hc23 h => ?_) (fun hc23 h => ?_)
  · refine g_aload_n (pc := 37) C dX7_text_37 rfl 1 rfl ?_
    refine g_getr (pc := 38) C (Cn := RX7) (T := TX7) (N := 11) (ci := 7) (k := 0) (j := 0) uX7_text_X7 (by rfl) rfl (by decide) (by decide +kernel) (q := 1) rfl dX7_text_38 ?_
    refine g_aload_n (pc := 41) C dX7_text_41 rfl 1 rfl ?_
    refine g_getr (pc := 42) C (Cn := RX7) (T := TX7) (N := 11) (ci := 7) (k := 0) (j := 4) uX7_text_X7 (by rfl) rfl (by decide) (by decide +kernel) (q := 31) rfl dX7_text_42 ?_
    refine g_getrN (pc := 45) C (host := "MoundVotes") (Cn := RX1) (T := TX1) (N := 9) (ci := 1) (k := 31) (j := 1) uX7_text_X1 (by rfl) rfl (by decide) (by decide +kernel) (q := 25) rfl dX7_text_45 ?_
    obtain ⟨σ3, eσ3, h⟩ := bs h
    refine g_callVv (pc := 48) C (As := [.ref (ad Z 25)]) (rest := []) (k := 1) (by rfl) (by rfl) (cwV 1 C.2.2.2.2.2.1 gX7_text_X2_copyFrom rfl rfl rfl (by decide +kernel) ⟨Nat.le_of_ble_eq_true rfl, Nat.le_of_ble_eq_true rfl⟩) (mX2_copyFrom l Z isR1 isR25 eσ3) rfl rfl (Nat.le_of_ble_eq_true rfl) dX7_text_48 ?_
    refine g_aload_n (pc := 51) C dX7_text_51 rfl 1 rfl ?_
    refine g_getr (pc := 52) C (Cn := RX7) (T := TX7) (N := 11) (ci := 7) (k := 0) (j := 7) uX7_text_X7 (by rfl) rfl (by decide) (by decide +kernel) (q := 37) rfl dX7_text_52 ?_
    refine g_iconst (pc := 55) C (v := (0 : Int32)) dX7_text_55 (by decide) ?_
    obtain ⟨σ4, eσ4, h⟩ := bs h
    refine g_putiN (pc := 56) C (host := "MoundVotes") (Cn := RX6) (T := TX6) (N := 3) (ci := 6) (k := 37) (j := 2) uX7_text_X6 (by rfl) rfl (by decide) (by decide +kernel) tyX6 tyX6_ok nmX6 rfl (by decide +kernel) rfl eσ4 dX7_text_56 ?_
    refine g_iconst (pc := 59) C (v := (0 : Int32)) dX7_text_59 (by decide) ?_
    refine g_istore_n (pc := 60) C (lv2 := [(2, .int (0 : Int32)), (1, .int u1.2), (0, .ref (ad Z 0))]) dX7_text_60 rfl (by decide) rfl ?_
    exact g_sub [2, 1, 0] rfl (kX7_text_l61 C   _ _ _ _ h)
  · refine g_bipush (pc := 26) C (v := (-10 : Int32)) dX7_text_26 (by decide) ?_
    refine g_aload_n (pc := 28) C dX7_text_28 rfl 1 rfl ?_
    refine g_getr (pc := 29) C (Cn := RX7) (T := TX7) (N := 11) (ci := 7) (k := 0) (j := 4) uX7_text_X7 (by rfl) rfl (by decide) (by decide +kernel) (q := 31) rfl dX7_text_29 ?_
    refine g_getiN (pc := 32) C (host := "MoundVotes") (Cn := RX1) (T := TX1) (N := 9) (ci := 1) (k := 31) (j := 3) uX7_text_X1 (by rfl) rfl (by decide) (by decide +kernel) (q := 0) rfl dX7_text_32 ?_
    refine g_isub (pc := 35) C dX7_text_35 ?_
    exact g_iret C dX7_text_36 (pfst h) (psnd h)
theorem mX7_text (l : Launch) (Z : Sh) {σ : Sg}  {u : Sg × Int32}  (h : fX7_text σ = some u) : MI l Z layX yX7_text wsX7_text rX7_text [.ref (ad Z 0)] σ u.1 u.2 :=
  MI.of (cc := cX7_text) (maxL := 3) (ret := (some .int)) (by decide) rfl (Nat.le_of_ble_eq_true rfl) (fun p e s m below meth c C => kX7_text_e C  h)

def rX7_fault : Room := { frames := 0, cells := 0, slots := 0, locals := 0 }
theorem uX7_fault_X1 : ∀ w ∈ wsX10, w ∈ wsX7_fault := by decide +kernel
theorem uX7_fault_X7 : ∀ w ∈ wsX70, w ∈ wsX7_fault := by decide +kernel
def fX7_fault (σ : Sg)  : Option (Int32) := some (σ 31 2)
set_option maxHeartbeats 1000000 in
set_option maxRecDepth 20000 in
theorem kX7_fault_e {p : Program} {l : Launch} {e : Env} {s : State} {m : MethodId} {args : Array Value} {below : List Frame} {meth : Method} {c : Code} {Z : Sh} (C : Cx p s m args meth c cX7_fault 1 wsX7_fault RX7 (some .int) Z layX) {σ : Sg}  {u : Int32}  (h : fX7_fault σ = some u) : G p l e rX7_fault s m args below meth c 1 Z layX (MQ below (QI Z layX σ u s.heap.size) args s 0 0 (pA Z layX s.heap.size)) σ 0 [(0, .ref (ad Z 0))] [] := by
  unfold fX7_fault at h
  refine g_aload_n (pc := 0) C dX7_fault_0 rfl 0 rfl ?_
  refine g_getr (pc := 1) C (Cn := RX7) (T := TX7) (N := 11) (ci := 7) (k := 0) (j := 4) uX7_fault_X7 (by rfl) rfl (by decide) (by decide +kernel) (q := 31) rfl dX7_fault_1 ?_
  refine g_getiN (pc := 4) C (host := "MoundVotes") (Cn := RX1) (T := TX1) (N := 9) (ci := 1) (k := 31) (j := 2) uX7_fault_X1 (by rfl) rfl (by decide) (by decide +kernel) (q := 0) rfl dX7_fault_4 ?_
  exact g_iret C dX7_fault_7 rfl (Option.some.inj h)
theorem mX7_fault (l : Launch) (Z : Sh) {σ : Sg}  {u : Int32}  (h : fX7_fault σ = some u) : MI l Z layX yX7_fault wsX7_fault rX7_fault [.ref (ad Z 0)] σ σ u :=
  MI.of (cc := cX7_fault) (maxL := 1) (ret := (some .int)) (by decide) rfl (Nat.le_of_ble_eq_true rfl) (fun p e s m below meth c C => kX7_fault_e C  h)

def rX7_rule : Room := { frames := 2, cells := 0, slots := 0, locals := 44 }
theorem uX7_rule_X2 : ∀ w ∈ wsX20, w ∈ wsX7_rule := by decide +kernel
theorem uX7_rule_X7 : ∀ w ∈ wsX70, w ∈ wsX7_rule := by decide +kernel
def fX7_rule (σ : Sg) (v1 : Int32) : Option (Int32) := if v1 = (0 : Int32) then some (σ 1 0) else if v1 = (1 : Int32) then some (σ 1 1) else if v1 = (2 : Int32) then some (σ 1 2) else if v1 = (3 : Int32) then (fX2_everyBorough σ 1).bind fun t1 => (fX2_seatsIn σ 1 t1).bind fun t2 => some t2 else if v1 = (4 : Int32) then (fX2_allGuineas σ 1).bind fun t3 => some t3 else if v1 = (5 : Int32) then (fX2_ownerless σ 1).bind fun t4 => some t4 else if v1 = (6 : Int32) then (fX2_seatless σ 1).bind fun t5 => some t5 else some (-1 : Int32)
set_option maxHeartbeats 1000000 in
set_option maxRecDepth 20000 in
theorem kX7_rule_e {p : Program} {l : Launch} {e : Env} {s : State} {m : MethodId} {args : Array Value} {below : List Frame} {meth : Method} {c : Code} {Z : Sh} (C : Cx p s m args meth c cX7_rule 2 wsX7_rule RX7 (some .int) Z layX) {σ : Sg} {v1 : Int32} {u : Int32}  (h : fX7_rule σ v1 = some u) : G p l e rX7_rule s m args below meth c 2 Z layX (MQ below (QI Z layX σ u s.heap.size) args s 0 0 (pA Z layX s.heap.size)) σ 0 [(0, .ref (ad Z 0)), (1, .int v1)] [] := by
  unfold fX7_rule at h
  refine g_iload_n (pc := 0) C dX7_rule_0 rfl 1 rfl ?_
  refine g_sw (pc := 1) C (off := 43) (tgt := 44) (0 : Int32) dX7_rule_1 (by decide) (by decide) (by decide) (by decide) h (fun hc1 h => ?_) (fun hn1_0 h => ?_)
  · refine g_aload_n (pc := 44) C dX7_rule_44 rfl 0 rfl ?_
    refine g_getr (pc := 45) C (Cn := RX7) (T := TX7) (N := 11) (ci := 7) (k := 0) (j := 0) uX7_rule_X7 (by rfl) rfl (by decide) (by decide +kernel) (q := 1) rfl dX7_rule_45 ?_
    refine g_getiN (pc := 48) C (host := "MoundVotes") (Cn := RX2) (T := TX2) (N := 8) (ci := 2) (k := 1) (j := 0) uX7_rule_X2 (by rfl) rfl (by decide) (by decide +kernel) (q := 0) rfl dX7_rule_48 ?_
    exact g_iret C dX7_rule_51 rfl (Option.some.inj h)
  refine g_sw (pc := 1) C (off := 51) (tgt := 52) (1 : Int32) dX7_rule_1 (by decide) (by decide) (by decide) (by decide) h (fun hc1 h => ?_) (fun hn1_1 h => ?_)
  · refine g_aload_n (pc := 52) C dX7_rule_52 rfl 0 rfl ?_
    refine g_getr (pc := 53) C (Cn := RX7) (T := TX7) (N := 11) (ci := 7) (k := 0) (j := 0) uX7_rule_X7 (by rfl) rfl (by decide) (by decide +kernel) (q := 1) rfl dX7_rule_53 ?_
    refine g_getiN (pc := 56) C (host := "MoundVotes") (Cn := RX2) (T := TX2) (N := 8) (ci := 2) (k := 1) (j := 1) uX7_rule_X2 (by rfl) rfl (by decide) (by decide +kernel) (q := 0) rfl dX7_rule_56 ?_
    exact g_iret C dX7_rule_59 rfl (Option.some.inj h)
  refine g_sw (pc := 1) C (off := 59) (tgt := 60) (2 : Int32) dX7_rule_1 (by decide) (by decide) (by decide) (by decide) h (fun hc1 h => ?_) (fun hn1_2 h => ?_)
  · refine g_aload_n (pc := 60) C dX7_rule_60 rfl 0 rfl ?_
    refine g_getr (pc := 61) C (Cn := RX7) (T := TX7) (N := 11) (ci := 7) (k := 0) (j := 0) uX7_rule_X7 (by rfl) rfl (by decide) (by decide +kernel) (q := 1) rfl dX7_rule_61 ?_
    refine g_getiN (pc := 64) C (host := "MoundVotes") (Cn := RX2) (T := TX2) (N := 8) (ci := 2) (k := 1) (j := 2) uX7_rule_X2 (by rfl) rfl (by decide) (by decide +kernel) (q := 0) rfl dX7_rule_64 ?_
    exact g_iret C dX7_rule_67 rfl (Option.some.inj h)
  refine g_sw (pc := 1) C (off := 67) (tgt := 68) (3 : Int32) dX7_rule_1 (by decide) (by decide) (by decide) (by decide) h (fun hc1 h => ?_) (fun hn1_3 h => ?_)
  · refine g_aload_n (pc := 68) C dX7_rule_68 rfl 0 rfl ?_
    refine g_getr (pc := 69) C (Cn := RX7) (T := TX7) (N := 11) (ci := 7) (k := 0) (j := 0) uX7_rule_X7 (by rfl) rfl (by decide) (by decide +kernel) (q := 1) rfl dX7_rule_69 ?_
    refine g_aload_n (pc := 72) C dX7_rule_72 rfl 0 rfl ?_
    refine g_getr (pc := 73) C (Cn := RX7) (T := TX7) (N := 11) (ci := 7) (k := 0) (j := 0) uX7_rule_X7 (by rfl) rfl (by decide) (by decide +kernel) (q := 1) rfl dX7_rule_73 ?_
    obtain ⟨t1, et1, h⟩ := bs h
    refine g_callVi (pc := 76) C (As := []) (rest := [.ref (ad Z 1)]) (k := 1) (by rfl) (by rfl) (cwV 0 C.2.2.2.2.2.1 gX7_rule_X2_everyBorough rfl rfl rfl (by decide +kernel) ⟨Nat.le_of_ble_eq_true rfl, Nat.le_of_ble_eq_true rfl⟩) (mX2_everyBorough l Z isR1 et1) rfl rfl (Nat.le_of_ble_eq_true rfl) dX7_rule_76 ?_
    obtain ⟨t2, et2, h⟩ := bs h
    refine g_callVi (pc := 79) C (As := [.int t1]) (rest := []) (k := 1) (by rfl) (by rfl) (cwV 1 C.2.2.2.2.2.1 gX7_rule_X2_seatsIn rfl rfl rfl (by decide +kernel) ⟨Nat.le_of_ble_eq_true rfl, Nat.le_of_ble_eq_true rfl⟩) (mX2_seatsIn l Z isR1 et2) rfl rfl (Nat.le_of_ble_eq_true rfl) dX7_rule_79 ?_
    exact g_iret C dX7_rule_82 rfl (Option.some.inj h)
  refine g_sw (pc := 1) C (off := 82) (tgt := 83) (4 : Int32) dX7_rule_1 (by decide) (by decide) (by decide) (by decide) h (fun hc1 h => ?_) (fun hn1_4 h => ?_)
  · refine g_aload_n (pc := 83) C dX7_rule_83 rfl 0 rfl ?_
    refine g_getr (pc := 84) C (Cn := RX7) (T := TX7) (N := 11) (ci := 7) (k := 0) (j := 0) uX7_rule_X7 (by rfl) rfl (by decide) (by decide +kernel) (q := 1) rfl dX7_rule_84 ?_
    obtain ⟨t3, et3, h⟩ := bs h
    refine g_callVi (pc := 87) C (As := []) (rest := []) (k := 1) (by rfl) (by rfl) (cwV 0 C.2.2.2.2.2.1 gX7_rule_X2_allGuineas rfl rfl rfl (by decide +kernel) ⟨Nat.le_of_ble_eq_true rfl, Nat.le_of_ble_eq_true rfl⟩) (mX2_allGuineas l Z isR1 et3) rfl rfl (Nat.le_of_ble_eq_true rfl) dX7_rule_87 ?_
    exact g_iret C dX7_rule_90 rfl (Option.some.inj h)
  refine g_sw (pc := 1) C (off := 90) (tgt := 91) (5 : Int32) dX7_rule_1 (by decide) (by decide) (by decide) (by decide) h (fun hc1 h => ?_) (fun hn1_5 h => ?_)
  · refine g_aload_n (pc := 91) C dX7_rule_91 rfl 0 rfl ?_
    refine g_getr (pc := 92) C (Cn := RX7) (T := TX7) (N := 11) (ci := 7) (k := 0) (j := 0) uX7_rule_X7 (by rfl) rfl (by decide) (by decide +kernel) (q := 1) rfl dX7_rule_92 ?_
    obtain ⟨t4, et4, h⟩ := bs h
    refine g_callVi (pc := 95) C (As := []) (rest := []) (k := 1) (by rfl) (by rfl) (cwV 0 C.2.2.2.2.2.1 gX7_rule_X2_ownerless rfl rfl rfl (by decide +kernel) ⟨Nat.le_of_ble_eq_true rfl, Nat.le_of_ble_eq_true rfl⟩) (mX2_ownerless l Z isR1 et4) rfl rfl (Nat.le_of_ble_eq_true rfl) dX7_rule_95 ?_
    exact g_iret C dX7_rule_98 rfl (Option.some.inj h)
  refine g_sw (pc := 1) C (off := 98) (tgt := 99) (6 : Int32) dX7_rule_1 (by decide) (by decide) (by decide) (by decide) h (fun hc1 h => ?_) (fun hn1_6 h => ?_)
  · refine g_aload_n (pc := 99) C dX7_rule_99 rfl 0 rfl ?_
    refine g_getr (pc := 100) C (Cn := RX7) (T := TX7) (N := 11) (ci := 7) (k := 0) (j := 0) uX7_rule_X7 (by rfl) rfl (by decide) (by decide +kernel) (q := 1) rfl dX7_rule_100 ?_
    obtain ⟨t5, et5, h⟩ := bs h
    refine g_callVi (pc := 103) C (As := []) (rest := []) (k := 1) (by rfl) (by rfl) (cwV 0 C.2.2.2.2.2.1 gX7_rule_X2_seatless rfl rfl rfl (by decide +kernel) ⟨Nat.le_of_ble_eq_true rfl, Nat.le_of_ble_eq_true rfl⟩) (mX2_seatless l Z isR1 et5) rfl rfl (Nat.le_of_ble_eq_true rfl) dX7_rule_103 ?_
    exact g_iret C dX7_rule_106 rfl (Option.some.inj h)
  refine g_swd (pc := 1) C (tgt := 107) dX7_rule_1 (by have z0 := ne_ti hn1_0; have z1 := ne_ti hn1_1; have z2 := ne_ti hn1_2; have z3 := ne_ti hn1_3; have z4 := ne_ti hn1_4; have z5 := ne_ti hn1_5; have z6 := ne_ti hn1_6; simp at z0 z1 z2 z3 z4 z5 z6; omega) (by decide) ?_
  refine g_iconst (pc := 107) C (v := (-1 : Int32)) dX7_rule_107 (by decide) ?_
  exact g_iret C dX7_rule_108 rfl (Option.some.inj h)
theorem mX7_rule (l : Launch) (Z : Sh) {σ : Sg} {v1 : Int32} {u : Int32}  (h : fX7_rule σ v1 = some u) : MI l Z layX yX7_rule wsX7_rule rX7_rule [.ref (ad Z 0), .int v1] σ σ u :=
  MI.of (cc := cX7_rule) (maxL := 2) (ret := (some .int)) (by decide) rfl (Nat.le_of_ble_eq_true rfl) (fun p e s m below meth c C => kX7_rule_e C  h)

def rX7_lord : Room := { frames := 2, cells := 0, slots := 0, locals := 44 }
theorem uX7_lord_X2 : ∀ w ∈ wsX20, w ∈ wsX7_lord := by decide +kernel
theorem uX7_lord_X7 : ∀ w ∈ wsX70, w ∈ wsX7_lord := by decide +kernel
def fX7_lord (σ : Sg) (v1 : Int32) (v2 : Int32) : Option (Int32) := (fX2_hasLord σ 1 v1).bind fun t1 => if t1 = 0 then some (-1 : Int32) else if v2 = (0 : Int32) then (rd (σ 2) 4 v1).bind fun t2 => some t2 else if v2 = (1 : Int32) then (fX2_heldBy σ 1 ((1 : Int32) <<< (v1 &&& 31))).bind fun t3 => some t3 else if v2 = (2 : Int32) then (fX2_heldBy σ 1 ((1 : Int32) <<< (v1 &&& 31))).bind fun t4 => (fX2_seatsIn σ 1 t4).bind fun t5 => some t5 else some (-1 : Int32)
set_option maxHeartbeats 1000000 in
set_option maxRecDepth 20000 in
theorem kX7_lord_e {p : Program} {l : Launch} {e : Env} {s : State} {m : MethodId} {args : Array Value} {below : List Frame} {meth : Method} {c : Code} {Z : Sh} (C : Cx p s m args meth c cX7_lord 3 wsX7_lord RX7 (some .int) Z layX) {σ : Sg} {v1 : Int32} {v2 : Int32} {u : Int32}  (h : fX7_lord σ v1 v2 = some u) : G p l e rX7_lord s m args below meth c 3 Z layX (MQ below (QI Z layX σ u s.heap.size) args s 0 0 (pA Z layX s.heap.size)) σ 0 [(0, .ref (ad Z 0)), (1, .int v1), (2, .int v2)] [] := by
  unfold fX7_lord at h
  refine g_aload_n (pc := 0) C dX7_lord_0 rfl 0 rfl ?_
  refine g_getr (pc := 1) C (Cn := RX7) (T := TX7) (N := 11) (ci := 7) (k := 0) (j := 0) uX7_lord_X7 (by rfl) rfl (by decide) (by decide +kernel) (q := 1) rfl dX7_lord_1 ?_
  refine g_iload_n (pc := 4) C dX7_lord_4 rfl 1 rfl ?_
  obtain ⟨t1, et1, h⟩ := bs h
  refine g_callVi (pc := 5) C (As := [.int v1]) (rest := []) (k := 1) (by rfl) (by rfl) (cwV 1 C.2.2.2.2.2.1 gX7_lord_X2_hasLord rfl rfl rfl (by decide +kernel) ⟨Nat.le_of_ble_eq_true rfl, Nat.le_of_ble_eq_true rfl⟩) (mX2_hasLord l Z isR1 et1) rfl rfl (Nat.le_of_ble_eq_true rfl) dX7_lord_5 ?_
  refine g_if_ne (pc := 8) C (tgt := 13) dX7_lord_8 (by decide) h (fun hc8 h => ?_) (fun hc8 h => ?_)
  · refine g_iload_n (pc := 13) C dX7_lord_13 rfl 2 rfl ?_
    refine g_sw (pc := 14) C (off := 26) (tgt := 40) (0 : Int32) dX7_lord_14 (by decide) (by decide) (by decide) (by decide) h (fun hc14 h => ?_) (fun hn14_0 h => ?_)
    · refine g_aload_n (pc := 40) C dX7_lord_40 rfl 0 rfl ?_
      refine g_getr (pc := 41) C (Cn := RX7) (T := TX7) (N := 11) (ci := 7) (k := 0) (j := 0) uX7_lord_X7 (by rfl) rfl (by decide) (by decide +kernel) (q := 1) rfl dX7_lord_41 ?_
      refine g_getrN (pc := 44) C (host := "MoundVotes") (Cn := RX2) (T := TX2) (N := 8) (ci := 2) (k := 1) (j := 3) uX7_lord_X2 (by rfl) rfl (by decide) (by decide +kernel) (q := 2) rfl dX7_lord_44 ?_
      refine g_iload_n (pc := 47) C dX7_lord_47 rfl 1 rfl ?_
      obtain ⟨t2, et2, h⟩ := bs h
      refine g_iald (pc := 48) C (k := 2) (n := 4) (by rfl) et2 dX7_lord_48 ?_
      exact g_iret C dX7_lord_49 rfl (Option.some.inj h)
    refine g_sw (pc := 14) C (off := 36) (tgt := 50) (1 : Int32) dX7_lord_14 (by decide) (by decide) (by decide) (by decide) h (fun hc14 h => ?_) (fun hn14_1 h => ?_)
    · refine g_aload_n (pc := 50) C dX7_lord_50 rfl 0 rfl ?_
      refine g_getr (pc := 51) C (Cn := RX7) (T := TX7) (N := 11) (ci := 7) (k := 0) (j := 0) uX7_lord_X7 (by rfl) rfl (by decide) (by decide +kernel) (q := 1) rfl dX7_lord_51 ?_
      refine g_iconst (pc := 54) C (v := (1 : Int32)) dX7_lord_54 (by decide) ?_
      refine g_iload_n (pc := 55) C dX7_lord_55 rfl 1 rfl ?_
      refine g_ishl (pc := 56) C dX7_lord_56 ?_
      obtain ⟨t3, et3, h⟩ := bs h
      refine g_callVi (pc := 57) C (As := [.int ((1 : Int32) <<< (v1 &&& 31))]) (rest := []) (k := 1) (by rfl) (by rfl) (cwV 1 C.2.2.2.2.2.1 gX7_lord_X2_heldBy rfl rfl rfl (by decide +kernel) ⟨Nat.le_of_ble_eq_true rfl, Nat.le_of_ble_eq_true rfl⟩) (mX2_heldBy l Z isR1 et3) rfl rfl (Nat.le_of_ble_eq_true rfl) dX7_lord_57 ?_
      exact g_iret C dX7_lord_60 rfl (Option.some.inj h)
    refine g_sw (pc := 14) C (off := 47) (tgt := 61) (2 : Int32) dX7_lord_14 (by decide) (by decide) (by decide) (by decide) h (fun hc14 h => ?_) (fun hn14_2 h => ?_)
    · refine g_aload_n (pc := 61) C dX7_lord_61 rfl 0 rfl ?_
      refine g_getr (pc := 62) C (Cn := RX7) (T := TX7) (N := 11) (ci := 7) (k := 0) (j := 0) uX7_lord_X7 (by rfl) rfl (by decide) (by decide +kernel) (q := 1) rfl dX7_lord_62 ?_
      refine g_aload_n (pc := 65) C dX7_lord_65 rfl 0 rfl ?_
      refine g_getr (pc := 66) C (Cn := RX7) (T := TX7) (N := 11) (ci := 7) (k := 0) (j := 0) uX7_lord_X7 (by rfl) rfl (by decide) (by decide +kernel) (q := 1) rfl dX7_lord_66 ?_
      refine g_iconst (pc := 69) C (v := (1 : Int32)) dX7_lord_69 (by decide) ?_
      refine g_iload_n (pc := 70) C dX7_lord_70 rfl 1 rfl ?_
      refine g_ishl (pc := 71) C dX7_lord_71 ?_
      obtain ⟨t4, et4, h⟩ := bs h
      refine g_callVi (pc := 72) C (As := [.int ((1 : Int32) <<< (v1 &&& 31))]) (rest := [.ref (ad Z 1)]) (k := 1) (by rfl) (by rfl) (cwV 1 C.2.2.2.2.2.1 gX7_lord_X2_heldBy rfl rfl rfl (by decide +kernel) ⟨Nat.le_of_ble_eq_true rfl, Nat.le_of_ble_eq_true rfl⟩) (mX2_heldBy l Z isR1 et4) rfl rfl (Nat.le_of_ble_eq_true rfl) dX7_lord_72 ?_
      obtain ⟨t5, et5, h⟩ := bs h
      refine g_callVi (pc := 75) C (As := [.int t4]) (rest := []) (k := 1) (by rfl) (by rfl) (cwV 1 C.2.2.2.2.2.1 gX7_lord_X2_seatsIn rfl rfl rfl (by decide +kernel) ⟨Nat.le_of_ble_eq_true rfl, Nat.le_of_ble_eq_true rfl⟩) (mX2_seatsIn l Z isR1 et5) rfl rfl (Nat.le_of_ble_eq_true rfl) dX7_lord_75 ?_
      exact g_iret C dX7_lord_78 rfl (Option.some.inj h)
    refine g_swd (pc := 14) C (tgt := 79) dX7_lord_14 (by have z0 := ne_ti hn14_0; have z1 := ne_ti hn14_1; have z2 := ne_ti hn14_2; simp at z0 z1 z2; omega) (by decide) ?_
    refine g_iconst (pc := 79) C (v := (-1 : Int32)) dX7_lord_79 (by decide) ?_
    exact g_iret C dX7_lord_80 rfl (Option.some.inj h)
  · refine g_iconst (pc := 11) C (v := (-1 : Int32)) dX7_lord_11 (by decide) ?_
    exact g_iret C dX7_lord_12 rfl (Option.some.inj h)
theorem mX7_lord (l : Launch) (Z : Sh) {σ : Sg} {v1 : Int32} {v2 : Int32} {u : Int32}  (h : fX7_lord σ v1 v2 = some u) : MI l Z layX yX7_lord wsX7_lord rX7_lord [.ref (ad Z 0), .int v1, .int v2] σ σ u :=
  MI.of (cc := cX7_lord) (maxL := 3) (ret := (some .int)) (by decide) rfl (Nat.le_of_ble_eq_true rfl) (fun p e s m below meth c C => kX7_lord_e C  h)

def rX7_borough : Room := { frames := 3, cells := 0, slots := 0, locals := 64 }
theorem uX7_borough_X2 : ∀ w ∈ wsX20, w ∈ wsX7_borough := by decide +kernel
theorem uX7_borough_X7 : ∀ w ∈ wsX70, w ∈ wsX7_borough := by decide +kernel
def fX7_borough (σ : Sg) (v1 : Int32) (v2 : Int32) : Option (Int32) := (fX2_hasBorough σ 1 v1).bind fun t1 => if t1 = 0 then some (-1 : Int32) else if v2 = (0 : Int32) then (rd (σ 3) 6 v1).bind fun t2 => some t2 else if v2 = (1 : Int32) then (rd (σ 4) 6 v1).bind fun t3 => some t3 else if v2 = (2 : Int32) then (rd (σ 5) 6 v1).bind fun t4 => some t4 else if v2 = (3 : Int32) then (rd (σ 6) 6 v1).bind fun t5 => some t5 else if v2 = (4 : Int32) then (fX2_votesOf σ 1 v1).bind fun t6 => some t6 else if v2 = (5 : Int32) then (fX2_costOf σ 1 v1).bind fun t7 => some t7 else some (-1 : Int32)
set_option maxHeartbeats 1000000 in
set_option maxRecDepth 20000 in
theorem kX7_borough_e {p : Program} {l : Launch} {e : Env} {s : State} {m : MethodId} {args : Array Value} {below : List Frame} {meth : Method} {c : Code} {Z : Sh} (C : Cx p s m args meth c cX7_borough 3 wsX7_borough RX7 (some .int) Z layX) {σ : Sg} {v1 : Int32} {v2 : Int32} {u : Int32}  (h : fX7_borough σ v1 v2 = some u) : G p l e rX7_borough s m args below meth c 3 Z layX (MQ below (QI Z layX σ u s.heap.size) args s 0 0 (pA Z layX s.heap.size)) σ 0 [(0, .ref (ad Z 0)), (1, .int v1), (2, .int v2)] [] := by
  unfold fX7_borough at h
  refine g_aload_n (pc := 0) C dX7_borough_0 rfl 0 rfl ?_
  refine g_getr (pc := 1) C (Cn := RX7) (T := TX7) (N := 11) (ci := 7) (k := 0) (j := 0) uX7_borough_X7 (by rfl) rfl (by decide) (by decide +kernel) (q := 1) rfl dX7_borough_1 ?_
  refine g_iload_n (pc := 4) C dX7_borough_4 rfl 1 rfl ?_
  obtain ⟨t1, et1, h⟩ := bs h
  refine g_callVi (pc := 5) C (As := [.int v1]) (rest := []) (k := 1) (by rfl) (by rfl) (cwV 1 C.2.2.2.2.2.1 gX7_borough_X2_hasBorough rfl rfl rfl (by decide +kernel) ⟨Nat.le_of_ble_eq_true rfl, Nat.le_of_ble_eq_true rfl⟩) (mX2_hasBorough l Z isR1 et1) rfl rfl (Nat.le_of_ble_eq_true rfl) dX7_borough_5 ?_
  refine g_if_ne (pc := 8) C (tgt := 13) dX7_borough_8 (by decide) h (fun hc8 h => ?_) (fun hc8 h => ?_)
  · refine g_iload_n (pc := 13) C dX7_borough_13 rfl 2 rfl ?_
    refine g_sw (pc := 14) C (off := 38) (tgt := 52) (0 : Int32) dX7_borough_14 (by decide) (by decide) (by decide) (by decide) h (fun hc14 h => ?_) (fun hn14_0 h => ?_)
    · refine g_aload_n (pc := 52) C dX7_borough_52 rfl 0 rfl ?_
      refine g_getr (pc := 53) C (Cn := RX7) (T := TX7) (N := 11) (ci := 7) (k := 0) (j := 0) uX7_borough_X7 (by rfl) rfl (by decide) (by decide +kernel) (q := 1) rfl dX7_borough_53 ?_
      refine g_getrN (pc := 56) C (host := "MoundVotes") (Cn := RX2) (T := TX2) (N := 8) (ci := 2) (k := 1) (j := 4) uX7_borough_X2 (by rfl) rfl (by decide) (by decide +kernel) (q := 3) rfl dX7_borough_56 ?_
      refine g_iload_n (pc := 59) C dX7_borough_59 rfl 1 rfl ?_
      obtain ⟨t2, et2, h⟩ := bs h
      refine g_iald (pc := 60) C (k := 3) (n := 6) (by rfl) et2 dX7_borough_60 ?_
      exact g_iret C dX7_borough_61 rfl (Option.some.inj h)
    refine g_sw (pc := 14) C (off := 48) (tgt := 62) (1 : Int32) dX7_borough_14 (by decide) (by decide) (by decide) (by decide) h (fun hc14 h => ?_) (fun hn14_1 h => ?_)
    · refine g_aload_n (pc := 62) C dX7_borough_62 rfl 0 rfl ?_
      refine g_getr (pc := 63) C (Cn := RX7) (T := TX7) (N := 11) (ci := 7) (k := 0) (j := 0) uX7_borough_X7 (by rfl) rfl (by decide) (by decide +kernel) (q := 1) rfl dX7_borough_63 ?_
      refine g_getrN (pc := 66) C (host := "MoundVotes") (Cn := RX2) (T := TX2) (N := 8) (ci := 2) (k := 1) (j := 5) uX7_borough_X2 (by rfl) rfl (by decide) (by decide +kernel) (q := 4) rfl dX7_borough_66 ?_
      refine g_iload_n (pc := 69) C dX7_borough_69 rfl 1 rfl ?_
      obtain ⟨t3, et3, h⟩ := bs h
      refine g_iald (pc := 70) C (k := 4) (n := 6) (by rfl) et3 dX7_borough_70 ?_
      exact g_iret C dX7_borough_71 rfl (Option.some.inj h)
    refine g_sw (pc := 14) C (off := 58) (tgt := 72) (2 : Int32) dX7_borough_14 (by decide) (by decide) (by decide) (by decide) h (fun hc14 h => ?_) (fun hn14_2 h => ?_)
    · refine g_aload_n (pc := 72) C dX7_borough_72 rfl 0 rfl ?_
      refine g_getr (pc := 73) C (Cn := RX7) (T := TX7) (N := 11) (ci := 7) (k := 0) (j := 0) uX7_borough_X7 (by rfl) rfl (by decide) (by decide +kernel) (q := 1) rfl dX7_borough_73 ?_
      refine g_getrN (pc := 76) C (host := "MoundVotes") (Cn := RX2) (T := TX2) (N := 8) (ci := 2) (k := 1) (j := 6) uX7_borough_X2 (by rfl) rfl (by decide) (by decide +kernel) (q := 5) rfl dX7_borough_76 ?_
      refine g_iload_n (pc := 79) C dX7_borough_79 rfl 1 rfl ?_
      obtain ⟨t4, et4, h⟩ := bs h
      refine g_iald (pc := 80) C (k := 5) (n := 6) (by rfl) et4 dX7_borough_80 ?_
      exact g_iret C dX7_borough_81 rfl (Option.some.inj h)
    refine g_sw (pc := 14) C (off := 68) (tgt := 82) (3 : Int32) dX7_borough_14 (by decide) (by decide) (by decide) (by decide) h (fun hc14 h => ?_) (fun hn14_3 h => ?_)
    · refine g_aload_n (pc := 82) C dX7_borough_82 rfl 0 rfl ?_
      refine g_getr (pc := 83) C (Cn := RX7) (T := TX7) (N := 11) (ci := 7) (k := 0) (j := 0) uX7_borough_X7 (by rfl) rfl (by decide) (by decide +kernel) (q := 1) rfl dX7_borough_83 ?_
      refine g_getrN (pc := 86) C (host := "MoundVotes") (Cn := RX2) (T := TX2) (N := 8) (ci := 2) (k := 1) (j := 7) uX7_borough_X2 (by rfl) rfl (by decide) (by decide +kernel) (q := 6) rfl dX7_borough_86 ?_
      refine g_iload_n (pc := 89) C dX7_borough_89 rfl 1 rfl ?_
      obtain ⟨t5, et5, h⟩ := bs h
      refine g_iald (pc := 90) C (k := 6) (n := 6) (by rfl) et5 dX7_borough_90 ?_
      exact g_iret C dX7_borough_91 rfl (Option.some.inj h)
    refine g_sw (pc := 14) C (off := 78) (tgt := 92) (4 : Int32) dX7_borough_14 (by decide) (by decide) (by decide) (by decide) h (fun hc14 h => ?_) (fun hn14_4 h => ?_)
    · refine g_aload_n (pc := 92) C dX7_borough_92 rfl 0 rfl ?_
      refine g_getr (pc := 93) C (Cn := RX7) (T := TX7) (N := 11) (ci := 7) (k := 0) (j := 0) uX7_borough_X7 (by rfl) rfl (by decide) (by decide +kernel) (q := 1) rfl dX7_borough_93 ?_
      refine g_iload_n (pc := 96) C dX7_borough_96 rfl 1 rfl ?_
      obtain ⟨t6, et6, h⟩ := bs h
      refine g_callVi (pc := 97) C (As := [.int v1]) (rest := []) (k := 1) (by rfl) (by rfl) (cwV 1 C.2.2.2.2.2.1 gX7_borough_X2_votesOf rfl rfl rfl (by decide +kernel) ⟨Nat.le_of_ble_eq_true rfl, Nat.le_of_ble_eq_true rfl⟩) (mX2_votesOf l Z isR1 et6) rfl rfl (Nat.le_of_ble_eq_true rfl) dX7_borough_97 ?_
      exact g_iret C dX7_borough_100 rfl (Option.some.inj h)
    refine g_sw (pc := 14) C (off := 87) (tgt := 101) (5 : Int32) dX7_borough_14 (by decide) (by decide) (by decide) (by decide) h (fun hc14 h => ?_) (fun hn14_5 h => ?_)
    · refine g_aload_n (pc := 101) C dX7_borough_101 rfl 0 rfl ?_
      refine g_getr (pc := 102) C (Cn := RX7) (T := TX7) (N := 11) (ci := 7) (k := 0) (j := 0) uX7_borough_X7 (by rfl) rfl (by decide) (by decide +kernel) (q := 1) rfl dX7_borough_102 ?_
      refine g_iload_n (pc := 105) C dX7_borough_105 rfl 1 rfl ?_
      obtain ⟨t7, et7, h⟩ := bs h
      refine g_callVi (pc := 106) C (As := [.int v1]) (rest := []) (k := 1) (by rfl) (by rfl) (cwV 1 C.2.2.2.2.2.1 gX7_borough_X2_costOf rfl rfl rfl (by decide +kernel) ⟨Nat.le_of_ble_eq_true rfl, Nat.le_of_ble_eq_true rfl⟩) (mX2_costOf l Z isR1 et7) rfl rfl (Nat.le_of_ble_eq_true rfl) dX7_borough_106 ?_
      exact g_iret C dX7_borough_109 rfl (Option.some.inj h)
    refine g_swd (pc := 14) C (tgt := 110) dX7_borough_14 (by have z0 := ne_ti hn14_0; have z1 := ne_ti hn14_1; have z2 := ne_ti hn14_2; have z3 := ne_ti hn14_3; have z4 := ne_ti hn14_4; have z5 := ne_ti hn14_5; simp at z0 z1 z2 z3 z4 z5; omega) (by decide) ?_
    refine g_iconst (pc := 110) C (v := (-1 : Int32)) dX7_borough_110 (by decide) ?_
    exact g_iret C dX7_borough_111 rfl (Option.some.inj h)
  · refine g_iconst (pc := 11) C (v := (-1 : Int32)) dX7_borough_11 (by decide) ?_
    exact g_iret C dX7_borough_12 rfl (Option.some.inj h)
theorem mX7_borough (l : Launch) (Z : Sh) {σ : Sg} {v1 : Int32} {v2 : Int32} {u : Int32}  (h : fX7_borough σ v1 v2 = some u) : MI l Z layX yX7_borough wsX7_borough rX7_borough [.ref (ad Z 0), .int v1, .int v2] σ σ u :=
  MI.of (cc := cX7_borough) (maxL := 3) (ret := (some .int)) (by decide) rfl (Nat.le_of_ble_eq_true rfl) (fun p e s m below meth c C => kX7_borough_e C  h)

def rX7_swap : Room := { frames := 1, cells := 0, slots := 0, locals := 22 }
def fX7_swap (σ : Sg) (q : Nat) (nq : Nat) (v1 : Int32) (v2 : Int32) : Option (Sg × Int32) := (fX7_within v1 (0 : Int32) ((Int32.ofNat nq) - (1 : Int32))).bind fun t1 => if t1 = 0 then some (σ, (-1 : Int32)) else (rd (σ q) nq v1).bind fun t2 => (wr σ q nq v1 v2).bind fun σ3 => some (σ3, t2)
set_option maxHeartbeats 1000000 in
set_option maxRecDepth 20000 in
theorem kX7_swap_e {p : Program} {l : Launch} {e : Env} {s : State} {m : MethodId} {args : Array Value} {below : List Frame} {meth : Method} {c : Code} {Z : Sh} (C : Cx p s m args meth c cX7_swap 4 wsX7_swap RX7 (some .int) Z layX) {σ : Sg} {q : Nat} {nq : Nat} {v1 : Int32} {v2 : Int32} {u : Sg × Int32} (h_q : layX[q]? = some (.inr (.inl (1, nq)))) (h : fX7_swap σ q nq v1 v2 = some u) : G p l e rX7_swap s m args below meth c 4 Z layX (MQ below (QI Z layX u.1 u.2 s.heap.size) args s 0 0 (pA Z layX s.heap.size)) σ 0 [(0, .ref (ad Z q)), (1, .int v1), (2, .int v2)] [] := by
  unfold fX7_swap at h
  refine g_iload_n (pc := 0) C dX7_swap_0 rfl 1 rfl ?_
  refine g_iconst (pc := 1) C (v := (0 : Int32)) dX7_swap_1 (by decide) ?_
  refine g_aload_n (pc := 2) C dX7_swap_2 rfl 0 rfl ?_
  refine g_alen (pc := 3) C (k := q) (t := 1) (v := (Int32.ofNat nq)) h_q rfl rfl dX7_swap_3 ?_
  refine g_iconst (pc := 4) C (v := (1 : Int32)) dX7_swap_4 (by decide) ?_
  refine g_isub (pc := 5) C dX7_swap_5 ?_
  obtain ⟨t1, et1, h⟩ := bs h
  refine g_callSi (pc := 6) C (As := [.int v1, .int (0 : Int32), .int ((Int32.ofNat nq) - (1 : Int32))]) (rest := []) (va_cwS 3 C.2.2.2.2.2.1 gX7_swap_X7_within rfl rfl rfl (by decide +kernel) ⟨Nat.le_of_ble_eq_true rfl, Nat.le_of_ble_eq_true rfl⟩) (mX7_within l Z  et1) rfl rfl (Nat.le_of_ble_eq_true rfl) dX7_swap_6 ?_
  refine g_if_ne (pc := 9) C (tgt := 14) dX7_swap_9 (by decide) h (fun hc9 h => ?_) (fun hc9 h => ?_)
  · refine g_aload_n (pc := 14) C dX7_swap_14 rfl 0 rfl ?_
    refine g_iload_n (pc := 15) C dX7_swap_15 rfl 1 rfl ?_
    obtain ⟨t2, et2, h⟩ := bs h
    refine g_iald (pc := 16) C (k := q) (n := nq) h_q et2 dX7_swap_16 ?_
    refine g_istore_n (pc := 17) C (lv2 := [(3, .int t2), (0, .ref (ad Z q)), (1, .int v1), (2, .int v2)]) dX7_swap_17 rfl (by decide) rfl ?_
    refine g_aload_n (pc := 18) C dX7_swap_18 rfl 1 rfl ?_
    refine g_iload_n (pc := 19) C dX7_swap_19 rfl 2 rfl ?_
    refine g_iload_n (pc := 20) C dX7_swap_20 rfl 3 rfl ?_
    obtain ⟨σ3, eσ3, h⟩ := bs h
    refine g_iast (pc := 21) C (k := q) (n := nq) h_q eσ3 dX7_swap_21 ?_
    refine g_iload_n (pc := 22) C dX7_swap_22 rfl 0 rfl ?_
    exact g_iret C dX7_swap_23 (pfst h) (psnd h)
  · refine g_iconst (pc := 12) C (v := (-1 : Int32)) dX7_swap_12 (by decide) ?_
    exact g_iret C dX7_swap_13 (pfst h) (psnd h)
theorem mX7_swap (l : Launch) (Z : Sh) {σ : Sg} {q : Nat} {nq : Nat} {v1 : Int32} {v2 : Int32} {u : Sg × Int32} (h_q : layX[q]? = some (.inr (.inl (1, nq)))) (h : fX7_swap σ q nq v1 v2 = some u) : MI l Z layX yX7_swap wsX7_swap rX7_swap [.ref (ad Z q), .int v1, .int v2] σ u.1 u.2 :=
  MI.of (cc := cX7_swap) (maxL := 4) (ret := (some .int)) (by decide) rfl (Nat.le_of_ble_eq_true rfl) (fun p e s m below meth c C => kX7_swap_e C h_q h)

def rX7_alter : Room := { frames := 2, cells := 0, slots := 0, locals := 45 }
theorem uX7_alter_X2 : ∀ w ∈ wsX20, w ∈ wsX7_alter := by decide +kernel
theorem uX7_alter_X7 : ∀ w ∈ wsX70, w ∈ wsX7_alter := by decide +kernel
def fX7_alter (σ : Sg) (v1 : Int32) (v2 : Int32) (v3 : Int32) : Option (Sg × Int32) := (fX2_hasBorough σ 1 v1).bind fun t1 => if t1 = 0 then some (σ, (-1 : Int32)) else if v2 = (0 : Int32) then (fX7_within v3 (0 : Int32) (3 : Int32)).bind fun t2 => if t2 = 0 then some (σ, (-1 : Int32)) else (fX7_swap σ 3 6 v1 v3).bind fun u3 => some (u3.1, u3.2) else if v2 = (1 : Int32) then (fX7_within v3 (1 : Int32) (9 : Int32)).bind fun t4 => if t4 = 0 then some (σ, (-1 : Int32)) else (fX7_swap σ 4 6 v1 v3).bind fun u5 => some (u5.1, u5.2) else if v2 = (2 : Int32) then (fX7_within v3 (0 : Int32) (3 : Int32)).bind fun t6 => if t6 = 0 then some (σ, (-1 : Int32)) else (fX7_swap σ 5 6 v1 v3).bind fun u7 => some (u7.1, u7.2) else some (σ, (-1 : Int32))
set_option maxHeartbeats 1000000 in
set_option maxRecDepth 20000 in
theorem kX7_alter_e {p : Program} {l : Launch} {e : Env} {s : State} {m : MethodId} {args : Array Value} {below : List Frame} {meth : Method} {c : Code} {Z : Sh} (C : Cx p s m args meth c cX7_alter 4 wsX7_alter RX7 (some .int) Z layX) {σ : Sg} {v1 : Int32} {v2 : Int32} {v3 : Int32} {u : Sg × Int32}  (h : fX7_alter σ v1 v2 v3 = some u) : G p l e rX7_alter s m args below meth c 4 Z layX (MQ below (QI Z layX u.1 u.2 s.heap.size) args s 0 0 (pA Z layX s.heap.size)) σ 0 [(0, .ref (ad Z 0)), (1, .int v1), (2, .int v2), (3, .int v3)] [] := by
  unfold fX7_alter at h
  refine g_aload_n (pc := 0) C dX7_alter_0 rfl 0 rfl ?_
  refine g_getr (pc := 1) C (Cn := RX7) (T := TX7) (N := 11) (ci := 7) (k := 0) (j := 0) uX7_alter_X7 (by rfl) rfl (by decide) (by decide +kernel) (q := 1) rfl dX7_alter_1 ?_
  refine g_iload_n (pc := 4) C dX7_alter_4 rfl 1 rfl ?_
  obtain ⟨t1, et1, h⟩ := bs h
  refine g_callVi (pc := 5) C (As := [.int v1]) (rest := []) (k := 1) (by rfl) (by rfl) (cwV 1 C.2.2.2.2.2.1 gX7_alter_X2_hasBorough rfl rfl rfl (by decide +kernel) ⟨Nat.le_of_ble_eq_true rfl, Nat.le_of_ble_eq_true rfl⟩) (mX2_hasBorough l Z isR1 et1) rfl rfl (Nat.le_of_ble_eq_true rfl) dX7_alter_5 ?_
  refine g_if_ne (pc := 8) C (tgt := 13) dX7_alter_8 (by decide) h (fun hc8 h => ?_) (fun hc8 h => ?_)
  · refine g_iload_n (pc := 13) C dX7_alter_13 rfl 2 rfl ?_
    refine g_sw (pc := 14) C (off := 26) (tgt := 40) (0 : Int32) dX7_alter_14 (by decide) (by decide) (by decide) (by decide) h (fun hc14 h => ?_) (fun hn14_0 h => ?_)
    · refine g_iload_n (pc := 40) C dX7_alter_40 rfl 3 rfl ?_
      refine g_iconst (pc := 41) C (v := (0 : Int32)) dX7_alter_41 (by decide) ?_
      refine g_iconst (pc := 42) C (v := (3 : Int32)) dX7_alter_42 (by decide) ?_
      obtain ⟨t2, et2, h⟩ := bs h
      refine g_callSi (pc := 43) C (As := [.int v3, .int (0 : Int32), .int (3 : Int32)]) (rest := []) (va_cwS 3 C.2.2.2.2.2.1 gX7_alter_X7_within rfl rfl rfl (by decide +kernel) ⟨Nat.le_of_ble_eq_true rfl, Nat.le_of_ble_eq_true rfl⟩) (mX7_within l Z  et2) rfl rfl (Nat.le_of_ble_eq_true rfl) dX7_alter_43 ?_
      refine g_if_eq (pc := 46) C (tgt := 64) dX7_alter_46 (by decide) h (fun hc46 h => ?_) (fun hc46 h => ?_)
      · refine g_iconst (pc := 64) C (v := (-1 : Int32)) dX7_alter_64 (by decide) ?_
        exact g_iret C dX7_alter_65 (pfst h) (psnd h)
      · refine g_aload_n (pc := 49) C dX7_alter_49 rfl 0 rfl ?_
        refine g_getr (pc := 50) C (Cn := RX7) (T := TX7) (N := 11) (ci := 7) (k := 0) (j := 0) uX7_alter_X7 (by rfl) rfl (by decide) (by decide +kernel) (q := 1) rfl dX7_alter_50 ?_
        refine g_getrN (pc := 53) C (host := "MoundVotes") (Cn := RX2) (T := TX2) (N := 8) (ci := 2) (k := 1) (j := 4) uX7_alter_X2 (by rfl) rfl (by decide) (by decide +kernel) (q := 3) rfl dX7_alter_53 ?_
        refine g_iload_n (pc := 56) C dX7_alter_56 rfl 1 rfl ?_
        refine g_iload_n (pc := 57) C dX7_alter_57 rfl 3 rfl ?_
        obtain ⟨u3, eu3, h⟩ := bs h
        refine g_callSi (pc := 58) C (As := [.ref (ad Z 3), .int v1, .int v3]) (rest := []) (va_cwS 3 C.2.2.2.2.2.1 gX7_alter_X7_swap rfl rfl rfl (by decide +kernel) ⟨Nat.le_of_ble_eq_true rfl, Nat.le_of_ble_eq_true rfl⟩) (mX7_swap l Z (by rfl) eu3) rfl rfl (Nat.le_of_ble_eq_true rfl) dX7_alter_58 ?_
        refine g_goto (pc := 61) C (tgt := 65) dX7_alter_61 (by decide) ?_
        exact g_iret C dX7_alter_65 (pfst h) (psnd h)
    refine g_sw (pc := 14) C (off := 52) (tgt := 66) (1 : Int32) dX7_alter_14 (by decide) (by decide) (by decide) (by decide) h (fun hc14 h => ?_) (fun hn14_1 h => ?_)
    · refine g_iload_n (pc := 66) C dX7_alter_66 rfl 3 rfl ?_
      refine g_iconst (pc := 67) C (v := (1 : Int32)) dX7_alter_67 (by decide) ?_
      refine g_bipush (pc := 68) C (v := (9 : Int32)) dX7_alter_68 (by decide) ?_
      obtain ⟨t4, et4, h⟩ := bs h
      refine g_callSi (pc := 70) C (As := [.int v3, .int (1 : Int32), .int (9 : Int32)]) (rest := []) (va_cwS 3 C.2.2.2.2.2.1 gX7_alter_X7_within rfl rfl rfl (by decide +kernel) ⟨Nat.le_of_ble_eq_true rfl, Nat.le_of_ble_eq_true rfl⟩) (mX7_within l Z  et4) rfl rfl (Nat.le_of_ble_eq_true rfl) dX7_alter_70 ?_
      refine g_if_eq (pc := 73) C (tgt := 91) dX7_alter_73 (by decide) h (fun hc73 h => ?_) (fun hc73 h => ?_)
      · refine g_iconst (pc := 91) C (v := (-1 : Int32)) dX7_alter_91 (by decide) ?_
        exact g_iret C dX7_alter_92 (pfst h) (psnd h)
      · refine g_aload_n (pc := 76) C dX7_alter_76 rfl 0 rfl ?_
        refine g_getr (pc := 77) C (Cn := RX7) (T := TX7) (N := 11) (ci := 7) (k := 0) (j := 0) uX7_alter_X7 (by rfl) rfl (by decide) (by decide +kernel) (q := 1) rfl dX7_alter_77 ?_
        refine g_getrN (pc := 80) C (host := "MoundVotes") (Cn := RX2) (T := TX2) (N := 8) (ci := 2) (k := 1) (j := 5) uX7_alter_X2 (by rfl) rfl (by decide) (by decide +kernel) (q := 4) rfl dX7_alter_80 ?_
        refine g_iload_n (pc := 83) C dX7_alter_83 rfl 1 rfl ?_
        refine g_iload_n (pc := 84) C dX7_alter_84 rfl 3 rfl ?_
        obtain ⟨u5, eu5, h⟩ := bs h
        refine g_callSi (pc := 85) C (As := [.ref (ad Z 4), .int v1, .int v3]) (rest := []) (va_cwS 3 C.2.2.2.2.2.1 gX7_alter_X7_swap rfl rfl rfl (by decide +kernel) ⟨Nat.le_of_ble_eq_true rfl, Nat.le_of_ble_eq_true rfl⟩) (mX7_swap l Z (by rfl) eu5) rfl rfl (Nat.le_of_ble_eq_true rfl) dX7_alter_85 ?_
        refine g_goto (pc := 88) C (tgt := 92) dX7_alter_88 (by decide) ?_
        exact g_iret C dX7_alter_92 (pfst h) (psnd h)
    refine g_sw (pc := 14) C (off := 79) (tgt := 93) (2 : Int32) dX7_alter_14 (by decide) (by decide) (by decide) (by decide) h (fun hc14 h => ?_) (fun hn14_2 h => ?_)
    · refine g_iload_n (pc := 93) C dX7_alter_93 rfl 3 rfl ?_
      refine g_iconst (pc := 94) C (v := (0 : Int32)) dX7_alter_94 (by decide) ?_
      refine g_iconst (pc := 95) C (v := (3 : Int32)) dX7_alter_95 (by decide) ?_
      obtain ⟨t6, et6, h⟩ := bs h
      refine g_callSi (pc := 96) C (As := [.int v3, .int (0 : Int32), .int (3 : Int32)]) (rest := []) (va_cwS 3 C.2.2.2.2.2.1 gX7_alter_X7_within rfl rfl rfl (by decide +kernel) ⟨Nat.le_of_ble_eq_true rfl, Nat.le_of_ble_eq_true rfl⟩) (mX7_within l Z  et6) rfl rfl (Nat.le_of_ble_eq_true rfl) dX7_alter_96 ?_
      refine g_if_eq (pc := 99) C (tgt := 117) dX7_alter_99 (by decide) h (fun hc99 h => ?_) (fun hc99 h => ?_)
      · refine g_iconst (pc := 117) C (v := (-1 : Int32)) dX7_alter_117 (by decide) ?_
        exact g_iret C dX7_alter_118 (pfst h) (psnd h)
      · refine g_aload_n (pc := 102) C dX7_alter_102 rfl 0 rfl ?_
        refine g_getr (pc := 103) C (Cn := RX7) (T := TX7) (N := 11) (ci := 7) (k := 0) (j := 0) uX7_alter_X7 (by rfl) rfl (by decide) (by decide +kernel) (q := 1) rfl dX7_alter_103 ?_
        refine g_getrN (pc := 106) C (host := "MoundVotes") (Cn := RX2) (T := TX2) (N := 8) (ci := 2) (k := 1) (j := 6) uX7_alter_X2 (by rfl) rfl (by decide) (by decide +kernel) (q := 5) rfl dX7_alter_106 ?_
        refine g_iload_n (pc := 109) C dX7_alter_109 rfl 1 rfl ?_
        refine g_iload_n (pc := 110) C dX7_alter_110 rfl 3 rfl ?_
        obtain ⟨u7, eu7, h⟩ := bs h
        refine g_callSi (pc := 111) C (As := [.ref (ad Z 5), .int v1, .int v3]) (rest := []) (va_cwS 3 C.2.2.2.2.2.1 gX7_alter_X7_swap rfl rfl rfl (by decide +kernel) ⟨Nat.le_of_ble_eq_true rfl, Nat.le_of_ble_eq_true rfl⟩) (mX7_swap l Z (by rfl) eu7) rfl rfl (Nat.le_of_ble_eq_true rfl) dX7_alter_111 ?_
        refine g_goto (pc := 114) C (tgt := 118) dX7_alter_114 (by decide) ?_
        exact g_iret C dX7_alter_118 (pfst h) (psnd h)
    refine g_swd (pc := 14) C (tgt := 119) dX7_alter_14 (by have z0 := ne_ti hn14_0; have z1 := ne_ti hn14_1; have z2 := ne_ti hn14_2; simp at z0 z1 z2; omega) (by decide) ?_
    refine g_iconst (pc := 119) C (v := (-1 : Int32)) dX7_alter_119 (by decide) ?_
    exact g_iret C dX7_alter_120 (pfst h) (psnd h)
  · refine g_iconst (pc := 11) C (v := (-1 : Int32)) dX7_alter_11 (by decide) ?_
    exact g_iret C dX7_alter_12 (pfst h) (psnd h)
theorem mX7_alter (l : Launch) (Z : Sh) {σ : Sg} {v1 : Int32} {v2 : Int32} {v3 : Int32} {u : Sg × Int32}  (h : fX7_alter σ v1 v2 v3 = some u) : MI l Z layX yX7_alter wsX7_alter rX7_alter [.ref (ad Z 0), .int v1, .int v2, .int v3] σ u.1 u.2 :=
  MI.of (cc := cX7_alter) (maxL := 4) (ret := (some .int)) (by decide) rfl (Nat.le_of_ble_eq_true rfl) (fun p e s m below meth c C => kX7_alter_e C  h)

def rX7_give : Room := { frames := 2, cells := 0, slots := 0, locals := 45 }
theorem uX7_give_X2 : ∀ w ∈ wsX20, w ∈ wsX7_give := by decide +kernel
theorem uX7_give_X7 : ∀ w ∈ wsX70, w ∈ wsX7_give := by decide +kernel
def fX7_give_b30 (v1 : Int32) (v2 : Int32)  (σ : Sg) : Option (Sg × Int32) := (fX7_swap σ 6 6 v1 v2).bind fun u1 => some (u1.1, u1.2)
def fX7_give (σ : Sg) (v1 : Int32) (v2 : Int32) : Option (Sg × Int32) := (fX2_hasBorough σ 1 v1).bind fun t1 => if t1 = 0 then some (σ, (-1 : Int32)) else if v2 = (-4 : Int32) then fX7_give_b30 v1 v2 σ else (fX2_hasLord σ 1 v2).bind fun t2 => if t2 = 0 then some (σ, (-1 : Int32)) else fX7_give_b30 v1 v2 σ
set_option maxHeartbeats 1000000 in
set_option maxRecDepth 20000 in
theorem kX7_give_b30 {p : Program} {l : Launch} {e : Env} {s : State} {m : MethodId} {args : Array Value} {below : List Frame} {meth : Method} {c : Code} {Z : Sh} (C : Cx p s m args meth c cX7_give 3 wsX7_give RX7 (some .int) Z layX) {v1 : Int32} {v2 : Int32} {u : Sg × Int32}   {σ : Sg} (h : fX7_give_b30 v1 v2 σ = some u) : G p l e rX7_give s m args below meth c 3 Z layX (MQ below (QI Z layX u.1 u.2 s.heap.size) args s 0 0 (pA Z layX s.heap.size)) σ 30 [(0, .ref (ad Z 0)), (1, .int v1), (2, .int v2)] [] := by
  unfold fX7_give_b30 at h
  refine g_aload_n (pc := 30) C dX7_give_30 rfl 0 rfl ?_
  refine g_getr (pc := 31) C (Cn := RX7) (T := TX7) (N := 11) (ci := 7) (k := 0) (j := 0) uX7_give_X7 (by rfl) rfl (by decide) (by decide +kernel) (q := 1) rfl dX7_give_31 ?_
  refine g_getrN (pc := 34) C (host := "MoundVotes") (Cn := RX2) (T := TX2) (N := 8) (ci := 2) (k := 1) (j := 7) uX7_give_X2 (by rfl) rfl (by decide) (by decide +kernel) (q := 6) rfl dX7_give_34 ?_
  refine g_iload_n (pc := 37) C dX7_give_37 rfl 1 rfl ?_
  refine g_iload_n (pc := 38) C dX7_give_38 rfl 2 rfl ?_
  obtain ⟨u1, eu1, h⟩ := bs h
  refine g_callSi (pc := 39) C (As := [.ref (ad Z 6), .int v1, .int v2]) (rest := []) (va_cwS 3 C.2.2.2.2.2.1 gX7_give_X7_swap rfl rfl rfl (by decide +kernel) ⟨Nat.le_of_ble_eq_true rfl, Nat.le_of_ble_eq_true rfl⟩) (mX7_swap l Z (by rfl) eu1) rfl rfl (Nat.le_of_ble_eq_true rfl) dX7_give_39 ?_
  exact g_iret C dX7_give_42 (pfst h) (psnd h)
set_option maxHeartbeats 1000000 in
set_option maxRecDepth 20000 in
theorem kX7_give_e {p : Program} {l : Launch} {e : Env} {s : State} {m : MethodId} {args : Array Value} {below : List Frame} {meth : Method} {c : Code} {Z : Sh} (C : Cx p s m args meth c cX7_give 3 wsX7_give RX7 (some .int) Z layX) {σ : Sg} {v1 : Int32} {v2 : Int32} {u : Sg × Int32}  (h : fX7_give σ v1 v2 = some u) : G p l e rX7_give s m args below meth c 3 Z layX (MQ below (QI Z layX u.1 u.2 s.heap.size) args s 0 0 (pA Z layX s.heap.size)) σ 0 [(0, .ref (ad Z 0)), (1, .int v1), (2, .int v2)] [] := by
  unfold fX7_give at h
  refine g_aload_n (pc := 0) C dX7_give_0 rfl 0 rfl ?_
  refine g_getr (pc := 1) C (Cn := RX7) (T := TX7) (N := 11) (ci := 7) (k := 0) (j := 0) uX7_give_X7 (by rfl) rfl (by decide) (by decide +kernel) (q := 1) rfl dX7_give_1 ?_
  refine g_iload_n (pc := 4) C dX7_give_4 rfl 1 rfl ?_
  obtain ⟨t1, et1, h⟩ := bs h
  refine g_callVi (pc := 5) C (As := [.int v1]) (rest := []) (k := 1) (by rfl) (by rfl) (cwV 1 C.2.2.2.2.2.1 gX7_give_X2_hasBorough rfl rfl rfl (by decide +kernel) ⟨Nat.le_of_ble_eq_true rfl, Nat.le_of_ble_eq_true rfl⟩) (mX2_hasBorough l Z isR1 et1) rfl rfl (Nat.le_of_ble_eq_true rfl) dX7_give_5 ?_
  refine g_if_eq (pc := 8) C (tgt := 28) dX7_give_8 (by decide) h (fun hc8 h => ?_) (fun hc8 h => ?_)
  · refine g_iconst (pc := 28) C (v := (-1 : Int32)) dX7_give_28 (by decide) ?_
    exact g_iret C dX7_give_29 (pfst h) (psnd h)
  · refine g_iload_n (pc := 11) C dX7_give_11 rfl 2 rfl ?_
    refine g_bipush (pc := 12) C (v := (-4 : Int32)) dX7_give_12 (by decide) ?_
    refine g_icmp_eq (pc := 14) C (tgt := 30) dX7_give_14 (by decide) h (fun hc14 h => ?_) (fun hc14 h => ?_)
    · exact g_sub [0, 1, 2] rfl (kX7_give_b30 C    h)
    · refine g_aload_n (pc := 17) C dX7_give_17 rfl 0 rfl ?_
      refine g_getr (pc := 18) C (Cn := RX7) (T := TX7) (N := 11) (ci := 7) (k := 0) (j := 0) uX7_give_X7 (by rfl) rfl (by decide) (by decide +kernel) (q := 1) rfl dX7_give_18 ?_
      refine g_iload_n (pc := 21) C dX7_give_21 rfl 2 rfl ?_
      obtain ⟨t2, et2, h⟩ := bs h
      refine g_callVi (pc := 22) C (As := [.int v2]) (rest := []) (k := 1) (by rfl) (by rfl) (cwV 1 C.2.2.2.2.2.1 gX7_give_X2_hasLord rfl rfl rfl (by decide +kernel) ⟨Nat.le_of_ble_eq_true rfl, Nat.le_of_ble_eq_true rfl⟩) (mX2_hasLord l Z isR1 et2) rfl rfl (Nat.le_of_ble_eq_true rfl) dX7_give_22 ?_
      refine g_if_ne (pc := 25) C (tgt := 30) dX7_give_25 (by decide) h (fun hc25 h => ?_) (fun hc25 h => ?_)
      · exact g_sub [0, 1, 2] rfl (kX7_give_b30 C    h)
      · refine g_iconst (pc := 28) C (v := (-1 : Int32)) dX7_give_28 (by decide) ?_
        exact g_iret C dX7_give_29 (pfst h) (psnd h)
theorem mX7_give (l : Launch) (Z : Sh) {σ : Sg} {v1 : Int32} {v2 : Int32} {u : Sg × Int32}  (h : fX7_give σ v1 v2 = some u) : MI l Z layX yX7_give wsX7_give rX7_give [.ref (ad Z 0), .int v1, .int v2] σ u.1 u.2 :=
  MI.of (cc := cX7_give) (maxL := 3) (ret := (some .int)) (by decide) rfl (Nat.le_of_ble_eq_true rfl) (fun p e s m below meth c C => kX7_give_e C  h)

def rX7_purse : Room := { frames := 2, cells := 0, slots := 0, locals := 45 }
theorem uX7_purse_X2 : ∀ w ∈ wsX20, w ∈ wsX7_purse := by decide +kernel
theorem uX7_purse_X7 : ∀ w ∈ wsX70, w ∈ wsX7_purse := by decide +kernel
def fX7_purse (σ : Sg) (v1 : Int32) (v2 : Int32) : Option (Sg × Int32) := (fX2_hasLord σ 1 v1).bind fun t1 => if t1 = 0 then some (σ, (-1 : Int32)) else (fX7_within v2 (0 : Int32) (99 : Int32)).bind fun t2 => if t2 = 0 then some (σ, (-1 : Int32)) else (fX7_swap σ 2 4 v1 v2).bind fun u3 => some (u3.1, u3.2)
set_option maxHeartbeats 1000000 in
set_option maxRecDepth 20000 in
theorem kX7_purse_e {p : Program} {l : Launch} {e : Env} {s : State} {m : MethodId} {args : Array Value} {below : List Frame} {meth : Method} {c : Code} {Z : Sh} (C : Cx p s m args meth c cX7_purse 3 wsX7_purse RX7 (some .int) Z layX) {σ : Sg} {v1 : Int32} {v2 : Int32} {u : Sg × Int32}  (h : fX7_purse σ v1 v2 = some u) : G p l e rX7_purse s m args below meth c 3 Z layX (MQ below (QI Z layX u.1 u.2 s.heap.size) args s 0 0 (pA Z layX s.heap.size)) σ 0 [(0, .ref (ad Z 0)), (1, .int v1), (2, .int v2)] [] := by
  unfold fX7_purse at h
  refine g_aload_n (pc := 0) C dX7_purse_0 rfl 0 rfl ?_
  refine g_getr (pc := 1) C (Cn := RX7) (T := TX7) (N := 11) (ci := 7) (k := 0) (j := 0) uX7_purse_X7 (by rfl) rfl (by decide) (by decide +kernel) (q := 1) rfl dX7_purse_1 ?_
  refine g_iload_n (pc := 4) C dX7_purse_4 rfl 1 rfl ?_
  obtain ⟨t1, et1, h⟩ := bs h
  refine g_callVi (pc := 5) C (As := [.int v1]) (rest := []) (k := 1) (by rfl) (by rfl) (cwV 1 C.2.2.2.2.2.1 gX7_purse_X2_hasLord rfl rfl rfl (by decide +kernel) ⟨Nat.le_of_ble_eq_true rfl, Nat.le_of_ble_eq_true rfl⟩) (mX2_hasLord l Z isR1 et1) rfl rfl (Nat.le_of_ble_eq_true rfl) dX7_purse_5 ?_
  refine g_if_eq (pc := 8) C (tgt := 21) dX7_purse_8 (by decide) h (fun hc8 h => ?_) (fun hc8 h => ?_)
  · refine g_iconst (pc := 21) C (v := (-1 : Int32)) dX7_purse_21 (by decide) ?_
    exact g_iret C dX7_purse_22 (pfst h) (psnd h)
  · refine g_iload_n (pc := 11) C dX7_purse_11 rfl 2 rfl ?_
    refine g_iconst (pc := 12) C (v := (0 : Int32)) dX7_purse_12 (by decide) ?_
    refine g_bipush (pc := 13) C (v := (99 : Int32)) dX7_purse_13 (by decide) ?_
    obtain ⟨t2, et2, h⟩ := bs h
    refine g_callSi (pc := 15) C (As := [.int v2, .int (0 : Int32), .int (99 : Int32)]) (rest := []) (va_cwS 3 C.2.2.2.2.2.1 gX7_purse_X7_within rfl rfl rfl (by decide +kernel) ⟨Nat.le_of_ble_eq_true rfl, Nat.le_of_ble_eq_true rfl⟩) (mX7_within l Z  et2) rfl rfl (Nat.le_of_ble_eq_true rfl) dX7_purse_15 ?_
    refine g_if_ne (pc := 18) C (tgt := 23) dX7_purse_18 (by decide) h (fun hc18 h => ?_) (fun hc18 h => ?_)
    · refine g_aload_n (pc := 23) C dX7_purse_23 rfl 0 rfl ?_
      refine g_getr (pc := 24) C (Cn := RX7) (T := TX7) (N := 11) (ci := 7) (k := 0) (j := 0) uX7_purse_X7 (by rfl) rfl (by decide) (by decide +kernel) (q := 1) rfl dX7_purse_24 ?_
      refine g_getrN (pc := 27) C (host := "MoundVotes") (Cn := RX2) (T := TX2) (N := 8) (ci := 2) (k := 1) (j := 3) uX7_purse_X2 (by rfl) rfl (by decide) (by decide +kernel) (q := 2) rfl dX7_purse_27 ?_
      refine g_iload_n (pc := 30) C dX7_purse_30 rfl 1 rfl ?_
      refine g_iload_n (pc := 31) C dX7_purse_31 rfl 2 rfl ?_
      obtain ⟨u3, eu3, h⟩ := bs h
      refine g_callSi (pc := 32) C (As := [.ref (ad Z 2), .int v1, .int v2]) (rest := []) (va_cwS 3 C.2.2.2.2.2.1 gX7_purse_X7_swap rfl rfl rfl (by decide +kernel) ⟨Nat.le_of_ble_eq_true rfl, Nat.le_of_ble_eq_true rfl⟩) (mX7_swap l Z (by rfl) eu3) rfl rfl (Nat.le_of_ble_eq_true rfl) dX7_purse_32 ?_
      exact g_iret C dX7_purse_35 (pfst h) (psnd h)
    · refine g_iconst (pc := 21) C (v := (-1 : Int32)) dX7_purse_21 (by decide) ?_
      exact g_iret C dX7_purse_22 (pfst h) (psnd h)
theorem mX7_purse (l : Launch) (Z : Sh) {σ : Sg} {v1 : Int32} {v2 : Int32} {u : Sg × Int32}  (h : fX7_purse σ v1 v2 = some u) : MI l Z layX yX7_purse wsX7_purse rX7_purse [.ref (ad Z 0), .int v1, .int v2] σ u.1 u.2 :=
  MI.of (cc := cX7_purse) (maxL := 3) (ret := (some .int)) (by decide) rfl (Nat.le_of_ble_eq_true rfl) (fun p e s m below meth c C => kX7_purse_e C  h)

def rX7_price : Room := { frames := 1, cells := 0, slots := 0, locals := 22 }
theorem uX7_price_X2 : ∀ w ∈ wsX20, w ∈ wsX7_price := by decide +kernel
theorem uX7_price_X7 : ∀ w ∈ wsX70, w ∈ wsX7_price := by decide +kernel
def fX7_price (σ : Sg) (v1 : Int32) : Option (Sg × Int32) := (fX7_within v1 (0 : Int32) (9 : Int32)).bind fun t1 => if t1 = 0 then some (σ, (-1 : Int32)) else (pf σ 1 2 v1).bind fun σ2 => some (σ2, (σ 1 2))
set_option maxHeartbeats 1000000 in
set_option maxRecDepth 20000 in
theorem kX7_price_e {p : Program} {l : Launch} {e : Env} {s : State} {m : MethodId} {args : Array Value} {below : List Frame} {meth : Method} {c : Code} {Z : Sh} (C : Cx p s m args meth c cX7_price 3 wsX7_price RX7 (some .int) Z layX) {σ : Sg} {v1 : Int32} {u : Sg × Int32}  (h : fX7_price σ v1 = some u) : G p l e rX7_price s m args below meth c 3 Z layX (MQ below (QI Z layX u.1 u.2 s.heap.size) args s 0 0 (pA Z layX s.heap.size)) σ 0 [(0, .ref (ad Z 0)), (1, .int v1)] [] := by
  unfold fX7_price at h
  refine g_iload_n (pc := 0) C dX7_price_0 rfl 1 rfl ?_
  refine g_iconst (pc := 1) C (v := (0 : Int32)) dX7_price_1 (by decide) ?_
  refine g_bipush (pc := 2) C (v := (9 : Int32)) dX7_price_2 (by decide) ?_
  obtain ⟨t1, et1, h⟩ := bs h
  refine g_callSi (pc := 4) C (As := [.int v1, .int (0 : Int32), .int (9 : Int32)]) (rest := []) (va_cwS 3 C.2.2.2.2.2.1 gX7_price_X7_within rfl rfl rfl (by decide +kernel) ⟨Nat.le_of_ble_eq_true rfl, Nat.le_of_ble_eq_true rfl⟩) (mX7_within l Z  et1) rfl rfl (Nat.le_of_ble_eq_true rfl) dX7_price_4 ?_
  refine g_if_ne (pc := 7) C (tgt := 12) dX7_price_7 (by decide) h (fun hc7 h => ?_) (fun hc7 h => ?_)
  · refine g_aload_n (pc := 12) C dX7_price_12 rfl 0 rfl ?_
    refine g_getr (pc := 13) C (Cn := RX7) (T := TX7) (N := 11) (ci := 7) (k := 0) (j := 0) uX7_price_X7 (by rfl) rfl (by decide) (by decide +kernel) (q := 1) rfl dX7_price_13 ?_
    refine g_getiN (pc := 16) C (host := "MoundVotes") (Cn := RX2) (T := TX2) (N := 8) (ci := 2) (k := 1) (j := 2) uX7_price_X2 (by rfl) rfl (by decide) (by decide +kernel) (q := 0) rfl dX7_price_16 ?_
    refine g_istore_n (pc := 19) C (lv2 := [(2, .int (σ 1 2)), (0, .ref (ad Z 0)), (1, .int v1)]) dX7_price_19 rfl (by decide) rfl ?_
    refine g_aload_n (pc := 20) C dX7_price_20 rfl 1 rfl ?_
    refine g_getr (pc := 21) C (Cn := RX7) (T := TX7) (N := 11) (ci := 7) (k := 0) (j := 0) uX7_price_X7 (by rfl) rfl (by decide) (by decide +kernel) (q := 1) rfl dX7_price_21 ?_
    refine g_iload_n (pc := 24) C dX7_price_24 rfl 2 rfl ?_
    obtain ⟨σ2, eσ2, h⟩ := bs h
    refine g_putiN (pc := 25) C (host := "MoundVotes") (Cn := RX2) (T := TX2) (N := 8) (ci := 2) (k := 1) (j := 2) uX7_price_X2 (by rfl) rfl (by decide) (by decide +kernel) tyX2 tyX2_ok nmX2 rfl (by decide +kernel) rfl eσ2 dX7_price_25 ?_
    refine g_iload_n (pc := 28) C dX7_price_28 rfl 0 rfl ?_
    exact g_iret C dX7_price_29 (pfst h) (psnd h)
  · refine g_iconst (pc := 10) C (v := (-1 : Int32)) dX7_price_10 (by decide) ?_
    exact g_iret C dX7_price_11 (pfst h) (psnd h)
theorem mX7_price (l : Launch) (Z : Sh) {σ : Sg} {v1 : Int32} {u : Sg × Int32}  (h : fX7_price σ v1 = some u) : MI l Z layX yX7_price wsX7_price rX7_price [.ref (ad Z 0), .int v1] σ u.1 u.2 :=
  MI.of (cc := cX7_price) (maxL := 3) (ret := (some .int)) (by decide) rfl (Nat.le_of_ble_eq_true rfl) (fun p e s m below meth c C => kX7_price_e C  h)

def rX7_buy : Room := { frames := 5, cells := 0, slots := 0, locals := 110 }
theorem uX7_buy_X2 : ∀ w ∈ wsX20, w ∈ wsX7_buy := by decide +kernel
theorem uX7_buy_X7 : ∀ w ∈ wsX70, w ∈ wsX7_buy := by decide +kernel
def fX7_buy (σ : Sg) (v1 : Int32) (v2 : Int32) : Option (Sg × Int32) := (fX2_hasLord σ 1 v1).bind fun t1 => if t1 = 0 then some (σ, (-1 : Int32)) else (fX2_hasBorough σ 1 v2).bind fun t2 => if t2 = 0 then some (σ, (-1 : Int32)) else (fX2_sell σ 1 v1 v2).bind fun u3 => if u3.2 = 0 then some (u3.1, (-2 : Int32)) else (rd (u3.1 2) 4 v1).bind fun t4 => some (u3.1, t4)
set_option maxHeartbeats 1000000 in
set_option maxRecDepth 20000 in
theorem kX7_buy_e {p : Program} {l : Launch} {e : Env} {s : State} {m : MethodId} {args : Array Value} {below : List Frame} {meth : Method} {c : Code} {Z : Sh} (C : Cx p s m args meth c cX7_buy 3 wsX7_buy RX7 (some .int) Z layX) {σ : Sg} {v1 : Int32} {v2 : Int32} {u : Sg × Int32}  (h : fX7_buy σ v1 v2 = some u) : G p l e rX7_buy s m args below meth c 3 Z layX (MQ below (QI Z layX u.1 u.2 s.heap.size) args s 0 0 (pA Z layX s.heap.size)) σ 0 [(0, .ref (ad Z 0)), (1, .int v1), (2, .int v2)] [] := by
  unfold fX7_buy at h
  refine g_aload_n (pc := 0) C dX7_buy_0 rfl 0 rfl ?_
  refine g_getr (pc := 1) C (Cn := RX7) (T := TX7) (N := 11) (ci := 7) (k := 0) (j := 0) uX7_buy_X7 (by rfl) rfl (by decide) (by decide +kernel) (q := 1) rfl dX7_buy_1 ?_
  refine g_iload_n (pc := 4) C dX7_buy_4 rfl 1 rfl ?_
  obtain ⟨t1, et1, h⟩ := bs h
  refine g_callVi (pc := 5) C (As := [.int v1]) (rest := []) (k := 1) (by rfl) (by rfl) (cwV 1 C.2.2.2.2.2.1 gX7_buy_X2_hasLord rfl rfl rfl (by decide +kernel) ⟨Nat.le_of_ble_eq_true rfl, Nat.le_of_ble_eq_true rfl⟩) (mX2_hasLord l Z isR1 et1) rfl rfl (Nat.le_of_ble_eq_true rfl) dX7_buy_5 ?_
  refine g_if_eq (pc := 8) C (tgt := 22) dX7_buy_8 (by decide) h (fun hc8 h => ?_) (fun hc8 h => ?_)
  · refine g_iconst (pc := 22) C (v := (-1 : Int32)) dX7_buy_22 (by decide) ?_
    exact g_iret C dX7_buy_23 (pfst h) (psnd h)
  · refine g_aload_n (pc := 11) C dX7_buy_11 rfl 0 rfl ?_
    refine g_getr (pc := 12) C (Cn := RX7) (T := TX7) (N := 11) (ci := 7) (k := 0) (j := 0) uX7_buy_X7 (by rfl) rfl (by decide) (by decide +kernel) (q := 1) rfl dX7_buy_12 ?_
    refine g_iload_n (pc := 15) C dX7_buy_15 rfl 2 rfl ?_
    obtain ⟨t2, et2, h⟩ := bs h
    refine g_callVi (pc := 16) C (As := [.int v2]) (rest := []) (k := 1) (by rfl) (by rfl) (cwV 1 C.2.2.2.2.2.1 gX7_buy_X2_hasBorough rfl rfl rfl (by decide +kernel) ⟨Nat.le_of_ble_eq_true rfl, Nat.le_of_ble_eq_true rfl⟩) (mX2_hasBorough l Z isR1 et2) rfl rfl (Nat.le_of_ble_eq_true rfl) dX7_buy_16 ?_
    refine g_if_ne (pc := 19) C (tgt := 24) dX7_buy_19 (by decide) h (fun hc19 h => ?_) (fun hc19 h => ?_)
    · refine g_aload_n (pc := 24) C dX7_buy_24 rfl 0 rfl ?_
      refine g_getr (pc := 25) C (Cn := RX7) (T := TX7) (N := 11) (ci := 7) (k := 0) (j := 0) uX7_buy_X7 (by rfl) rfl (by decide) (by decide +kernel) (q := 1) rfl dX7_buy_25 ?_
      refine g_iload_n (pc := 28) C dX7_buy_28 rfl 1 rfl ?_
      refine g_iload_n (pc := 29) C dX7_buy_29 rfl 2 rfl ?_
      obtain ⟨u3, eu3, h⟩ := bs h
      refine g_callVi (pc := 30) C (As := [.int v1, .int v2]) (rest := []) (k := 1) (by rfl) (by rfl) (cwV 2 C.2.2.2.2.2.1 gX7_buy_X2_sell rfl rfl rfl (by decide +kernel) ⟨Nat.le_of_ble_eq_true rfl, Nat.le_of_ble_eq_true rfl⟩) (mX2_sell l Z isR1 eu3) rfl rfl (Nat.le_of_ble_eq_true rfl) dX7_buy_30 ?_
      refine g_if_eq (pc := 33) C (tgt := 48) dX7_buy_33 (by decide) h (fun hc33 h => ?_) (fun hc33 h => ?_)
      · refine g_bipush (pc := 48) C (v := (-2 : Int32)) dX7_buy_48 (by decide) ?_
        exact g_iret C dX7_buy_50 (pfst h) (psnd h)
      · refine g_aload_n (pc := 36) C dX7_buy_36 rfl 0 rfl ?_
        refine g_getr (pc := 37) C (Cn := RX7) (T := TX7) (N := 11) (ci := 7) (k := 0) (j := 0) uX7_buy_X7 (by rfl) rfl (by decide) (by decide +kernel) (q := 1) rfl dX7_buy_37 ?_
        refine g_getrN (pc := 40) C (host := "MoundVotes") (Cn := RX2) (T := TX2) (N := 8) (ci := 2) (k := 1) (j := 3) uX7_buy_X2 (by rfl) rfl (by decide) (by decide +kernel) (q := 2) rfl dX7_buy_40 ?_
        refine g_iload_n (pc := 43) C dX7_buy_43 rfl 1 rfl ?_
        obtain ⟨t4, et4, h⟩ := bs h
        refine g_iald (pc := 44) C (k := 2) (n := 4) (by rfl) et4 dX7_buy_44 ?_
        refine g_goto (pc := 45) C (tgt := 50) dX7_buy_45 (by decide) ?_
        exact g_iret C dX7_buy_50 (pfst h) (psnd h)
    · refine g_iconst (pc := 22) C (v := (-1 : Int32)) dX7_buy_22 (by decide) ?_
      exact g_iret C dX7_buy_23 (pfst h) (psnd h)
theorem mX7_buy (l : Launch) (Z : Sh) {σ : Sg} {v1 : Int32} {v2 : Int32} {u : Sg × Int32}  (h : fX7_buy σ v1 v2 = some u) : MI l Z layX yX7_buy wsX7_buy rX7_buy [.ref (ad Z 0), .int v1, .int v2] σ u.1 u.2 :=
  MI.of (cc := cX7_buy) (maxL := 3) (ret := (some .int)) (by decide) rfl (Nat.le_of_ble_eq_true rfl) (fun p e s m below meth c C => kX7_buy_e C  h)

def rX7_take : Room := { frames := 4, cells := 0, slots := 0, locals := 88 }
theorem uX7_take_X2 : ∀ w ∈ wsX20, w ∈ wsX7_take := by decide +kernel
theorem uX7_take_X4 : ∀ w ∈ wsX40, w ∈ wsX7_take := by decide +kernel
theorem uX7_take_X7 : ∀ w ∈ wsX70, w ∈ wsX7_take := by decide +kernel
def fX7_take_l48 (v1 : Int32)  : Nat → Sg → Int32 → Int32 → Option (Sg × Int32)
  | 0, _, _, _ => none
  | n + 1, σ, v2, v3 => if (σ 1 1) ≤ v3 then some (σ, v2) else (fX7_holds v2 v3).bind fun t1 => if t1 = 0 then fX7_take_l48 v1 n σ v2 (v3 + 1) else (wr σ 5 6 v3 (0 : Int32)).bind fun σ2 => fX7_take_l48 v1 n σ2 v2 (v3 + 1)
def fX7_take (σ : Sg) (v1 : Int32) : Option (Sg × Int32) := (fX7_within v1 (0 : Int32) (6 : Int32)).bind fun t1 => if t1 = 0 then some (σ, (-1 : Int32)) else (fX4_rank σ 1).bind fun σ2 => if v1 ≤ (σ2 40 1) then (fX4_first σ2 v1).bind fun t3 => fX7_take_l48 v1 2000 σ2 t3 (0 : Int32) else some (σ2, (-4 : Int32))
set_option maxHeartbeats 1000000 in
set_option maxRecDepth 20000 in
theorem kX7_take_l48 {p : Program} {l : Launch} {e : Env} {s : State} {m : MethodId} {args : Array Value} {below : List Frame} {meth : Method} {c : Code} {Z : Sh} (C : Cx p s m args meth c cX7_take 4 wsX7_take RX7 (some .int) Z layX) {v1 : Int32} {u : Sg × Int32}   : ∀ (n : Nat) (σ : Sg) (v2 : Int32) (v3 : Int32), fX7_take_l48 v1 n σ v2 v3 = some u → G p l e rX7_take s m args below meth c 4 Z layX (MQ below (QI Z layX u.1 u.2 s.heap.size) args s 0 0 (pA Z layX s.heap.size)) σ 48 [(0, .ref (ad Z 0)), (2, .int v2), (3, .int v3)] [] := by
  intro n
  induction n with
  | zero => intro σ v2 v3 h; exact absurd h (by simp [fX7_take_l48])
  | succ n ih =>
    intro σ v2 v3 h
    rw [fX7_take_l48] at h
    refine g_iload_n (pc := 48) C dX7_take_48 rfl 2 rfl ?_
    refine g_aload_n (pc := 49) C dX7_take_49 rfl 0 rfl ?_
    refine g_getr (pc := 50) C (Cn := RX7) (T := TX7) (N := 11) (ci := 7) (k := 0) (j := 0) uX7_take_X7 (by rfl) rfl (by decide) (by decide +kernel) (q := 1) rfl dX7_take_50 ?_
    refine g_getiN (pc := 53) C (host := "MoundVotes") (Cn := RX2) (T := TX2) (N := 8) (ci := 2) (k := 1) (j := 1) uX7_take_X2 (by rfl) rfl (by decide) (by decide +kernel) (q := 0) rfl dX7_take_53 ?_
    refine g_icmp_ge (pc := 56) C (tgt := 83) dX7_take_56 (by decide) h (fun hc56 h => ?_) (fun hc56 h => ?_)
    · refine g_iload_n (pc := 83) C dX7_take_83 rfl 1 rfl ?_
      exact g_iret C dX7_take_84 (pfst h) (psnd h)
    · refine g_iload_n (pc := 59) C dX7_take_59 rfl 1 rfl ?_
      refine g_iload_n (pc := 60) C dX7_take_60 rfl 2 rfl ?_
      obtain ⟨t1, et1, h⟩ := bs h
      refine g_callSi (pc := 61) C (As := [.int v2, .int v3]) (rest := []) (va_cwS 2 C.2.2.2.2.2.1 gX7_take_X7_holds rfl rfl rfl (by decide +kernel) ⟨Nat.le_of_ble_eq_true rfl, Nat.le_of_ble_eq_true rfl⟩) (mX7_holds l Z  et1) rfl rfl (Nat.le_of_ble_eq_true rfl) dX7_take_61 ?_
      refine g_if_eq (pc := 64) C (tgt := 77) dX7_take_64 (by decide) h (fun hc64 h => ?_) (fun hc64 h => ?_)
      · refine g_iinc (pc := 77) C (j := 2) (v := (v3 + 1)) (lv2 := [(3, .int (v3 + 1)), (0, .ref (ad Z 0)), (2, .int v2)]) dX7_take_77 rfl rfl (by decide) rfl ?_
        refine g_goto (pc := 80) C (tgt := 48) dX7_take_80 (by decide) ?_
        exact g_sub [1, 2, 0] rfl (ih _ _ _ h)
      · refine g_aload_n (pc := 67) C dX7_take_67 rfl 0 rfl ?_
        refine g_getr (pc := 68) C (Cn := RX7) (T := TX7) (N := 11) (ci := 7) (k := 0) (j := 0) uX7_take_X7 (by rfl) rfl (by decide) (by decide +kernel) (q := 1) rfl dX7_take_68 ?_
        refine g_getrN (pc := 71) C (host := "MoundVotes") (Cn := RX2) (T := TX2) (N := 8) (ci := 2) (k := 1) (j := 6) uX7_take_X2 (by rfl) rfl (by decide) (by decide +kernel) (q := 5) rfl dX7_take_71 ?_
        refine g_iload_n (pc := 74) C dX7_take_74 rfl 2 rfl ?_
        refine g_iconst (pc := 75) C (v := (0 : Int32)) dX7_take_75 (by decide) ?_
        obtain ⟨σ2, eσ2, h⟩ := bs h
        refine g_iast (pc := 76) C (k := 5) (n := 6) (by rfl) eσ2 dX7_take_76 ?_
        refine g_iinc (pc := 77) C (j := 2) (v := (v3 + 1)) (lv2 := [(3, .int (v3 + 1)), (0, .ref (ad Z 0)), (2, .int v2)]) dX7_take_77 rfl rfl (by decide) rfl ?_
        refine g_goto (pc := 80) C (tgt := 48) dX7_take_80 (by decide) ?_
        exact g_sub [1, 2, 0] rfl (ih _ _ _ h)
set_option maxHeartbeats 1000000 in
set_option maxRecDepth 20000 in
theorem kX7_take_e {p : Program} {l : Launch} {e : Env} {s : State} {m : MethodId} {args : Array Value} {below : List Frame} {meth : Method} {c : Code} {Z : Sh} (C : Cx p s m args meth c cX7_take 4 wsX7_take RX7 (some .int) Z layX) {σ : Sg} {v1 : Int32} {u : Sg × Int32}  (h : fX7_take σ v1 = some u) : G p l e rX7_take s m args below meth c 4 Z layX (MQ below (QI Z layX u.1 u.2 s.heap.size) args s 0 0 (pA Z layX s.heap.size)) σ 0 [(0, .ref (ad Z 0)), (1, .int v1)] [] := by
  unfold fX7_take at h
  refine g_iload_n (pc := 0) C dX7_take_0 rfl 1 rfl ?_
  refine g_iconst (pc := 1) C (v := (0 : Int32)) dX7_take_1 (by decide) ?_
  refine g_bipush (pc := 2) C (v := (6 : Int32)) dX7_take_2 (by decide) ?_
  obtain ⟨t1, et1, h⟩ := bs h
  refine g_callSi (pc := 4) C (As := [.int v1, .int (0 : Int32), .int (6 : Int32)]) (rest := []) (va_cwS 3 C.2.2.2.2.2.1 gX7_take_X7_within rfl rfl rfl (by decide +kernel) ⟨Nat.le_of_ble_eq_true rfl, Nat.le_of_ble_eq_true rfl⟩) (mX7_within l Z  et1) rfl rfl (Nat.le_of_ble_eq_true rfl) dX7_take_4 ?_
  refine g_if_ne (pc := 7) C (tgt := 12) dX7_take_7 (by decide) h (fun hc7 h => ?_) (fun hc7 h => ?_)
  · refine g_aload_n (pc := 12) C dX7_take_12 rfl 0 rfl ?_
    refine g_getr (pc := 13) C (Cn := RX7) (T := TX7) (N := 11) (ci := 7) (k := 0) (j := 8) uX7_take_X7 (by rfl) rfl (by decide) (by decide +kernel) (q := 40) rfl dX7_take_13 ?_
    refine g_aload_n (pc := 16) C dX7_take_16 rfl 0 rfl ?_
    refine g_getr (pc := 17) C (Cn := RX7) (T := TX7) (N := 11) (ci := 7) (k := 0) (j := 0) uX7_take_X7 (by rfl) rfl (by decide) (by decide +kernel) (q := 1) rfl dX7_take_17 ?_
    obtain ⟨σ2, eσ2, h⟩ := bs h
    refine g_callVv (pc := 20) C (As := [.ref (ad Z 1)]) (rest := []) (k := 40) (by rfl) (by rfl) (cwV 1 C.2.2.2.2.2.1 gX7_take_X4_rank rfl rfl rfl (by decide +kernel) ⟨Nat.le_of_ble_eq_true rfl, Nat.le_of_ble_eq_true rfl⟩) (mX4_rank l Z isR1 eσ2) rfl rfl (Nat.le_of_ble_eq_true rfl) dX7_take_20 ?_
    refine g_iload_n (pc := 23) C dX7_take_23 rfl 1 rfl ?_
    refine g_aload_n (pc := 24) C dX7_take_24 rfl 0 rfl ?_
    refine g_getr (pc := 25) C (Cn := RX7) (T := TX7) (N := 11) (ci := 7) (k := 0) (j := 8) uX7_take_X7 (by rfl) rfl (by decide) (by decide +kernel) (q := 40) rfl dX7_take_25 ?_
    refine g_getiN (pc := 28) C (host := "MoundVotes") (Cn := RX4) (T := TX4) (N := 2) (ci := 4) (k := 40) (j := 1) uX7_take_X4 (by rfl) rfl (by decide) (by decide +kernel) (q := 0) rfl dX7_take_28 ?_
    refine g_icmp_le (pc := 31) C (tgt := 37) dX7_take_31 (by decide) h (fun hc31 h => ?_) (fun hc31 h => ?_)
    · refine g_aload_n (pc := 37) C dX7_take_37 rfl 0 rfl ?_
      refine g_getr (pc := 38) C (Cn := RX7) (T := TX7) (N := 11) (ci := 7) (k := 0) (j := 8) uX7_take_X7 (by rfl) rfl (by decide) (by decide +kernel) (q := 40) rfl dX7_take_38 ?_
      refine g_iload_n (pc := 41) C dX7_take_41 rfl 1 rfl ?_
      obtain ⟨t3, et3, h⟩ := bs h
      refine g_callVi (pc := 42) C (As := [.int v1]) (rest := []) (k := 40) (by rfl) (by rfl) (cwV 1 C.2.2.2.2.2.1 gX7_take_X4_first rfl rfl rfl (by decide +kernel) ⟨Nat.le_of_ble_eq_true rfl, Nat.le_of_ble_eq_true rfl⟩) (mX4_first l Z  et3) rfl rfl (Nat.le_of_ble_eq_true rfl) dX7_take_42 ?_
      refine g_istore_n (pc := 45) C (lv2 := [(2, .int t3), (0, .ref (ad Z 0)), (1, .int v1)]) dX7_take_45 rfl (by decide) rfl ?_
      refine g_iconst (pc := 46) C (v := (0 : Int32)) dX7_take_46 (by decide) ?_
      refine g_istore_n (pc := 47) C (lv2 := [(3, .int (0 : Int32)), (2, .int t3), (0, .ref (ad Z 0)), (1, .int v1)]) dX7_take_47 rfl (by decide) rfl ?_
      exact g_sub [2, 1, 0] rfl (kX7_take_l48 C   _ _ _ _ h)
    · refine g_bipush (pc := 34) C (v := (-4 : Int32)) dX7_take_34 (by decide) ?_
      exact g_iret C dX7_take_36 (pfst h) (psnd h)
  · refine g_iconst (pc := 10) C (v := (-1 : Int32)) dX7_take_10 (by decide) ?_
    exact g_iret C dX7_take_11 (pfst h) (psnd h)
theorem mX7_take (l : Launch) (Z : Sh) {σ : Sg} {v1 : Int32} {u : Sg × Int32}  (h : fX7_take σ v1 = some u) : MI l Z layX yX7_take wsX7_take rX7_take [.ref (ad Z 0), .int v1] σ u.1 u.2 :=
  MI.of (cc := cX7_take) (maxL := 4) (ret := (some .int)) (by decide) rfl (Nat.le_of_ble_eq_true rfl) (fun p e s m below meth c C => kX7_take_e C  h)
