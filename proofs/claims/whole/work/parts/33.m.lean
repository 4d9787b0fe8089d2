def rX8_laysRow : Room := { frames := 1, cells := 0, slots := 0, locals := 23 }
theorem uX8_laysRow_X8 : ∀ w ∈ wsX80, w ∈ wsX8_laysRow := by decide +kernel
def fX8_laysRow_l15  (k7 : Sg → Int32 → Option (Sg)) : Nat → Sg → Int32 → Int32 → Option (Sg)
  | 0, _, _, _ => none
  | n + 1, σ, v1, v2 => if (σ 0 2) ≤ v2 then k7 σ (v1 + 1) else (fX8_votesOf σ v2).bind fun t1 => if t1 = v1 then (rd (σ 1) 116 ((16 : Int32) + v2)).bind fun t2 => if t2 ≤ 0 then fX8_laysRow_l15 k7 n σ v1 (v2 + 1) else (wr σ 6 6 (σ 0 20) v2).bind fun σ3 => (pf σ3 0 20 ((σ3 0 20) + (1 : Int32))).bind fun σ4 => fX8_laysRow_l15 k7 n σ4 v1 (v2 + 1) else fX8_laysRow_l15 k7 n σ v1 (v2 + 1)
def fX8_laysRow_l7   : Nat → Sg → Int32 → Option (Sg)
  | 0, _, _ => none
  | n + 1, σ, v1 => if (20 : Int32) ≤ v1 then some σ else fX8_laysRow_l15 (fun σ v1 => fX8_laysRow_l7 n σ v1) 2000 σ v1 (0 : Int32)
def fX8_laysRow (σ : Sg)  : Option (Sg) := (pf σ 0 20 (0 : Int32)).bind fun σ1 => fX8_laysRow_l7 2000 σ1 (0 : Int32)
set_option maxHeartbeats 1000000 in
set_option maxRecDepth 20000 in
theorem kX8_laysRow_l15 {p : Program} {l : Launch} {e : Env} {s : State} {m : MethodId} {args : Array Value} {below : List Frame} {meth : Method} {c : Code} {Z : Sh} (C : Cx p s m args meth c cX8_laysRow 3 wsX8_laysRow RX8 none Z layM)  {u : Sg}  {k7 : Sg → Int32 → Option (Sg)} (hk7 : ∀ (σ : Sg) (v1 : Int32), k7 σ v1 = some u → G p l e rX8_laysRow s m args below meth c 3 Z layM (MQ below (QV Z layM u s.heap.size) args s 0 0 (pA Z layM s.heap.size)) σ 7 [(0, .ref (ad Z 0)), (1, .int v1)] []) : ∀ (n : Nat) (σ : Sg) (v1 : Int32) (v2 : Int32), fX8_laysRow_l15 k7 n σ v1 v2 = some u → G p l e rX8_laysRow s m args below meth c 3 Z layM (MQ below (QV Z layM u s.heap.size) args s 0 0 (pA Z layM s.heap.size)) σ 15 [(0, .ref (ad Z 0)), (1, .int v1), (2, .int v2)] [] := by
  intro n
  induction n with
  | zero => intro σ v1 v2 h; exact absurd h (by simp [fX8_laysRow_l15])
  | succ n ih =>
    intro σ v1 v2 h
    rw [fX8_laysRow_l15] at h
    refine g_iload_n (pc := 15) C dX8_laysRow_15 rfl 2 rfl ?_
    refine g_aload_n (pc := 16) C dX8_laysRow_16 rfl 0 rfl ?_
    refine g_geti (pc := 17) C (Cn := RX8) (T := TX8) (N := 32) (ci := 8) (k := 0) (j := 2) uX8_laysRow_X8 (by rfl) rfl (by decide) (by decide +kernel) (q := 0) rfl dX8_laysRow_17 ?_
    refine g_icmp_ge (pc := 20) C (tgt := 70) dX8_laysRow_20 (by decide) h (fun hc20 h => ?_) (fun hc20 h => ?_)
    · refine g_iinc (pc := 70) C (j := 1) (v := (v1 + 1)) (lv2 := [(1, .int (v1 + 1)), (0, .ref (ad Z 0)), (2, .int v2)]) dX8_laysRow_70 rfl rfl (by decide) rfl ?_
      refine g_goto (pc := 73) C (tgt := 7) dX8_laysRow_73 (by decide) ?_
      exact g_sub [1, 0] rfl (hk7 _ _ h)
    · refine g_aload_n (pc := 23) C dX8_laysRow_23 rfl 0 rfl ?_
      refine g_iload_n (pc := 24) C dX8_laysRow_24 rfl 2 rfl ?_
      obtain ⟨t1, et1, h⟩ := bs h
      refine g_callVi (pc := 25) C (As := [.int v2]) (rest := []) (k := 0) (by rfl) (by rfl) (cwV 1 C.2.2.2.2.2.1 gX8_laysRow_X8_votesOf rfl rfl rfl (by decide +kernel) ⟨Nat.le_of_ble_eq_true rfl, Nat.le_of_ble_eq_true rfl⟩) (mX8_votesOf l Z  et1) rfl rfl (Nat.le_of_ble_eq_true rfl) dX8_laysRow_25 ?_
      refine g_iload_n (pc := 28) C dX8_laysRow_28 rfl 1 rfl ?_
      refine g_icmp_ne (pc := 29) C (tgt := 64) dX8_laysRow_29 (by decide) h (fun hc29 h => ?_) (fun hc29 h => ?_)
      · refine g_iinc (pc := 64) C (j := 2) (v := (v2 + 1)) (lv2 := [(2, .int (v2 + 1)), (0, .ref (ad Z 0)), (1, .int v1)]) dX8_laysRow_64 rfl rfl (by decide) rfl ?_
        refine g_goto (pc := 67) C (tgt := 15) dX8_laysRow_67 (by decide) ?_
        exact g_sub [1, 2, 0] rfl (ih _ _ _ h)
      · refine g_aload_n (pc := 32) C dX8_laysRow_32 rfl 0 rfl ?_
        refine g_getr (pc := 33) C (Cn := RX8) (T := TX8) (N := 32) (ci := 8) (k := 0) (j := 0) uX8_laysRow_X8 (by rfl) rfl (by decide) (by decide +kernel) (q := 1) rfl dX8_laysRow_33 ?_
        refine g_bipush (pc := 36) C (v := (16 : Int32)) dX8_laysRow_36 (by decide) ?_
        refine g_iload_n (pc := 38) C dX8_laysRow_38 rfl 2 rfl ?_
        refine g_iadd (pc := 39) C dX8_laysRow_39 ?_
        obtain ⟨t2, et2, h⟩ := bs h
        refine g_iald (pc := 40) C (k := 1) (n := 116) (by rfl) et2 dX8_laysRow_40 ?_
        refine g_if_le (pc := 41) C (tgt := 64) dX8_laysRow_41 (by decide) h (fun hc41 h => ?_) (fun hc41 h => ?_)
        · refine g_iinc (pc := 64) C (j := 2) (v := (v2 + 1)) (lv2 := [(2, .int (v2 + 1)), (0, .ref (ad Z 0)), (1, .int v1)]) dX8_laysRow_64 rfl rfl (by decide) rfl ?_
          refine g_goto (pc := 67) C (tgt := 15) dX8_laysRow_67 (by decide) ?_
          exact g_sub [1, 2, 0] rfl (ih _ _ _ h)
        · refine g_aload_n (pc := 44) C dX8_laysRow_44 rfl 0 rfl ?_
          refine g_getr (pc := 45) C (Cn := RX8) (T := TX8) (N := 32) (ci := 8) (k := 0) (j := 19) uX8_laysRow_X8 (by rfl) rfl (by decide) (by decide +kernel) (q := 6) rfl dX8_laysRow_45 ?_
          refine g_aload_n (pc := 48) C dX8_laysRow_48 rfl 0 rfl ?_
          refine g_geti (pc := 49) C (Cn := RX8) (T := TX8) (N := 32) (ci := 8) (k := 0) (j := 20) uX8_laysRow_X8 (by rfl) rfl (by decide) (by decide +kernel) (q := 0) rfl dX8_laysRow_49 ?_
          refine g_iload_n (pc := 52) C dX8_laysRow_52 rfl 2 rfl ?_
          obtain ⟨σ3, eσ3, h⟩ := bs h
          refine g_iast (pc := 53) C (k := 6) (n := 6) (by rfl) eσ3 dX8_laysRow_53 ?_
          refine g_aload_n (pc := 54) C dX8_laysRow_54 rfl 0 rfl ?_
          refine g_dup (pc := 55) C rfl dX8_laysRow_55 ?_
          refine g_geti (pc := 56) C (Cn := RX8) (T := TX8) (N := 32) (ci := 8) (k := 0) (j := 20) uX8_laysRow_X8 (by rfl) rfl (by decide) (by decide +kernel) (q := 0) rfl dX8_laysRow_56 ?_
          refine g_iconst (pc := 59) C (v := (1 : Int32)) dX8_laysRow_59 (by decide) ?_
          refine g_iadd (pc := 60) C dX8_laysRow_60 ?_
          obtain ⟨σ4, eσ4, h⟩ := bs h
          refine g_puti (pc := 61) C (Cn := RX8) (T := TX8) (N := 32) (ci := 8) (k := 0) (j := 20) uX8_laysRow_X8 (by rfl) rfl (by decide) (by decide +kernel) tyX8 tyX8_ok nmX8 rfl (by decide +kernel) rfl eσ4 dX8_laysRow_61 ?_
          refine g_iinc (pc := 64) C (j := 2) (v := (v2 + 1)) (lv2 := [(2, .int (v2 + 1)), (0, .ref (ad Z 0)), (1, .int v1)]) dX8_laysRow_64 rfl rfl (by decide) rfl ?_
          refine g_goto (pc := 67) C (tgt := 15) dX8_laysRow_67 (by decide) ?_
          exact g_sub [1, 2, 0] rfl (ih _ _ _ h)
set_option maxHeartbeats 1000000 in
set_option maxRecDepth 20000 in
theorem kX8_laysRow_l7 {p : Program} {l : Launch} {e : Env} {s : State} {m : MethodId} {args : Array Value} {below : List Frame} {meth : Method} {c : Code} {Z : Sh} (C : Cx p s m args meth c cX8_laysRow 3 wsX8_laysRow RX8 none Z layM)  {u : Sg}   : ∀ (n : Nat) (σ : Sg) (v1 : Int32), fX8_laysRow_l7 n σ v1 = some u → G p l e rX8_laysRow s m args below meth c 3 Z layM (MQ below (QV Z layM u s.heap.size) args s 0 0 (pA Z layM s.heap.size)) σ 7 [(0, .ref (ad Z 0)), (1, .int v1)] [] := by
  intro n
  induction n with
  | zero => intro σ v1 h; exact absurd h (by simp [fX8_laysRow_l7])
  | succ n ih =>
    intro σ v1 h
    rw [fX8_laysRow_l7] at h
    refine g_iload_n (pc := 7) C dX8_laysRow_7 rfl 1 rfl ?_
    refine g_bipush (pc := 8) C (v := (20 : Int32)) dX8_laysRow_8 (by decide) ?_
    refine g_icmp_ge (pc := 10) C (tgt := 76) dX8_laysRow_10 (by decide) h (fun hc10 h => ?_) (fun hc10 h => ?_)
    · exact g_vret C dX8_laysRow_76 (Option.some.inj h)
    · refine g_iconst (pc := 13) C (v := (0 : Int32)) dX8_laysRow_13 (by decide) ?_
      refine g_istore_n (pc := 14) C (lv2 := [(2, .int (0 : Int32)), (0, .ref (ad Z 0)), (1, .int v1)]) dX8_laysRow_14 rfl (by decide) rfl ?_
      exact g_sub [1, 2, 0] rfl (kX8_laysRow_l15 C  ih _ _ _ _ h)
set_option maxHeartbeats 1000000 in
set_option maxRecDepth 20000 in
theorem kX8_laysRow_e {p : Program} {l : Launch} {e : Env} {s : State} {m : MethodId} {args : Array Value} {below : List Frame} {meth : Method} {c : Code} {Z : Sh} (C : Cx p s m args meth c cX8_laysRow 3 wsX8_laysRow RX8 none Z layM) {σ : Sg}  {u : Sg}  (h : fX8_laysRow σ = some u) : G p l e rX8_laysRow s m args below meth c 3 Z layM (MQ below (QV Z layM u s.heap.size) args s 0 0 (pA Z layM s.heap.size)) σ 0 [(0, .ref (ad Z 0))] [] := by
  unfold fX8_laysRow at h
  refine g_aload_n (pc := 0) C dX8_laysRow_0 rfl 0 rfl ?_
  refine g_iconst (pc := 1) C (v := (0 : Int32)) dX8_laysRow_1 (by decide) ?_
  obtain ⟨σ1, eσ1, h⟩ := bs h
  refine g_puti (pc := 2) C (Cn := RX8) (T := TX8) (N := 32) (ci := 8) (k := 0) (j := 20) uX8_laysRow_X8 (by rfl) rfl (by decide) (by decide +kernel) tyX8 tyX8_ok nmX8 rfl (by decide +kernel) rfl eσ1 dX8_laysRow_2 ?_
  refine g_iconst (pc := 5) C (v := (0 : Int32)) dX8_laysRow_5 (by decide) ?_
  refine g_istore_n (pc := 6) C (lv2 := [(1, .int (0 : Int32)), (0, .ref (ad Z 0))]) dX8_laysRow_6 rfl (by decide) rfl ?_
  exact g_sub [1, 0] rfl (kX8_laysRow_l7 C   _ _ _ h)
theorem mX8_laysRow (l : Launch) (Z : Sh) {σ : Sg}  {u : Sg}  (h : fX8_laysRow σ = some u) : MV l Z layM yX8_laysRow wsX8_laysRow rX8_laysRow [.ref (ad Z 0)] σ u :=
  MV.of (cc := cX8_laysRow) (maxL := 3) (ret := none) (by decide) rfl (Nat.le_of_ble_eq_true rfl) (fun p e s m below meth c C => kX8_laysRow_e C  h)

def rX8_firstOf : Room := { frames := 0, cells := 0, slots := 0, locals := 0 }
theorem uX8_firstOf_X8 : ∀ w ∈ wsX80, w ∈ wsX8_firstOf := by decide +kernel
def fX8_firstOf_l4 (σ : Sg) (v1 : Int32)  : Nat → Int32 → Int32 → Option (Int32)
  | 0, _, _ => none
  | n + 1, v2, v3 => if v1 ≤ v3 then some v2 else (rd (σ 6) 6 v3).bind fun t1 => fX8_firstOf_l4 σ v1 n (v2 ||| ((1 : Int32) <<< (t1 &&& 31))) (v3 + 1)
def fX8_firstOf (σ : Sg) (v1 : Int32) : Option (Int32) := fX8_firstOf_l4 σ v1 2000 (0 : Int32) (0 : Int32)
set_option maxHeartbeats 1000000 in
set_option maxRecDepth 20000 in
theorem kX8_firstOf_l4 {p : Program} {l : Launch} {e : Env} {s : State} {m : MethodId} {args : Array Value} {below : List Frame} {meth : Method} {c : Code} {Z : Sh} (C : Cx p s m args meth c cX8_firstOf 4 wsX8_firstOf RX8 (some .int) Z layM) {σ : Sg} {v1 : Int32} {u : Int32}   : ∀ (n : Nat) (v2 : Int32) (v3 : Int32), fX8_firstOf_l4 σ v1 n v2 v3 = some u → G p l e rX8_firstOf s m args below meth c 4 Z layM (MQ below (QI Z layM σ u s.heap.size) args s 0 0 (pA Z layM s.heap.size)) σ 4 [(0, .ref (ad Z 0)), (1, .int v1), (2, .int v2), (3, .int v3)] [] := by
  intro n
  induction n with
  | zero => intro v2 v3 h; exact absurd h (by simp [fX8_firstOf_l4])
  | succ n ih =>
    intro v2 v3 h
    rw [fX8_firstOf_l4] at h
    refine g_iload_n (pc := 4) C dX8_firstOf_4 rfl 3 rfl ?_
    refine g_iload_n (pc := 5) C dX8_firstOf_5 rfl 1 rfl ?_
    refine g_icmp_ge (pc := 6) C (tgt := 26) dX8_firstOf_6 (by decide) h (fun hc6 h => ?_) (fun hc6 h => ?_)
    · refine g_iload_n (pc := 26) C dX8_firstOf_26 rfl 2 rfl ?_
      exact g_iret C dX8_firstOf_27 rfl (Option.some.inj h)
    · refine g_iload_n (pc := 9) C dX8_firstOf_9 rfl 2 rfl ?_
      refine g_iconst (pc := 10) C (v := (1 : Int32)) dX8_firstOf_10 (by decide) ?_
      refine g_aload_n (pc := 11) C dX8_firstOf_11 rfl 0 rfl ?_
      refine g_getr (pc := 12) C (Cn := RX8) (T := TX8) (N := 32) (ci := 8) (k := 0) (j := 19) uX8_firstOf_X8 (by rfl) rfl (by decide) (by decide +kernel) (q := 6) rfl dX8_firstOf_12 ?_
      refine g_iload_n (pc := 15) C dX8_firstOf_15 rfl 3 rfl ?_
      obtain ⟨t1, et1, h⟩ := bs h
      refine g_iald (pc := 16) C (k := 6) (n := 6) (by rfl) et1 dX8_firstOf_16 ?_
      refine g_ishl (pc := 17) C dX8_firstOf_17 ?_
      refine g_ior (pc := 18) C dX8_firstOf_18 ?_
      refine g_istore_n (pc := 19) C (lv2 := [(2, .int (v2 ||| ((1 : Int32) <<< (t1 &&& 31)))), (0, .ref (ad Z 0)), (1, .int v1), (3, .int v3)]) dX8_firstOf_19 rfl (by decide) rfl ?_
      refine g_iinc (pc := 20) C (j := 3) (v := (v3 + 1)) (lv2 := [(3, .int (v3 + 1)), (2, .int (v2 ||| ((1 : Int32) <<< (t1 &&& 31)))), (0, .ref (ad Z 0)), (1, .int v1)]) dX8_firstOf_20 rfl rfl (by decide) rfl ?_
      refine g_goto (pc := 23) C (tgt := 4) dX8_firstOf_23 (by decide) ?_
      exact g_sub [2, 3, 1, 0] rfl (ih _ _ h)
set_option maxHeartbeats 1000000 in
set_option maxRecDepth 20000 in
theorem kX8_firstOf_e {p : Program} {l : Launch} {e : Env} {s : State} {m : MethodId} {args : Array Value} {below : List Frame} {meth : Method} {c : Code} {Z : Sh} (C : Cx p s m args meth c cX8_firstOf 4 wsX8_firstOf RX8 (some .int) Z layM) {σ : Sg} {v1 : Int32} {u : Int32}  (h : fX8_firstOf σ v1 = some u) : G p l e rX8_firstOf s m args below meth c 4 Z layM (MQ below (QI Z layM σ u s.heap.size) args s 0 0 (pA Z layM s.heap.size)) σ 0 [(0, .ref (ad Z 0)), (1, .int v1)] [] := by
  unfold fX8_firstOf at h
  refine g_iconst (pc := 0) C (v := (0 : Int32)) dX8_firstOf_0 (by decide) ?_
  refine g_istore_n (pc := 1) C (lv2 := [(2, .int (0 : Int32)), (0, .ref (ad Z 0)), (1, .int v1)]) dX8_firstOf_1 rfl (by decide) rfl ?_
  refine g_iconst (pc := 2) C (v := (0 : Int32)) dX8_firstOf_2 (by decide) ?_
  refine g_istore_n (pc := 3) C (lv2 := [(3, .int (0 : Int32)), (2, .int (0 : Int32)), (0, .ref (ad Z 0)), (1, .int v1)]) dX8_firstOf_3 rfl (by decide) rfl ?_
  exact g_sub [2, 3, 1, 0] rfl (kX8_firstOf_l4 C   _ _ _ h)
theorem mX8_firstOf (l : Launch) (Z : Sh) {σ : Sg} {v1 : Int32} {u : Int32}  (h : fX8_firstOf σ v1 = some u) : MI l Z layM yX8_firstOf wsX8_firstOf rX8_firstOf [.ref (ad Z 0), .int v1] σ σ u :=
  MI.of (cc := cX8_firstOf) (maxL := 4) (ret := (some .int)) (by decide) rfl (Nat.le_of_ble_eq_true rfl) (fun p e s m below meth c C => kX8_firstOf_e C  h)

def rX8_take : Room := { frames := 2, cells := 0, slots := 0, locals := 45 }
theorem uX8_take_X8 : ∀ w ∈ wsX80, w ∈ wsX8_take := by decide +kernel
def fX8_take_l37 (v1 : Int32)  : Nat → Sg → Int32 → Int32 → Option (Sg × Int32)
  | 0, _, _, _ => none
  | n + 1, σ, v2, v3 => if v1 ≤ v3 then some (σ, v2) else (rd (σ 6) 6 v3).bind fun t1 => (wr σ 1 116 ((16 : Int32) + t1) (0 : Int32)).bind fun σ2 => fX8_take_l37 v1 n σ2 v2 (v3 + 1)
def fX8_take (σ : Sg) (v1 : Int32) : Option (Sg × Int32) := (fX8_in v1.toInt64 (0 : Int64) (6 : Int64)).bind fun t1 => if t1 = 0 then some (σ, (-1 : Int32)) else (fX8_laysRow σ).bind fun σ2 => if v1 ≤ (σ2 0 20) then (fX8_firstOf σ2 v1).bind fun t3 => fX8_take_l37 v1 2000 σ2 t3 (0 : Int32) else some (σ2, (-4 : Int32))
set_option maxHeartbeats 1000000 in
set_option maxRecDepth 20000 in
theorem kX8_take_l37 {p : Program} {l : Launch} {e : Env} {s : State} {m : MethodId} {args : Array Value} {below : List Frame} {meth : Method} {c : Code} {Z : Sh} (C : Cx p s m args meth c cX8_take 4 wsX8_take RX8 (some .int) Z layM) {v1 : Int32} {u : Sg × Int32}   : ∀ (n : Nat) (σ : Sg) (v2 : Int32) (v3 : Int32), fX8_take_l37 v1 n σ v2 v3 = some u → G p l e rX8_take s m args below meth c 4 Z layM (MQ below (QI Z layM u.1 u.2 s.heap.size) args s 0 0 (pA Z layM s.heap.size)) σ 37 [(0, .ref (ad Z 0)), (1, .int v1), (2, .int v2), (3, .int v3)] [] := by
  intro n
  induction n with
  | zero => intro σ v2 v3 h; exact absurd h (by simp [fX8_take_l37])
  | succ n ih =>
    intro σ v2 v3 h
    rw [fX8_take_l37] at h
    refine g_iload_n (pc := 37) C dX8_take_37 rfl 3 rfl ?_
    refine g_iload_n (pc := 38) C dX8_take_38 rfl 1 rfl ?_
    refine g_icmp_ge (pc := 39) C (tgt := 63) dX8_take_39 (by decide) h (fun hc39 h => ?_) (fun hc39 h => ?_)
    · refine g_iload_n (pc := 63) C dX8_take_63 rfl 2 rfl ?_
      exact g_iret C dX8_take_64 (pfst h) (psnd h)
    · refine g_aload_n (pc := 42) C dX8_take_42 rfl 0 rfl ?_
      refine g_getr (pc := 43) C (Cn := RX8) (T := TX8) (N := 32) (ci := 8) (k := 0) (j := 0) uX8_take_X8 (by rfl) rfl (by decide) (by decide +kernel) (q := 1) rfl dX8_take_43 ?_
      refine g_bipush (pc := 46) C (v := (16 : Int32)) dX8_take_46 (by decide) ?_
      refine g_aload_n (pc := 48) C dX8_take_48 rfl 0 rfl ?_
      refine g_getr (pc := 49) C (Cn := RX8) (T := TX8) (N := 32) (ci := 8) (k := 0) (j := 19) uX8_take_X8 (by rfl) rfl (by decide) (by decide +kernel) (q := 6) rfl dX8_take_49 ?_
      refine g_iload_n (pc := 52) C dX8_take_52 rfl 3 rfl ?_
      obtain ⟨t1, et1, h⟩ := bs h
      refine g_iald (pc := 53) C (k := 6) (n := 6) (by rfl) et1 dX8_take_53 ?_
      refine g_iadd (pc := 54) C dX8_take_54 ?_
      refine g_iconst (pc := 55) C (v := (0 : Int32)) dX8_take_55 (by decide) ?_
      obtain ⟨σ2, eσ2, h⟩ := bs h
      refine g_iast (pc := 56) C (k := 1) (n := 116) (by rfl) eσ2 dX8_take_56 ?_
      refine g_iinc (pc := 57) C (j := 3) (v := (v3 + 1)) (lv2 := [(3, .int (v3 + 1)), (0, .ref (ad Z 0)), (1, .int v1), (2, .int v2)]) dX8_take_57 rfl rfl (by decide) rfl ?_
      refine g_goto (pc := 60) C (tgt := 37) dX8_take_60 (by decide) ?_
      exact g_sub [1, 2, 3, 0] rfl (ih _ _ _ h)
set_option maxHeartbeats 1000000 in
set_option maxRecDepth 20000 in
theorem kX8_take_e {p : Program} {l : Launch} {e : Env} {s : State} {m : MethodId} {args : Array Value} {below : List Frame} {meth : Method} {c : Code} {Z : Sh} (C : Cx p s m args meth c cX8_take 4 wsX8_take RX8 (some .int) Z layM) {σ : Sg} {v1 : Int32} {u : Sg × Int32}  (h : fX8_take σ v1 = some u) : G p l e rX8_take s m args below meth c 4 Z layM (MQ below (QI Z layM u.1 u.2 s.heap.size) args s 0 0 (pA Z layM s.heap.size)) σ 0 [(0, .ref (ad Z 0)), (1, .int v1)] [] := by
  unfold fX8_take at h
  refine g_iload_n (pc := 0) C dX8_take_0 rfl 1 rfl ?_
  refine g_i2l (pc := 1) C dX8_take_1 ?_
  refine g_lconst (pc := 2) C (v := (0 : Int64)) dX8_take_2 (by decide) ?_
  refine g_ldc2 (pc := 3) C (v := (6 : Int64)) (by decide +kernel) dX8_take_3 ?_
  obtain ⟨t1, et1, h⟩ := bs h
  refine g_callSi (pc := 6) C (As := [.long v1.toInt64, .long (0 : Int64), .long (6 : Int64)]) (rest := []) (va_cwS 3 C.2.2.2.2.2.1 gX8_take_X8_in rfl rfl rfl (by decide +kernel) ⟨Nat.le_of_ble_eq_true rfl, Nat.le_of_ble_eq_true rfl⟩) (mX8_in l Z  et1) rfl rfl (Nat.le_of_ble_eq_true rfl) dX8_take_6 ?_
  refine g_if_ne (pc := 9) C (tgt := 14) dX8_take_9 (by decide) h (fun hc9 h => ?_) (fun hc9 h => ?_)
  · refine g_aload_n (pc := 14) C dX8_take_14 rfl 0 rfl ?_
    obtain ⟨σ2, eσ2, h⟩ := bs h
    refine g_callVv (pc := 15) C (As := []) (rest := []) (k := 0) (by rfl) (by rfl) (cwV 0 C.2.2.2.2.2.1 gX8_take_X8_laysRow rfl rfl rfl (by decide +kernel) ⟨Nat.le_of_ble_eq_true rfl, Nat.le_of_ble_eq_true rfl⟩) (mX8_laysRow l Z  eσ2) rfl rfl (Nat.le_of_ble_eq_true rfl) dX8_take_15 ?_
    refine g_iload_n (pc := 18) C dX8_take_18 rfl 1 rfl ?_
    refine g_aload_n (pc := 19) C dX8_take_19 rfl 0 rfl ?_
    refine g_geti (pc := 20) C (Cn := RX8) (T := TX8) (N := 32) (ci := 8) (k := 0) (j := 20) uX8_take_X8 (by rfl) rfl (by decide) (by decide +kernel) (q := 0) rfl dX8_take_20 ?_
    refine g_icmp_le (pc := 23) C (tgt := 29) dX8_take_23 (by decide) h (fun hc23 h => ?_) (fun hc23 h => ?_)
    · refine g_aload_n (pc := 29) C dX8_take_29 rfl 0 rfl ?_
      refine g_iload_n (pc := 30) C dX8_take_30 rfl 1 rfl ?_
      obtain ⟨t3, et3, h⟩ := bs h
      refine g_callVi (pc := 31) C (As := [.int v1]) (rest := []) (k := 0) (by rfl) (by rfl) (cwV 1 C.2.2.2.2.2.1 gX8_take_X8_firstOf rfl rfl rfl (by decide +kernel) ⟨Nat.le_of_ble_eq_true rfl, Nat.le_of_ble_eq_true rfl⟩) (mX8_firstOf l Z  et3) rfl rfl (Nat.le_of_ble_eq_true rfl) dX8_take_31 ?_
      refine g_istore_n (pc := 34) C (lv2 := [(2, .int t3), (0, .ref (ad Z 0)), (1, .int v1)]) dX8_take_34 rfl (by decide) rfl ?_
      refine g_iconst (pc := 35) C (v := (0 : Int32)) dX8_take_35 (by decide) ?_
      refine g_istore_n (pc := 36) C (lv2 := [(3, .int (0 : Int32)), (2, .int t3), (0, .ref (ad Z 0)), (1, .int v1)]) dX8_take_36 rfl (by decide) rfl ?_
      exact g_sub [2, 3, 1, 0] rfl (kX8_take_l37 C   _ _ _ _ h)
    · refine g_bipush (pc := 26) C (v := (-4 : Int32)) dX8_take_26 (by decide) ?_
      exact g_iret C dX8_take_28 (pfst h) (psnd h)
  · refine g_iconst (pc := 12) C (v := (-1 : Int32)) dX8_take_12 (by decide) ?_
    exact g_iret C dX8_take_13 (pfst h) (psnd h)
theorem mX8_take (l : Launch) (Z : Sh) {σ : Sg} {v1 : Int32} {u : Sg × Int32}  (h : fX8_take σ v1 = some u) : MI l Z layM yX8_take wsX8_take rX8_take [.ref (ad Z 0), .int v1] σ u.1 u.2 :=
  MI.of (cc := cX8_take) (maxL := 4) (ret := (some .int)) (by decide) rfl (Nat.le_of_ble_eq_true rfl) (fun p e s m below meth c C => kX8_take_e C  h)

def rX8_isLords : Room := { frames := 1, cells := 0, slots := 0, locals := 25 }
theorem uX8_isLords_X8 : ∀ w ∈ wsX80, w ∈ wsX8_isLords := by decide +kernel
def fX8_isLords (σ : Sg) (v1 : Int32) : Option (Int32) := (fX8_in v1.toInt64 (0 : Int64) ((((1 : Int32) <<< ((σ 0 1) &&& 31)) - (1 : Int32)).toInt64)).bind fun t1 => rz t1
set_option maxHeartbeats 1000000 in
set_option maxRecDepth 20000 in
theorem kX8_isLords_e {p : Program} {l : Launch} {e : Env} {s : State} {m : MethodId} {args : Array Value} {below : List Frame} {meth : Method} {c : Code} {Z : Sh} (C : Cx p s m args meth c cX8_isLords 2 wsX8_isLords RX8 (some .boolean) Z layM) {σ : Sg} {v1 : Int32} {u : Int32}  (h : fX8_isLords σ v1 = some u) : G p l e rX8_isLords s m args below meth c 2 Z layM (MQ below (QI Z layM σ u s.heap.size) args s 0 0 (pA Z layM s.heap.size)) σ 0 [(0, .ref (ad Z 0)), (1, .int v1)] [] := by
  unfold fX8_isLords at h
  refine g_iload_n (pc := 0) C dX8_isLords_0 rfl 1 rfl ?_
  refine g_i2l (pc := 1) C dX8_isLords_1 ?_
  refine g_lconst (pc := 2) C (v := (0 : Int64)) dX8_isLords_2 (by decide) ?_
  refine g_iconst (pc := 3) C (v := (1 : Int32)) dX8_isLords_3 (by decide) ?_
  refine g_aload_n (pc := 4) C dX8_isLords_4 rfl 0 rfl ?_
  refine g_geti (pc := 5) C (Cn := RX8) (T := TX8) (N := 32) (ci := 8) (k := 0) (j := 1) uX8_isLords_X8 (by rfl) rfl (by decide) (by decide +kernel) (q := 0) rfl dX8_isLords_5 ?_
  refine g_ishl (pc := 8) C dX8_isLords_8 ?_
  refine g_iconst (pc := 9) C (v := (1 : Int32)) dX8_isLords_9 (by decide) ?_
  refine g_isub (pc := 10) C dX8_isLords_10 ?_
  refine g_i2l (pc := 11) C dX8_isLords_11 ?_
  obtain ⟨t1, et1, h⟩ := bs h
  refine g_callSi (pc := 12) C (As := [.long v1.toInt64, .long (0 : Int64), .long ((((1 : Int32) <<< ((σ 0 1) &&& 31)) - (1 : Int32)).toInt64)]) (rest := []) (va_cwS 3 C.2.2.2.2.2.1 gX8_isLords_X8_in rfl rfl rfl (by decide +kernel) ⟨Nat.le_of_ble_eq_true rfl, Nat.le_of_ble_eq_true rfl⟩) (mX8_in l Z  et1) rfl rfl (Nat.le_of_ble_eq_true rfl) dX8_isLords_12 ?_
  exact g_zret C dX8_isLords_15 rfl h
theorem mX8_isLords (l : Launch) (Z : Sh) {σ : Sg} {v1 : Int32} {u : Int32}  (h : fX8_isLords σ v1 = some u) : MI l Z layM yX8_isLords wsX8_isLords rX8_isLords [.ref (ad Z 0), .int v1] σ σ u :=
  MI.of (cc := cX8_isLords) (maxL := 2) (ret := (some .boolean)) (by decide) rfl (Nat.le_of_ble_eq_true rfl) (fun p e s m below meth c C => kX8_isLords_e C  h)

def rX8_carries : Room := { frames := 2, cells := 0, slots := 0, locals := 44 }
def fX8_carries (σ : Sg) (v1 : Int32) : Option (Int32) := (fX8_boroughsOf σ v1).bind fun t1 => (fX8_seatsOf σ t1).bind fun t2 => (fX8_all σ).bind fun t3 => (fX8_seatsOf σ t3).bind fun t4 => if ((2 : Int32) * t2) ≤ t4 then some (0 : Int32) else some (1 : Int32)
set_option maxHeartbeats 1000000 in
set_option maxRecDepth 20000 in
theorem kX8_carries_e {p : Program} {l : Launch} {e : Env} {s : State} {m : MethodId} {args : Array Value} {below : List Frame} {meth : Method} {c : Code} {Z : Sh} (C : Cx p s m args meth c cX8_carries 2 wsX8_carries RX8 (some .boolean) Z layM) {σ : Sg} {v1 : Int32} {u : Int32}  (h : fX8_carries σ v1 = some u) : G p l e rX8_carries s m args below meth c 2 Z layM (MQ below (QI Z layM σ u s.heap.size) args s 0 0 (pA Z layM s.heap.size)) σ 0 [(0, .ref (ad Z 0)), (1, .int v1)] [] := by
  unfold fX8_carries at h
  refine g_iconst (pc := 0) C (v := (2 : Int32)) dX8_carries_0 (by decide) ?_
  refine g_aload_n (pc := 1) C dX8_carries_1 rfl 0 rfl ?_
  refine g_aload_n (pc := 2) C dX8_carries_2 rfl 0 rfl ?_
  refine g_iload_n (pc := 3) C dX8_carries_3 rfl 1 rfl ?_
  obtain ⟨t1, et1, h⟩ := bs h
  refine g_callVi (pc := 4) C (As := [.int v1]) (rest := [.ref (ad Z 0), .int (2 : Int32)]) (k := 0) (by rfl) (by rfl) (cwV 1 C.2.2.2.2.2.1 gX8_carries_X8_boroughsOf rfl rfl rfl (by decide +kernel) ⟨Nat.le_of_ble_eq_true rfl, Nat.le_of_ble_eq_true rfl⟩) (mX8_boroughsOf l Z  et1) rfl rfl (Nat.le_of_ble_eq_true rfl) dX8_carries_4 ?_
  obtain ⟨t2, et2, h⟩ := bs h
  refine g_callVi (pc := 7) C (As := [.int t1]) (rest := [.int (2 : Int32)]) (k := 0) (by rfl) (by rfl) (cwV 1 C.2.2.2.2.2.1 gX8_carries_X8_seatsOf rfl rfl rfl (by decide +kernel) ⟨Nat.le_of_ble_eq_true rfl, Nat.le_of_ble_eq_true rfl⟩) (mX8_seatsOf l Z  et2) rfl rfl (Nat.le_of_ble_eq_true rfl) dX8_carries_7 ?_
  refine g_imul (pc := 10) C dX8_carries_10 ?_
  refine g_aload_n (pc := 11) C dX8_carries_11 rfl 0 rfl ?_
  refine g_aload_n (pc := 12) C dX8_carries_12 rfl 0 rfl ?_
  obtain ⟨t3, et3, h⟩ := bs h
  refine g_callVi (pc := 13) C (As := []) (rest := [.ref (ad Z 0), .int ((2 : Int32) * t2)]) (k := 0) (by rfl) (by rfl) (cwV 0 C.2.2.2.2.2.1 gX8_carries_X8_all rfl rfl rfl (by decide +kernel) ⟨Nat.le_of_ble_eq_true rfl, Nat.le_of_ble_eq_true rfl⟩) (mX8_all l Z  et3) rfl rfl (Nat.le_of_ble_eq_true rfl) dX8_carries_13 ?_
  obtain ⟨t4, et4, h⟩ := bs h
  refine g_callVi (pc := 16) C (As := [.int t3]) (rest := [.int ((2 : Int32) * t2)]) (k := 0) (by rfl) (by rfl) (cwV 1 C.2.2.2.2.2.1 gX8_carries_X8_seatsOf rfl rfl rfl (by decide +kernel) ⟨Nat.le_of_ble_eq_true rfl, Nat.le_of_ble_eq_true rfl⟩) (mX8_seatsOf l Z  et4) rfl rfl (Nat.le_of_ble_eq_true rfl) dX8_carries_16 ?_
  refine g_icmp_le (pc := 19) C (tgt := 26) dX8_carries_19 (by decide) h (fun hc19 h => ?_) (fun hc19 h => ?_)
  · refine g_iconst (pc := 26) C (v := (0 : Int32)) dX8_carries_26 (by decide) ?_
    exact g_zret C dX8_carries_27 rfl (rz0.trans h)
  · refine g_iconst (pc := 22) C (v := (1 : Int32)) dX8_carries_22 (by decide) ?_
    refine g_goto (pc := 23) C (tgt := 27) dX8_carries_23 (by decide) ?_
    exact g_zret C dX8_carries_27 rfl (rz1.trans h)
theorem mX8_carries (l : Launch) (Z : Sh) {σ : Sg} {v1 : Int32} {u : Int32}  (h : fX8_carries σ v1 = some u) : MI l Z layM yX8_carries wsX8_carries rX8_carries [.ref (ad Z 0), .int v1] σ σ u :=
  MI.of (cc := cX8_carries) (maxL := 2) (ret := (some .boolean)) (by decide) rfl (Nat.le_of_ble_eq_true rfl) (fun p e s m below meth c C => kX8_carries_e C  h)

def rX8_carry : Room := { frames := 3, cells := 0, slots := 0, locals := 65 }
def fX8_carry (σ : Sg) (v1 : Int32) (v2 : Int32) : Option (Int32) := (fX8_isLords σ v1).bind fun t1 => if t1 = 0 then some (-1 : Int32) else (fX8_in v2.toInt64 (0 : Int64) (1 : Int64)).bind fun t2 => if t2 = 0 then some (-1 : Int32) else if v2 = 0 then (fX8_boroughsOf σ v1).bind fun t4 => (fX8_seatsOf σ t4).bind fun t5 => some t5 else (fX8_carries σ v1).bind fun t3 => if t3 = 0 then some (0 : Int32) else some (1 : Int32)
set_option maxHeartbeats 1000000 in
set_option maxRecDepth 20000 in
theorem kX8_carry_e {p : Program} {l : Launch} {e : Env} {s : State} {m : MethodId} {args : Array Value} {below : List Frame} {meth : Method} {c : Code} {Z : Sh} (C : Cx p s m args meth c cX8_carry 3 wsX8_carry RX8 (some .int) Z layM) {σ : Sg} {v1 : Int32} {v2 : Int32} {u : Int32}  (h : fX8_carry σ v1 v2 = some u) : G p l e rX8_carry s m args below meth c 3 Z layM (MQ below (QI Z layM σ u s.heap.size) args s 0 0 (pA Z layM s.heap.size)) σ 0 [(0, .ref (ad Z 0)), (1, .int v1), (2, .int v2)] [] := by
  unfold fX8_carry at h
  refine g_aload_n (pc := 0) C dX8_carry_0 rfl 0 rfl ?_
  refine g_iload_n (pc := 1) C dX8_carry_1 rfl 1 rfl ?_
  obtain ⟨t1, et1, h⟩ := bs h
  refine g_callVi (pc := 2) C (As := [.int v1]) (rest := []) (k := 0) (by rfl) (by rfl) (cwV 1 C.2.2.2.2.2.1 gX8_carry_X8_isLords rfl rfl rfl (by decide +kernel) ⟨Nat.le_of_ble_eq_true rfl, Nat.le_of_ble_eq_true rfl⟩) (mX8_isLords l Z  et1) rfl rfl (Nat.le_of_ble_eq_true rfl) dX8_carry_2 ?_
  refine g_if_eq (pc := 5) C (tgt := 18) dX8_carry_5 (by decide) h (fun hc5 h => ?_) (fun hc5 h => ?_)
  · refine g_iconst (pc := 18) C (v := (-1 : Int32)) dX8_carry_18 (by decide) ?_
    exact g_iret C dX8_carry_19 rfl (Option.some.inj h)
  · refine g_iload_n (pc := 8) C dX8_carry_8 rfl 2 rfl ?_
    refine g_i2l (pc := 9) C dX8_carry_9 ?_
    refine g_lconst (pc := 10) C (v := (0 : Int64)) dX8_carry_10 (by decide) ?_
    refine g_lconst (pc := 11) C (v := (1 : Int64)) dX8_carry_11 (by decide) ?_
    obtain ⟨t2, et2, h⟩ := bs h
    refine g_callSi (pc := 12) C (As := [.long v2.toInt64, .long (0 : Int64), .long (1 : Int64)]) (rest := []) (va_cwS 3 C.2.2.2.2.2.1 gX8_carry_X8_in rfl rfl rfl (by decide +kernel) ⟨Nat.le_of_ble_eq_true rfl, Nat.le_of_ble_eq_true rfl⟩) (mX8_in l Z  et2) rfl rfl (Nat.le_of_ble_eq_true rfl) dX8_carry_12 ?_
    refine g_if_ne (pc := 15) C (tgt := 20) dX8_carry_15 (by decide) h (fun hc15 h => ?_) (fun hc15 h => ?_)
    · refine g_iload_n (pc := 20) C dX8_carry_20 rfl 2 rfl ?_
      refine g_if_ne (pc := 21) C (tgt := 36) dX8_carry_21 (by decide) h (fun hc21 h => ?_) (fun hc21 h => ?_)
      · refine g_aload_n (pc := 36) C dX8_carry_36 rfl 0 rfl ?_
        refine g_iload_n (pc := 37) C dX8_carry_37 rfl 1 rfl ?_
        obtain ⟨t3, et3, h⟩ := bs h
        refine g_callVi (pc := 38) C (As := [.int v1]) (rest := []) (k := 0) (by rfl) (by rfl) (cwV 1 C.2.2.2.2.2.1 gX8_carry_X8_carries rfl rfl rfl (by decide +kernel) ⟨Nat.le_of_ble_eq_true rfl, Nat.le_of_ble_eq_true rfl⟩) (mX8_carries l Z  et3) rfl rfl (Nat.le_of_ble_eq_true rfl) dX8_carry_38 ?_
        refine g_if_eq (pc := 41) C (tgt := 48) dX8_carry_41 (by decide) h (fun hc41 h => ?_) (fun hc41 h => ?_)
        · refine g_iconst (pc := 48) C (v := (0 : Int32)) dX8_carry_48 (by decide) ?_
          exact g_iret C dX8_carry_49 rfl (Option.some.inj h)
        · refine g_iconst (pc := 44) C (v := (1 : Int32)) dX8_carry_44 (by decide) ?_
          refine g_goto (pc := 45) C (tgt := 49) dX8_carry_45 (by decide) ?_
          exact g_iret C dX8_carry_49 rfl (Option.some.inj h)
      · refine g_aload_n (pc := 24) C dX8_carry_24 rfl 0 rfl ?_
        refine g_aload_n (pc := 25) C dX8_carry_25 rfl 0 rfl ?_
        refine g_iload_n (pc := 26) C dX8_carry_26 rfl 1 rfl ?_
        obtain ⟨t4, et4, h⟩ := bs h
        refine g_callVi (pc := 27) C (As := [.int v1]) (rest := [.ref (ad Z 0)]) (k := 0) (by rfl) (by rfl) (cwV 1 C.2.2.2.2.2.1 gX8_carry_X8_boroughsOf rfl rfl rfl (by decide +kernel) ⟨Nat.le_of_ble_eq_true rfl, Nat.le_of_ble_eq_true rfl⟩) (mX8_boroughsOf l Z  et4) rfl rfl (Nat.le_of_ble_eq_true rfl) dX8_carry_27 ?_
        obtain ⟨t5, et5, h⟩ := bs h
        refine g_callVi (pc := 30) C (As := [.int t4]) (rest := []) (k := 0) (by rfl) (by rfl) (cwV 1 C.2.2.2.2.2.1 gX8_carry_X8_seatsOf rfl rfl rfl (by decide +kernel) ⟨Nat.le_of_ble_eq_true rfl, Nat.le_of_ble_eq_true rfl⟩) (mX8_seatsOf l Z  et5) rfl rfl (Nat.le_of_ble_eq_true rfl) dX8_carry_30 ?_
        refine g_goto (pc := 33) C (tgt := 49) dX8_carry_33 (by decide) ?_
        exact g_iret C dX8_carry_49 rfl (Option.some.inj h)
    · refine g_iconst (pc := 18) C (v := (-1 : Int32)) dX8_carry_18 (by decide) ?_
      exact g_iret C dX8_carry_19 rfl (Option.some.inj h)
theorem mX8_carry (l : Launch) (Z : Sh) {σ : Sg} {v1 : Int32} {v2 : Int32} {u : Int32}  (h : fX8_carry σ v1 v2 = some u) : MI l Z layM yX8_carry wsX8_carry rX8_carry [.ref (ad Z 0), .int v1, .int v2] σ σ u :=
  MI.of (cc := cX8_carry) (maxL := 3) (ret := (some .int)) (by decide) rfl (Nat.le_of_ble_eq_true rfl) (fun p e s m below meth c C => kX8_carry_e C  h)

def rX8_laysPlayers : Room := { frames := 3, cells := 0, slots := 0, locals := 64 }
theorem uX8_laysPlayers_X8 : ∀ w ∈ wsX80, w ∈ wsX8_laysPlayers := by decide +kernel
def fX8_laysPlayers_b89 (v1 : Int32) (k56 : Sg → Int32 → Int32 → Int32 → Option (Sg × Int32)) (σ : Sg) (v3 : Int32) (v4 : Int32) (s0 : Int32) : Option (Sg × Int32) := (rd (σ 1) 116 ((16 : Int32) + v4)).bind fun t1 => (wr σ 7 10 (σ 0 22) t1).bind fun σ2 => (pf σ2 0 22 ((σ2 0 22) + (1 : Int32))).bind fun σ3 => k56 σ3 s0 v3 (v4 + 1)
def fX8_laysPlayers_l56 (v1 : Int32)  : Nat → Sg → Int32 → Int32 → Int32 → Option (Sg × Int32)
  | 0, _, _, _, _ => none
  | n + 1, σ, v2, v3, v4 => if (σ 0 2) ≤ v4 then some (σ, v2) else if ((v3 >>> (v4 &&& 31)) &&& (1 : Int32)) = (1 : Int32) then if v4 = v1 then fX8_laysPlayers_b89 v1 (fun σ v2 v3 v4 => fX8_laysPlayers_l56 v1 n σ v2 v3 v4) σ v3 v4 (σ 0 22) else fX8_laysPlayers_b89 v1 (fun σ v2 v3 v4 => fX8_laysPlayers_l56 v1 n σ v2 v3 v4) σ v3 v4 v2 else fX8_laysPlayers_l56 v1 n σ v2 v3 (v4 + 1)
def fX8_laysPlayers_l19 (v1 : Int32)  : Nat → Sg → Int32 → Int32 → Int32 → Option (Sg × Int32)
  | 0, _, _, _, _ => none
  | n + 1, σ, v2, v3, v4 => if (σ 0 1) ≤ v4 then fX8_laysPlayers_l56 v1 2000 σ v2 v3 (0 : Int32) else (fX8_boroughsOf σ ((1 : Int32) <<< (v4 &&& 31))).bind fun t1 => (fX8_seatsOf σ t1).bind fun t2 => (wr σ 7 10 v4 t2).bind fun σ3 => fX8_laysPlayers_l19 v1 n σ3 v2 v3 (v4 + 1)
def fX8_laysPlayers (σ : Sg) (v1 : Int32) : Option (Sg × Int32) := (fX8_nobodys σ).bind fun t1 => (pf σ 0 22 (σ 0 1)).bind fun σ2 => fX8_laysPlayers_l19 v1 2000 σ2 (-4 : Int32) t1 (0 : Int32)
set_option maxHeartbeats 1000000 in
set_option maxRecDepth 20000 in
theorem kX8_laysPlayers_b89 {p : Program} {l : Launch} {e : Env} {s : State} {m : MethodId} {args : Array Value} {below : List Frame} {meth : Method} {c : Code} {Z : Sh} (C : Cx p s m args meth c cX8_laysPlayers 5 wsX8_laysPlayers RX8 (some .int) Z layM) {v1 : Int32} {u : Sg × Int32}  {k56 : Sg → Int32 → Int32 → Int32 → Option (Sg × Int32)} (hk56 : ∀ (σ : Sg) (v2 : Int32) (v3 : Int32) (v4 : Int32), k56 σ v2 v3 v4 = some u → G p l e rX8_laysPlayers s m args below meth c 5 Z layM (MQ below (QI Z layM u.1 u.2 s.heap.size) args s 0 0 (pA Z layM s.heap.size)) σ 56 [(0, .ref (ad Z 0)), (1, .int v1), (2, .int v2), (3, .int v3), (4, .int v4)] []) {σ : Sg} {v3 : Int32} {v4 : Int32} {s0 : Int32} (h : fX8_laysPlayers_b89 v1 k56 σ v3 v4 s0 = some u) : G p l e rX8_laysPlayers s m args below meth c 5 Z layM (MQ below (QI Z layM u.1 u.2 s.heap.size) args s 0 0 (pA Z layM s.heap.size)) σ 89 [(0, .ref (ad Z 0)), (1, .int v1), (3, .int v3), (4, .int v4)] [.int s0] := by
  unfold fX8_laysPlayers_b89 at h
  refine g_istore_n (pc := 89) C (lv2 := [(2, .int s0), (0, .ref (ad Z 0)), (1, .int v1), (3, .int v3), (4, .int v4)]) dX8_laysPlayers_89 rfl (by decide) rfl ?_
  refine g_aload_n (pc := 90) C dX8_laysPlayers_90 rfl 1 rfl ?_
  refine g_getr (pc := 91) C (Cn := RX8) (T := TX8) (N := 32) (ci := 8) (k := 0) (j := 21) uX8_laysPlayers_X8 (by rfl) rfl (by decide) (by decide +kernel) (q := 7) rfl dX8_laysPlayers_91 ?_
  refine g_aload_n (pc := 94) C dX8_laysPlayers_94 rfl 1 rfl ?_
  refine g_geti (pc := 95) C (Cn := RX8) (T := TX8) (N := 32) (ci := 8) (k := 0) (j := 22) uX8_laysPlayers_X8 (by rfl) rfl (by decide) (by decide +kernel) (q := 0) rfl dX8_laysPlayers_95 ?_
  refine g_aload_n (pc := 98) C dX8_laysPlayers_98 rfl 1 rfl ?_
  refine g_getr (pc := 99) C (Cn := RX8) (T := TX8) (N := 32) (ci := 8) (k := 0) (j := 0) uX8_laysPlayers_X8 (by rfl) rfl (by decide) (by decide +kernel) (q := 1) rfl dX8_laysPlayers_99 ?_
  refine g_bipush (pc := 102) C (v := (16 : Int32)) dX8_laysPlayers_102 (by decide) ?_
  refine g_iload (pc := 104) C dX8_laysPlayers_104 4 rfl ?_
  refine g_iadd (pc := 106) C dX8_laysPlayers_106 ?_
  obtain ⟨t1, et1, h⟩ := bs h
  refine g_iald (pc := 107) C (k := 1) (n := 116) (by rfl) et1 dX8_laysPlayers_107 ?_
  obtain ⟨σ2, eσ2, h⟩ := bs h
  refine g_iast (pc := 108) C (k := 7) (n := 10) (by rfl) eσ2 dX8_laysPlayers_108 ?_
  refine g_aload_n (pc := 109) C dX8_laysPlayers_109 rfl 1 rfl ?_
  refine g_dup (pc := 110) C rfl dX8_laysPlayers_110 ?_
  refine g_geti (pc := 111) C (Cn := RX8) (T := TX8) (N := 32) (ci := 8) (k := 0) (j := 22) uX8_laysPlayers_X8 (by rfl) rfl (by decide) (by decide +kernel) (q := 0) rfl dX8_laysPlayers_111 ?_
  refine g_iconst (pc := 114) C (v := (1 : Int32)) dX8_laysPlayers_114 (by decide) ?_
  refine g_iadd (pc := 115) C dX8_laysPlayers_115 ?_
  obtain ⟨σ3, eσ3, h⟩ := bs h
  refine g_puti (pc := 116) C (Cn := RX8) (T := TX8) (N := 32) (ci := 8) (k := 0) (j := 22) uX8_laysPlayers_X8 (by rfl) rfl (by decide) (by decide +kernel) tyX8 tyX8_ok nmX8 rfl (by decide +kernel) rfl eσ3 dX8_laysPlayers_116 ?_
  refine g_iinc (pc := 119) C (j := 4) (v := (v4 + 1)) (lv2 := [(4, .int (v4 + 1)), (2, .int s0), (0, .ref (ad Z 0)), (1, .int v1), (3, .int v3)]) dX8_laysPlayers_119 rfl rfl (by decide) rfl ?_
  refine g_goto (pc := 122) C (tgt := 56) dX8_laysPlayers_122 (by decide) ?_
  exact g_sub [2, 3, 1, 4, 0] rfl (hk56 _ _ _ _ h)
set_option maxHeartbeats 1000000 in
set_option maxRecDepth 20000 in
theorem kX8_laysPlayers_l56 {p : Program} {l : Launch} {e : Env} {s : State} {m : MethodId} {args : Array Value} {below : List Frame} {meth : Method} {c : Code} {Z : Sh} (C : Cx p s m args meth c cX8_laysPlayers 5 wsX8_laysPlayers RX8 (some .int) Z layM) {v1 : Int32} {u : Sg × Int32}   : ∀ (n : Nat) (σ : Sg) (v2 : Int32) (v3 : Int32) (v4 : Int32), fX8_laysPlayers_l56 v1 n σ v2 v3 v4 = some u → G p l e rX8_laysPlayers s m args below meth c 5 Z layM (MQ below (QI Z layM u.1 u.2 s.heap.size) args s 0 0 (pA Z layM s.heap.size)) σ 56 [(0, .ref (ad Z 0)), (1, .int v1), (2, .int v2), (3, .int v3), (4, .int v4)] [] := by
  intro n
  induction n with
  | zero => intro σ v2 v3 v4 h; exact absurd h (by simp [fX8_laysPlayers_l56])
  | succ n ih =>
    intro σ v2 v3 v4 h
    rw [fX8_laysPlayers_l56] at h
    refine g_iload (pc := 56) C dX8_laysPlayers_56 4 rfl ?_
    refine g_aload_n (pc := 58) C dX8_laysPlayers_58 rfl 0 rfl ?_
    refine g_geti (pc := 59) C (Cn := RX8) (T := TX8) (N := 32) (ci := 8) (k := 0) (j := 2) uX8_laysPlayers_X8 (by rfl) rfl (by decide) (by decide +kernel) (q := 0) rfl dX8_laysPlayers_59 ?_
    refine g_icmp_ge (pc := 62) C (tgt := 125) dX8_laysPlayers_62 (by decide) h (fun hc62 h => ?_) (fun hc62 h => ?_)
    · refine g_iload_n (pc := 125) C dX8_laysPlayers_125 rfl 2 rfl ?_
      exact g_iret C dX8_laysPlayers_126 (pfst h) (psnd h)
    · refine g_iload_n (pc := 65) C dX8_laysPlayers_65 rfl 3 rfl ?_
      refine g_iload (pc := 66) C dX8_laysPlayers_66 4 rfl ?_
      refine g_ishr (pc := 68) C dX8_laysPlayers_68 ?_
      refine g_iconst (pc := 69) C (v := (1 : Int32)) dX8_laysPlayers_69 (by decide) ?_
      refine g_iand (pc := 70) C dX8_laysPlayers_70 ?_
      refine g_iconst (pc := 71) C (v := (1 : Int32)) dX8_laysPlayers_71 (by decide) ?_
      refine g_icmp_ne (pc := 72) C (tgt := 119) dX8_laysPlayers_72 (by decide) h (fun hc72 h => ?_) (fun hc72 h => ?_)
      · refine g_iinc (pc := 119) C (j := 4) (v := (v4 + 1)) (lv2 := [(4, .int (v4 + 1)), (0, .ref (ad Z 0)), (1, .int v1), (2, .int v2), (3, .int v3)]) dX8_laysPlayers_119 rfl rfl (by decide) rfl ?_
        refine g_goto (pc := 122) C (tgt := 56) dX8_laysPlayers_122 (by decide) ?_
        exact g_sub [1, 2, 3, 4, 0] rfl (ih _ _ _ _ h)
      · refine g_iload (pc := 75) C dX8_laysPlayers_75 4 rfl ?_
        refine g_iload_n (pc := 77) C dX8_laysPlayers_77 rfl 1 rfl ?_
        refine g_icmp_ne (pc := 78) C (tgt := 88) dX8_laysPlayers_78 (by decide) h (fun hc78 h => ?_) (fun hc78 h => ?_)
        · refine g_iload_n (pc := 88) C dX8_laysPlayers_88 rfl 2 rfl ?_
          exact g_sub [0, 1, 3, 4] rfl (kX8_laysPlayers_b89 C  ih  h)
        · refine g_aload_n (pc := 81) C dX8_laysPlayers_81 rfl 0 rfl ?_
          refine g_geti (pc := 82) C (Cn := RX8) (T := TX8) (N := 32) (ci := 8) (k := 0) (j := 22) uX8_laysPlayers_X8 (by rfl) rfl (by decide) (by decide +kernel) (q := 0) rfl dX8_laysPlayers_82 ?_
          refine g_goto (pc := 85) C (tgt := 89) dX8_laysPlayers_85 (by decide) ?_
          exact g_sub [0, 1, 3, 4] rfl (kX8_laysPlayers_b89 C  ih  h)
set_option maxHeartbeats 1000000 in
set_option maxRecDepth 20000 in
theorem kX8_laysPlayers_l19 {p : Program} {l : Launch} {e : Env} {s : State} {m : MethodId} {args : Array Value} {below : List Frame} {meth : Method} {c : Code} {Z : Sh} (C : Cx p s m args meth c cX8_laysPlayers 5 wsX8_laysPlayers RX8 (some .int) Z layM) {v1 : Int32} {u : Sg × Int32}   : ∀ (n : Nat) (σ : Sg) (v2 : Int32) (v3 : Int32) (v4 : Int32), fX8_laysPlayers_l19 v1 n σ v2 v3 v4 = some u → G p l e rX8_laysPlayers s m args below meth c 5 Z layM (MQ below (QI Z layM u.1 u.2 s.heap.size) args s 0 0 (pA Z layM s.heap.size)) σ 19 [(0, .ref (ad Z 0)), (1, .int v1), (2, .int v2), (3, .int v3), (4, .int v4)] [] := by
  intro n
  induction n with
  | zero => intro σ v2 v3 v4 h; exact absurd h (by simp [fX8_laysPlayers_l19])
  | succ n ih =>
    intro σ v2 v3 v4 h
    rw [fX8_laysPlayers_l19] at h
    refine g_iload (pc := 19) C dX8_laysPlayers_19 4 rfl ?_
    refine g_aload_n (pc := 21) C dX8_laysPlayers_21 rfl 0 rfl ?_
    refine g_geti (pc := 22) C (Cn := RX8) (T := TX8) (N := 32) (ci := 8) (k := 0) (j := 1) uX8_laysPlayers_X8 (by rfl) rfl (by decide) (by decide +kernel) (q := 0) rfl dX8_laysPlayers_22 ?_
    refine g_icmp_ge (pc := 25) C (tgt := 53) dX8_laysPlayers_25 (by decide) h (fun hc25 h => ?_) (fun hc25 h => ?_)
    · refine g_iconst (pc := 53) C (v := (0 : Int32)) dX8_laysPlayers_53 (by decide) ?_
      refine g_istore (pc := 54) C (lv2 := [(4, .int (0 : Int32)), (0, .ref (ad Z 0)), (1, .int v1), (2, .int v2), (3, .int v3)]) dX8_laysPlayers_54 (by decide) rfl ?_
      exact g_sub [1, 2, 3, 4, 0] rfl (kX8_laysPlayers_l56 C   _ _ _ _ _ h)
    · refine g_aload_n (pc := 28) C dX8_laysPlayers_28 rfl 0 rfl ?_
      refine g_getr (pc := 29) C (Cn := RX8) (T := TX8) (N := 32) (ci := 8) (k := 0) (j := 21) uX8_laysPlayers_X8 (by rfl) rfl (by decide) (by decide +kernel) (q := 7) rfl dX8_laysPlayers_29 ?_
      refine g_iload (pc := 32) C dX8_laysPlayers_32 4 rfl ?_
      refine g_aload_n (pc := 34) C dX8_laysPlayers_34 rfl 0 rfl ?_
      refine g_aload_n (pc := 35) C dX8_laysPlayers_35 rfl 0 rfl ?_
      refine g_iconst (pc := 36) C (v := (1 : Int32)) dX8_laysPlayers_36 (by decide) ?_
      refine g_iload (pc := 37) C dX8_laysPlayers_37 4 rfl ?_
      refine g_ishl (pc := 39) C dX8_laysPlayers_39 ?_
      obtain ⟨t1, et1, h⟩ := bs h
      refine g_callVi (pc := 40) C (As := [.int ((1 : Int32) <<< (v4 &&& 31))]) (rest := [.ref (ad Z 0), .int v4, .ref (ad Z 7)]) (k := 0) (by rfl) (by rfl) (cwV 1 C.2.2.2.2.2.1 gX8_laysPlayers_X8_boroughsOf rfl rfl rfl (by decide +kernel) ⟨Nat.le_of_ble_eq_true rfl, Nat.le_of_ble_eq_true rfl⟩) (mX8_boroughsOf l Z  et1) rfl rfl (Nat.le_of_ble_eq_true rfl) dX8_laysPlayers_40 ?_
      obtain ⟨t2, et2, h⟩ := bs h
      refine g_callVi (pc := 43) C (As := [.int t1]) (rest := [.int v4, .ref (ad Z 7)]) (k := 0) (by rfl) (by rfl) (cwV 1 C.2.2.2.2.2.1 gX8_laysPlayers_X8_seatsOf rfl rfl rfl (by decide +kernel) ⟨Nat.le_of_ble_eq_true rfl, Nat.le_of_ble_eq_true rfl⟩) (mX8_seatsOf l Z  et2) rfl rfl (Nat.le_of_ble_eq_true rfl) dX8_laysPlayers_43 ?_
      obtain ⟨σ3, eσ3, h⟩ := bs h
      refine g_iast (pc := 46) C (k := 7) (n := 10) (by rfl) eσ3 dX8_laysPlayers_46 ?_
      refine g_iinc (pc := 47) C (j := 4) (v := (v4 + 1)) (lv2 := [(4, .int (v4 + 1)), (0, .ref (ad Z 0)), (1, .int v1), (2, .int v2), (3, .int v3)]) dX8_laysPlayers_47 rfl rfl (by decide) rfl ?_
      refine g_goto (pc := 50) C (tgt := 19) dX8_laysPlayers_50 (by decide) ?_
      exact g_sub [1, 2, 3, 4, 0] rfl (ih _ _ _ _ h)
set_option maxHeartbeats 1000000 in
set_option maxRecDepth 20000 in
theorem kX8_laysPlayers_e {p : Program} {l : Launch} {e : Env} {s : State} {m : MethodId} {args : Array Value} {below : List Frame} {meth : Method} {c : Code} {Z : Sh} (C : Cx p s m args meth c cX8_laysPlayers 5 wsX8_laysPlayers RX8 (some .int) Z layM) {σ : Sg} {v1 : Int32} {u : Sg × Int32}  (h : fX8_laysPlayers σ v1 = some u) : G p l e rX8_laysPlayers s m args below meth c 5 Z layM (MQ below (QI Z layM u.1 u.2 s.heap.size) args s 0 0 (pA Z layM s.heap.size)) σ 0 [(0, .ref (ad Z 0)), (1, .int v1)] [] := by
  unfold fX8_laysPlayers at h
  refine g_bipush (pc := 0) C (v := (-4 : Int32)) dX8_laysPlayers_0 (by decide) ?_
  refine g_istore_n (pc := 2) C (lv2 := [(2, .int (-4 : Int32)), (0, .ref (ad Z 0)), (1, .int v1)]) dX8_laysPlayers_2 rfl (by decide) rfl ?_
  refine g_aload_n (pc := 3) C dX8_laysPlayers_3 rfl 1 rfl ?_
  obtain ⟨t1, et1, h⟩ := bs h
  refine g_callVi (pc := 4) C (As := []) (rest := []) (k := 0) (by rfl) (by rfl) (cwV 0 C.2.2.2.2.2.1 gX8_laysPlayers_X8_nobodys rfl rfl rfl (by decide +kernel) ⟨Nat.le_of_ble_eq_true rfl, Nat.le_of_ble_eq_true rfl⟩) (mX8_nobodys l Z  et1) rfl rfl (Nat.le_of_ble_eq_true rfl) dX8_laysPlayers_4 ?_
  refine g_istore_n (pc := 7) C (lv2 := [(3, .int t1), (2, .int (-4 : Int32)), (0, .ref (ad Z 0)), (1, .int v1)]) dX8_laysPlayers_7 rfl (by decide) rfl ?_
  refine g_aload_n (pc := 8) C dX8_laysPlayers_8 rfl 2 rfl ?_
  refine g_aload_n (pc := 9) C dX8_laysPlayers_9 rfl 2 rfl ?_
  refine g_geti (pc := 10) C (Cn := RX8) (T := TX8) (N := 32) (ci := 8) (k := 0) (j := 1) uX8_laysPlayers_X8 (by rfl) rfl (by decide) (by decide +kernel) (q := 0) rfl dX8_laysPlayers_10 ?_
  obtain ⟨σ2, eσ2, h⟩ := bs h
  refine g_puti (pc := 13) C (Cn := RX8) (T := TX8) (N := 32) (ci := 8) (k := 0) (j := 22) uX8_laysPlayers_X8 (by rfl) rfl (by decide) (by decide +kernel) tyX8 tyX8_ok nmX8 rfl (by decide +kernel) rfl eσ2 dX8_laysPlayers_13 ?_
  refine g_iconst (pc := 16) C (v := (0 : Int32)) dX8_laysPlayers_16 (by decide) ?_
  refine g_istore (pc := 17) C (lv2 := [(4, .int (0 : Int32)), (3, .int t1), (2, .int (-4 : Int32)), (0, .ref (ad Z 0)), (1, .int v1)]) dX8_laysPlayers_17 (by decide) rfl ?_
  exact g_sub [3, 4, 2, 1, 0] rfl (kX8_laysPlayers_l19 C   _ _ _ _ _ h)
theorem mX8_laysPlayers (l : Launch) (Z : Sh) {σ : Sg} {v1 : Int32} {u : Sg × Int32}  (h : fX8_laysPlayers σ v1 = some u) : MI l Z layM yX8_laysPlayers wsX8_laysPlayers rX8_laysPlayers [.ref (ad Z 0), .int v1] σ u.1 u.2 :=
  MI.of (cc := cX8_laysPlayers) (maxL := 5) (ret := (some .int)) (by decide) rfl (Nat.le_of_ble_eq_true rfl) (fun p e s m below meth c C => kX8_laysPlayers_e C  h)

def rX8_mightOf : Room := { frames := 0, cells := 0, slots := 0, locals := 0 }
theorem uX8_mightOf_X8 : ∀ w ∈ wsX80, w ∈ wsX8_mightOf := by decide +kernel
def fX8_mightOf_l4 (σ : Sg) (v1 : Int32)  : Nat → Int32 → Int32 → Option (Int32)
  | 0, _, _ => none
  | n + 1, v2, v3 => if (σ 0 22) ≤ v3 then some v2 else if ((v1 >>> (v3 &&& 31)) &&& (1 : Int32)) = (1 : Int32) then (rd (σ 7) 10 v3).bind fun t1 => fX8_mightOf_l4 σ v1 n (v2 + t1) (v3 + 1) else fX8_mightOf_l4 σ v1 n (v2 + (0 : Int32)) (v3 + 1)
def fX8_mightOf (σ : Sg) (v1 : Int32) : Option (Int32) := fX8_mightOf_l4 σ v1 2000 (0 : Int32) (0 : Int32)
set_option maxHeartbeats 1000000 in
set_option maxRecDepth 20000 in
theorem kX8_mightOf_l4 {p : Program} {l : Launch} {e : Env} {s : State} {m : MethodId} {args : Array Value} {below : List Frame} {meth : Method} {c : Code} {Z : Sh} (C : Cx p s m args meth c cX8_mightOf 4 wsX8_mightOf RX8 (some .int) Z layM) {σ : Sg} {v1 : Int32} {u : Int32}   : ∀ (n : Nat) (v2 : Int32) (v3 : Int32), fX8_mightOf_l4 σ v1 n v2 v3 = some u → G p l e rX8_mightOf s m args below meth c 4 Z layM (MQ below (QI Z layM σ u s.heap.size) args s 0 0 (pA Z layM s.heap.size)) σ 4 [(0, .ref (ad Z 0)), (1, .int v1), (2, .int v2), (3, .int v3)] [] := by
  intro n
  induction n with
  | zero => intro v2 v3 h; exact absurd h (by simp [fX8_mightOf_l4])
  | succ n ih =>
    intro v2 v3 h
    rw [fX8_mightOf_l4] at h
    refine g_iload_n (pc := 4) C dX8_mightOf_4 rfl 3 rfl ?_
    refine g_aload_n (pc := 5) C dX8_mightOf_5 rfl 0 rfl ?_
    refine g_geti (pc := 6) C (Cn := RX8) (T := TX8) (N := 32) (ci := 8) (k := 0) (j := 22) uX8_mightOf_X8 (by rfl) rfl (by decide) (by decide +kernel) (q := 0) rfl dX8_mightOf_6 ?_
    refine g_icmp_ge (pc := 9) C (tgt := 40) dX8_mightOf_9 (by decide) h (fun hc9 h => ?_) (fun hc9 h => ?_)
    · refine g_iload_n (pc := 40) C dX8_mightOf_40 rfl 2 rfl ?_
      exact g_iret C dX8_mightOf_41 rfl (Option.some.inj h)
    · refine g_iload_n (pc := 12) C dX8_mightOf_12 rfl 2 rfl ?_
      refine g_iload_n (pc := 13) C dX8_mightOf_13 rfl 1 rfl ?_
      refine g_iload_n (pc := 14) C dX8_mightOf_14 rfl 3 rfl ?_
      refine g_ishr (pc := 15) C dX8_mightOf_15 ?_
      refine g_iconst (pc := 16) C (v := (1 : Int32)) dX8_mightOf_16 (by decide) ?_
      refine g_iand (pc := 17) C dX8_mightOf_17 ?_
      refine g_iconst (pc := 18) C (v := (1 : Int32)) dX8_mightOf_18 (by decide) ?_
      refine g_icmp_ne (pc := 19) C (tgt := 31) dX8_mightOf_19 (by decide) h (fun hc19 h => ?_) (fun hc19 h => ?_)
      · refine g_iconst (pc := 31) C (v := (0 : Int32)) dX8_mightOf_31 (by decide) ?_
        refine g_iadd (pc := 32) C dX8_mightOf_32 ?_
        refine g_istore_n (pc := 33) C (lv2 := [(2, .int (v2 + (0 : Int32))), (0, .ref (ad Z 0)), (1, .int v1), (3, .int v3)]) dX8_mightOf_33 rfl (by decide) rfl ?_
        refine g_iinc (pc := 34) C (j := 3) (v := (v3 + 1)) (lv2 := [(3, .int (v3 + 1)), (2, .int (v2 + (0 : Int32))), (0, .ref (ad Z 0)), (1, .int v1)]) dX8_mightOf_34 rfl rfl (by decide) rfl ?_
        refine g_goto (pc := 37) C (tgt := 4) dX8_mightOf_37 (by decide) ?_
        exact g_sub [2, 3, 1, 0] rfl (ih _ _ h)
      · refine g_aload_n (pc := 22) C dX8_mightOf_22 rfl 0 rfl ?_
        refine g_getr (pc := 23) C (Cn := RX8) (T := TX8) (N := 32) (ci := 8) (k := 0) (j := 21) uX8_mightOf_X8 (by rfl) rfl (by decide) (by decide +kernel) (q := 7) rfl dX8_mightOf_23 ?_
        refine g_iload_n (pc := 26) C dX8_mightOf_26 rfl 3 rfl ?_
        obtain ⟨t1, et1, h⟩ := bs h
        refine g_iald (pc := 27) C (k := 7) (n := 10) (by rfl) et1 dX8_mightOf_27 ?_
        refine g_goto (pc := 28) C (tgt := 32) dX8_mightOf_28 (by decide) ?_
        refine g_iadd (pc := 32) C dX8_mightOf_32 ?_
        refine g_istore_n (pc := 33) C (lv2 := [(2, .int (v2 + t1)), (0, .ref (ad Z 0)), (1, .int v1), (3, .int v3)]) dX8_mightOf_33 rfl (by decide) rfl ?_
        refine g_iinc (pc := 34) C (j := 3) (v := (v3 + 1)) (lv2 := [(3, .int (v3 + 1)), (2, .int (v2 + t1)), (0, .ref (ad Z 0)), (1, .int v1)]) dX8_mightOf_34 rfl rfl (by decide) rfl ?_
        refine g_goto (pc := 37) C (tgt := 4) dX8_mightOf_37 (by decide) ?_
        exact g_sub [2, 3, 1, 0] rfl (ih _ _ h)
set_option maxHeartbeats 1000000 in
set_option maxRecDepth 20000 in
theorem kX8_mightOf_e {p : Program} {l : Launch} {e : Env} {s : State} {m : MethodId} {args : Array Value} {below : List Frame} {meth : Method} {c : Code} {Z : Sh} (C : Cx p s m args meth c cX8_mightOf 4 wsX8_mightOf RX8 (some .int) Z layM) {σ : Sg} {v1 : Int32} {u : Int32}  (h : fX8_mightOf σ v1 = some u) : G p l e rX8_mightOf s m args below meth c 4 Z layM (MQ below (QI Z layM σ u s.heap.size) args s 0 0 (pA Z layM s.heap.size)) σ 0 [(0, .ref (ad Z 0)), (1, .int v1)] [] := by
  unfold fX8_mightOf at h
  refine g_iconst (pc := 0) C (v := (0 : Int32)) dX8_mightOf_0 (by decide) ?_
  refine g_istore_n (pc := 1) C (lv2 := [(2, .int (0 : Int32)), (0, .ref (ad Z 0)), (1, .int v1)]) dX8_mightOf_1 rfl (by decide) rfl ?_
  refine g_iconst (pc := 2) C (v := (0 : Int32)) dX8_mightOf_2 (by decide) ?_
  refine g_istore_n (pc := 3) C (lv2 := [(3, .int (0 : Int32)), (2, .int (0 : Int32)), (0, .ref (ad Z 0)), (1, .int v1)]) dX8_mightOf_3 rfl (by decide) rfl ?_
  exact g_sub [2, 3, 1, 0] rfl (kX8_mightOf_l4 C   _ _ _ h)
theorem mX8_mightOf (l : Launch) (Z : Sh) {σ : Sg} {v1 : Int32} {u : Int32}  (h : fX8_mightOf σ v1 = some u) : MI l Z layM yX8_mightOf wsX8_mightOf rX8_mightOf [.ref (ad Z 0), .int v1] σ σ u :=
  MI.of (cc := cX8_mightOf) (maxL := 4) (ret := (some .int)) (by decide) rfl (Nat.le_of_ble_eq_true rfl) (fun p e s m below meth c C => kX8_mightOf_e C  h)

def rX8_swingsBy : Room := { frames := 1, cells := 0, slots := 0, locals := 23 }
theorem uX8_swingsBy_X8 : ∀ w ∈ wsX80, w ∈ wsX8_swingsBy := by decide +kernel
def fX8_swingsBy (σ : Sg) (v1 : Int32) (v2 : Int32) : Option (Int32) := (fX8_mightOf σ (((1 : Int32) <<< ((σ 0 22) &&& 31)) - (1 : Int32))).bind fun t1 => (fX8_mightOf σ v2).bind fun t2 => if ((v2 >>> (v1 &&& 31)) &&& (1 : Int32)) = 0 then if t1 < ((2 : Int32) * t2) then some (0 : Int32) else (rd (σ 7) 10 v1).bind fun t3 => if ((2 : Int32) * (t2 + t3)) ≤ t1 then some (0 : Int32) else some (1 : Int32) else some (0 : Int32)
set_option maxHeartbeats 1000000 in
set_option maxRecDepth 20000 in
theorem kX8_swingsBy_e {p : Program} {l : Launch} {e : Env} {s : State} {m : MethodId} {args : Array Value} {below : List Frame} {meth : Method} {c : Code} {Z : Sh} (C : Cx p s m args meth c cX8_swingsBy 5 wsX8_swingsBy RX8 (some .boolean) Z layM) {σ : Sg} {v1 : Int32} {v2 : Int32} {u : Int32}  (h : fX8_swingsBy σ v1 v2 = some u) : G p l e rX8_swingsBy s m args below meth c 5 Z layM (MQ below (QI Z layM σ u s.heap.size) args s 0 0 (pA Z layM s.heap.size)) σ 0 [(0, .ref (ad Z 0)), (1, .int v1), (2, .int v2)] [] := by
  unfold fX8_swingsBy at h
  refine g_aload_n (pc := 0) C dX8_swingsBy_0 rfl 0 rfl ?_
  refine g_iconst (pc := 1) C (v := (1 : Int32)) dX8_swingsBy_1 (by decide) ?_
  refine g_aload_n (pc := 2) C dX8_swingsBy_2 rfl 0 rfl ?_
  refine g_geti (pc := 3) C (Cn := RX8) (T := TX8) (N := 32) (ci := 8) (k := 0) (j := 22) uX8_swingsBy_X8 (by rfl) rfl (by decide) (by decide +kernel) (q := 0) rfl dX8_swingsBy_3 ?_
  refine g_ishl (pc := 6) C dX8_swingsBy_6 ?_
  refine g_iconst (pc := 7) C (v := (1 : Int32)) dX8_swingsBy_7 (by decide) ?_
  refine g_isub (pc := 8) C dX8_swingsBy_8 ?_
  obtain ⟨t1, et1, h⟩ := bs h
  refine g_callVi (pc := 9) C (As := [.int (((1 : Int32) <<< ((σ 0 22) &&& 31)) - (1 : Int32))]) (rest := []) (k := 0) (by rfl) (by rfl) (cwV 1 C.2.2.2.2.2.1 gX8_swingsBy_X8_mightOf rfl rfl rfl (by decide +kernel) ⟨Nat.le_of_ble_eq_true rfl, Nat.le_of_ble_eq_true rfl⟩) (mX8_mightOf l Z  et1) rfl rfl (Nat.le_of_ble_eq_true rfl) dX8_swingsBy_9 ?_
  refine g_istore_n (pc := 12) C (lv2 := [(3, .int t1), (0, .ref (ad Z 0)), (1, .int v1), (2, .int v2)]) dX8_swingsBy_12 rfl (by decide) rfl ?_
  refine g_aload_n (pc := 13) C dX8_swingsBy_13 rfl 1 rfl ?_
  refine g_iload_n (pc := 14) C dX8_swingsBy_14 rfl 3 rfl ?_
  obtain ⟨t2, et2, h⟩ := bs h
  refine g_callVi (pc := 15) C (As := [.int v2]) (rest := []) (k := 0) (by rfl) (by rfl) (cwV 1 C.2.2.2.2.2.1 gX8_swingsBy_X8_mightOf rfl rfl rfl (by decide +kernel) ⟨Nat.le_of_ble_eq_true rfl, Nat.le_of_ble_eq_true rfl⟩) (mX8_mightOf l Z  et2) rfl rfl (Nat.le_of_ble_eq_true rfl) dX8_swingsBy_15 ?_
  refine g_istore (pc := 18) C (lv2 := [(4, .int t2), (3, .int t1), (0, .ref (ad Z 0)), (1, .int v1), (2, .int v2)]) dX8_swingsBy_18 (by decide) rfl ?_
  refine g_iload_n (pc := 20) C dX8_swingsBy_20 rfl 4 rfl ?_
  refine g_iload_n (pc := 21) C dX8_swingsBy_21 rfl 3 rfl ?_
  refine g_ishr (pc := 22) C dX8_swingsBy_22 ?_
  refine g_iconst (pc := 23) C (v := (1 : Int32)) dX8_swingsBy_23 (by decide) ?_
  refine g_iand (pc := 24) C dX8_swingsBy_24 ?_
  refine g_if_ne (pc := 25) C (tgt := 55) dX8_swingsBy_25 (by decide) h (fun hc25 h => ?_) (fun hc25 h => ?_)
  · refine g_iconst (pc := 55) C (v := (0 : Int32)) dX8_swingsBy_55 (by decide) ?_
    exact g_zret C dX8_swingsBy_56 rfl (rz0.trans h)
  · refine g_iconst (pc := 28) C (v := (2 : Int32)) dX8_swingsBy_28 (by decide) ?_
    refine g_iload (pc := 29) C dX8_swingsBy_29 0 rfl ?_
    refine g_imul (pc := 31) C dX8_swingsBy_31 ?_
    refine g_iload_n (pc := 32) C dX8_swingsBy_32 rfl 1 rfl ?_
    refine g_icmp_gt (pc := 33) C (tgt := 55) dX8_swingsBy_33 (by decide) h (fun hc33 h => ?_) (fun hc33 h => ?_)
    · refine g_iconst (pc := 55) C (v := (0 : Int32)) dX8_swingsBy_55 (by decide) ?_
      exact g_zret C dX8_swingsBy_56 rfl (rz0.trans h)
    · refine g_iconst (pc := 36) C (v := (2 : Int32)) dX8_swingsBy_36 (by decide) ?_
      refine g_iload (pc := 37) C dX8_swingsBy_37 0 rfl ?_
      refine g_aload_n (pc := 39) C dX8_swingsBy_39 rfl 2 rfl ?_
      refine g_getr (pc := 40) C (Cn := RX8) (T := TX8) (N := 32) (ci := 8) (k := 0) (j := 21) uX8_swingsBy_X8 (by rfl) rfl (by decide) (by decide +kernel) (q := 7) rfl dX8_swingsBy_40 ?_
      refine g_iload_n (pc := 43) C dX8_swingsBy_43 rfl 3 rfl ?_
      obtain ⟨t3, et3, h⟩ := bs h
      refine g_iald (pc := 44) C (k := 7) (n := 10) (by rfl) et3 dX8_swingsBy_44 ?_
      refine g_iadd (pc := 45) C dX8_swingsBy_45 ?_
      refine g_imul (pc := 46) C dX8_swingsBy_46 ?_
      refine g_iload_n (pc := 47) C dX8_swingsBy_47 rfl 1 rfl ?_
      refine g_icmp_le (pc := 48) C (tgt := 55) dX8_swingsBy_48 (by decide) h (fun hc48 h => ?_) (fun hc48 h => ?_)
      · refine g_iconst (pc := 55) C (v := (0 : Int32)) dX8_swingsBy_55 (by decide) ?_
        exact g_zret C dX8_swingsBy_56 rfl (rz0.trans h)
      · refine g_iconst (pc := 51) C (v := (1 : Int32)) dX8_swingsBy_51 (by decide) ?_
        refine g_goto (pc := 52) C (tgt := 56) dX8_swingsBy_52 (by decide) ?_
        exact g_zret C dX8_swingsBy_56 rfl (rz1.trans h)
theorem mX8_swingsBy (l : Launch) (Z : Sh) {σ : Sg} {v1 : Int32} {v2 : Int32} {u : Int32}  (h : fX8_swingsBy σ v1 v2 = some u) : MI l Z layM yX8_swingsBy wsX8_swingsBy rX8_swingsBy [.ref (ad Z 0), .int v1, .int v2] σ σ u :=
  MI.of (cc := cX8_swingsBy) (maxL := 5) (ret := (some .boolean)) (by decide) rfl (Nat.le_of_ble_eq_true rfl) (fun p e s m below meth c C => kX8_swingsBy_e C  h)

def rX8_swings : Room := { frames := 4, cells := 0, slots := 0, locals := 88 }
theorem uX8_swings_X8 : ∀ w ∈ wsX80, w ∈ wsX8_swings := by decide +kernel
def fX8_swings_l21 (v1 : Int32)  : Nat → Sg → Int32 → Int32 → Option (Sg × Int32)
  | 0, _, _, _ => none
  | n + 1, σ, v2, v3 => if ((1 : Int32) <<< ((σ 0 22) &&& 31)) ≤ v3 then some (σ, v2) else (fX8_swingsBy σ v1 v3).bind fun t1 => if t1 = 0 then fX8_swings_l21 v1 n σ (v2 + (0 : Int32)) (v3 + 1) else fX8_swings_l21 v1 n σ (v2 + (1 : Int32)) (v3 + 1)
def fX8_swings (σ : Sg) (v1 : Int32) : Option (Sg × Int32) := (fX8_isLord σ v1).bind fun t1 => if t1 = 0 then some (σ, (-1 : Int32)) else (fX8_laysPlayers σ (-4 : Int32)).bind fun u2 => fX8_swings_l21 v1 2000 u2.1 (0 : Int32) (0 : Int32)
set_option maxHeartbeats 1000000 in
set_option maxRecDepth 20000 in
theorem kX8_swings_l21 {p : Program} {l : Launch} {e : Env} {s : State} {m : MethodId} {args : Array Value} {below : List Frame} {meth : Method} {c : Code} {Z : Sh} (C : Cx p s m args meth c cX8_swings 4 wsX8_swings RX8 (some .int) Z layM) {v1 : Int32} {u : Sg × Int32}   : ∀ (n : Nat) (σ : Sg) (v2 : Int32) (v3 : Int32), fX8_swings_l21 v1 n σ v2 v3 = some u → G p l e rX8_swings s m args below meth c 4 Z layM (MQ below (QI Z layM u.1 u.2 s.heap.size) args s 0 0 (pA Z layM s.heap.size)) σ 21 [(0, .ref (ad Z 0)), (1, .int v1), (2, .int v2), (3, .int v3)] [] := by
  intro n
  induction n with
  | zero => intro σ v2 v3 h; exact absurd h (by simp [fX8_swings_l21])
  | succ n ih =>
    intro σ v2 v3 h
    rw [fX8_swings_l21] at h
    refine g_iload_n (pc := 21) C dX8_swings_21 rfl 3 rfl ?_
    refine g_iconst (pc := 22) C (v := (1 : Int32)) dX8_swings_22 (by decide) ?_
    refine g_aload_n (pc := 23) C dX8_swings_23 rfl 0 rfl ?_
    refine g_geti (pc := 24) C (Cn := RX8) (T := TX8) (N := 32) (ci := 8) (k := 0) (j := 22) uX8_swings_X8 (by rfl) rfl (by decide) (by decide +kernel) (q := 0) rfl dX8_swings_24 ?_
    refine g_ishl (pc := 27) C dX8_swings_27 ?_
    refine g_icmp_ge (pc := 28) C (tgt := 54) dX8_swings_28 (by decide) h (fun hc28 h => ?_) (fun hc28 h => ?_)
    · refine g_iload_n (pc := 54) C dX8_swings_54 rfl 2 rfl ?_
      exact g_iret C dX8_swings_55 (pfst h) (psnd h)
    · refine g_iload_n (pc := 31) C dX8_swings_31 rfl 2 rfl ?_
      refine g_aload_n (pc := 32) C dX8_swings_32 rfl 0 rfl ?_
      refine g_iload_n (pc := 33) C dX8_swings_33 rfl 1 rfl ?_
      refine g_iload_n (pc := 34) C dX8_swings_34 rfl 3 rfl ?_
      obtain ⟨t1, et1, h⟩ := bs h
      refine g_callVi (pc := 35) C (As := [.int v1, .int v3]) (rest := [.int v2]) (k := 0) (by rfl) (by rfl) (cwV 2 C.2.2.2.2.2.1 gX8_swings_X8_swingsBy rfl rfl rfl (by decide +kernel) ⟨Nat.le_of_ble_eq_true rfl, Nat.le_of_ble_eq_true rfl⟩) (mX8_swingsBy l Z  et1) rfl rfl (Nat.le_of_ble_eq_true rfl) dX8_swings_35 ?_
      refine g_if_eq (pc := 38) C (tgt := 45) dX8_swings_38 (by decide) h (fun hc38 h => ?_) (fun hc38 h => ?_)
      · refine g_iconst (pc := 45) C (v := (0 : Int32)) dX8_swings_45 (by decide) ?_
        refine g_iadd (pc := 46) C dX8_swings_46 ?_
        refine g_istore_n (pc := 47) C (lv2 := [(2, .int (v2 + (0 : Int32))), (0, .ref (ad Z 0)), (1, .int v1), (3, .int v3)]) dX8_swings_47 rfl (by decide) rfl ?_
        refine g_iinc (pc := 48) C (j := 3) (v := (v3 + 1)) (lv2 := [(3, .int (v3 + 1)), (2, .int (v2 + (0 : Int32))), (0, .ref (ad Z 0)), (1, .int v1)]) dX8_swings_48 rfl rfl (by decide) rfl ?_
        refine g_goto (pc := 51) C (tgt := 21) dX8_swings_51 (by decide) ?_
        exact g_sub [2, 3, 1, 0] rfl (ih _ _ _ h)
      · refine g_iconst (pc := 41) C (v := (1 : Int32)) dX8_swings_41 (by decide) ?_
        refine g_goto (pc := 42) C (tgt := 46) dX8_swings_42 (by decide) ?_
        refine g_iadd (pc := 46) C dX8_swings_46 ?_
        refine g_istore_n (pc := 47) C (lv2 := [(2, .int (v2 + (1 : Int32))), (0, .ref (ad Z 0)), (1, .int v1), (3, .int v3)]) dX8_swings_47 rfl (by decide) rfl ?_
        refine g_iinc (pc := 48) C (j := 3) (v := (v3 + 1)) (lv2 := [(3, .int (v3 + 1)), (2, .int (v2 + (1 : Int32))), (0, .ref (ad Z 0)), (1, .int v1)]) dX8_swings_48 rfl rfl (by decide) rfl ?_
        refine g_goto (pc := 51) C (tgt := 21) dX8_swings_51 (by decide) ?_
        exact g_sub [2, 3, 1, 0] rfl (ih _ _ _ h)
set_option maxHeartbeats 1000000 in
set_option maxRecDepth 20000 in
theorem kX8_swings_e {p : Program} {l : Launch} {e : Env} {s : State} {m : MethodId} {args : Array Value} {below : List Frame} {meth : Method} {c : Code} {Z : Sh} (C : Cx p s m args meth c cX8_swings 4 wsX8_swings RX8 (some .int) Z layM) {σ : Sg} {v1 : Int32} {u : Sg × Int32}  (h : fX8_swings σ v1 = some u) : G p l e rX8_swings s m args below meth c 4 Z layM (MQ below (QI Z layM u.1 u.2 s.heap.size) args s 0 0 (pA Z layM s.heap.size)) σ 0 [(0, .ref (ad Z 0)), (1, .int v1)] [] := by
  unfold fX8_swings at h
  refine g_aload_n (pc := 0) C dX8_swings_0 rfl 0 rfl ?_
  refine g_iload_n (pc := 1) C dX8_swings_1 rfl 1 rfl ?_
  obtain ⟨t1, et1, h⟩ := bs h
  refine g_callVi (pc := 2) C (As := [.int v1]) (rest := []) (k := 0) (by rfl) (by rfl) (cwV 1 C.2.2.2.2.2.1 gX8_swings_X8_isLord rfl rfl rfl (by decide +kernel) ⟨Nat.le_of_ble_eq_true rfl, Nat.le_of_ble_eq_true rfl⟩) (mX8_isLord l Z  et1) rfl rfl (Nat.le_of_ble_eq_true rfl) dX8_swings_2 ?_
  refine g_if_ne (pc := 5) C (tgt := 10) dX8_swings_5 (by decide) h (fun hc5 h => ?_) (fun hc5 h => ?_)
  · refine g_aload_n (pc := 10) C dX8_swings_10 rfl 0 rfl ?_
    refine g_bipush (pc := 11) C (v := (-4 : Int32)) dX8_swings_11 (by decide) ?_
    obtain ⟨u2, eu2, h⟩ := bs h
    refine g_callVi (pc := 13) C (As := [.int (-4 : Int32)]) (rest := []) (k := 0) (by rfl) (by rfl) (cwV 1 C.2.2.2.2.2.1 gX8_swings_X8_laysPlayers rfl rfl rfl (by decide +kernel) ⟨Nat.le_of_ble_eq_true rfl, Nat.le_of_ble_eq_true rfl⟩) (mX8_laysPlayers l Z  eu2) rfl rfl (Nat.le_of_ble_eq_true rfl) dX8_swings_13 ?_
    refine g_pop (pc := 16) C rfl dX8_swings_16 ?_
    refine g_iconst (pc := 17) C (v := (0 : Int32)) dX8_swings_17 (by decide) ?_
    refine g_istore_n (pc := 18) C (lv2 := [(2, .int (0 : Int32)), (0, .ref (ad Z 0)), (1, .int v1)]) dX8_swings_18 rfl (by decide) rfl ?_
    refine g_iconst (pc := 19) C (v := (0 : Int32)) dX8_swings_19 (by decide) ?_
    refine g_istore_n (pc := 20) C (lv2 := [(3, .int (0 : Int32)), (2, .int (0 : Int32)), (0, .ref (ad Z 0)), (1, .int v1)]) dX8_swings_20 rfl (by decide) rfl ?_
    exact g_sub [2, 3, 1, 0] rfl (kX8_swings_l21 C   _ _ _ _ h)
  · refine g_iconst (pc := 8) C (v := (-1 : Int32)) dX8_swings_8 (by decide) ?_
    exact g_iret C dX8_swings_9 (pfst h) (psnd h)
theorem mX8_swings (l : Launch) (Z : Sh) {σ : Sg} {v1 : Int32} {u : Sg × Int32}  (h : fX8_swings σ v1 = some u) : MI l Z layM yX8_swings wsX8_swings rX8_swings [.ref (ad Z 0), .int v1] σ u.1 u.2 :=
  MI.of (cc := cX8_swings) (maxL := 4) (ret := (some .int)) (by decide) rfl (Nat.le_of_ble_eq_true rfl) (fun p e s m below meth c C => kX8_swings_e C  h)

def rX8_bitsOf : Room := { frames := 0, cells := 0, slots := 0, locals := 0 }
def fX8_bitsOf_l4 (v0 : Int32)  : Nat → Int32 → Int32 → Option (Int32)
  | 0, _, _ => none
  | n + 1, v1, v2 => if (10 : Int32) ≤ v2 then some v1 else fX8_bitsOf_l4 v0 n (v1 + ((v0 >>> (v2 &&& 31)) &&& (1 : Int32))) (v2 + 1)
def fX8_bitsOf (v0 : Int32) : Option (Int32) := fX8_bitsOf_l4 v0 2000 (0 : Int32) (0 : Int32)
set_option maxHeartbeats 1000000 in
set_option maxRecDepth 20000 in
theorem kX8_bitsOf_l4 {p : Program} {l : Launch} {e : Env} {s : State} {m : MethodId} {args : Array Value} {below : List Frame} {meth : Method} {c : Code} {Z : Sh} (C : Cx p s m args meth c cX8_bitsOf 3 wsX8_bitsOf RX8 (some .int) Z layM) {σ : Sg} {v0 : Int32} {u : Int32}   : ∀ (n : Nat) (v1 : Int32) (v2 : Int32), fX8_bitsOf_l4 v0 n v1 v2 = some u → G p l e rX8_bitsOf s m args below meth c 3 Z layM (MQ below (QI Z layM σ u s.heap.size) args s 0 0 (pA Z layM s.heap.size)) σ 4 [(0, .int v0), (1, .int v1), (2, .int v2)] [] := by
  intro n
  induction n with
  | zero => intro v1 v2 h; exact absurd h (by simp [fX8_bitsOf_l4])
  | succ n ih =>
    intro v1 v2 h
    rw [fX8_bitsOf_l4] at h
    refine g_iload_n (pc := 4) C dX8_bitsOf_4 rfl 2 rfl ?_
    refine g_bipush (pc := 5) C (v := (10 : Int32)) dX8_bitsOf_5 (by decide) ?_
    refine g_icmp_ge (pc := 7) C (tgt := 24) dX8_bitsOf_7 (by decide) h (fun hc7 h => ?_) (fun hc7 h => ?_)
    · refine g_iload_n (pc := 24) C dX8_bitsOf_24 rfl 1 rfl ?_
      exact g_iret C dX8_bitsOf_25 rfl (Option.some.inj h)
    · refine g_iload_n (pc := 10) C dX8_bitsOf_10 rfl 1 rfl ?_
      refine g_iload_n (pc := 11) C dX8_bitsOf_11 rfl 0 rfl ?_
      refine g_iload_n (pc := 12) C dX8_bitsOf_12 rfl 2 rfl ?_
      refine g_ishr (pc := 13) C dX8_bitsOf_13 ?_
      refine g_iconst (pc := 14) C (v := (1 : Int32)) dX8_bitsOf_14 (by decide) ?_
      refine g_iand (pc := 15) C dX8_bitsOf_15 ?_
      refine g_iadd (pc := 16) C dX8_bitsOf_16 ?_
      refine g_istore_n (pc := 17) C (lv2 := [(1, .int (v1 + ((v0 >>> (v2 &&& 31)) &&& (1 : Int32)))), (0, .int v0), (2, .int v2)]) dX8_bitsOf_17 rfl (by decide) rfl ?_
      refine g_iinc (pc := 18) C (j := 2) (v := (v2 + 1)) (lv2 := [(2, .int (v2 + 1)), (1, .int (v1 + ((v0 >>> (v2 &&& 31)) &&& (1 : Int32)))), (0, .int v0)]) dX8_bitsOf_18 rfl rfl (by decide) rfl ?_
      refine g_goto (pc := 21) C (tgt := 4) dX8_bitsOf_21 (by decide) ?_
      exact g_sub [2, 1, 0] rfl (ih _ _ h)
set_option maxHeartbeats 1000000 in
set_option maxRecDepth 20000 in
theorem kX8_bitsOf_e {p : Program} {l : Launch} {e : Env} {s : State} {m : MethodId} {args : Array Value} {below : List Frame} {meth : Method} {c : Code} {Z : Sh} (C : Cx p s m args meth c cX8_bitsOf 3 wsX8_bitsOf RX8 (some .int) Z layM) {σ : Sg} {v0 : Int32} {u : Int32}  (h : fX8_bitsOf v0 = some u) : G p l e rX8_bitsOf s m args below meth c 3 Z layM (MQ below (QI Z layM σ u s.heap.size) args s 0 0 (pA Z layM s.heap.size)) σ 0 [(0, .int v0)] [] := by
  unfold fX8_bitsOf at h
  refine g_iconst (pc := 0) C (v := (0 : Int32)) dX8_bitsOf_0 (by decide) ?_
  refine g_istore_n (pc := 1) C (lv2 := [(1, .int (0 : Int32)), (0, .int v0)]) dX8_bitsOf_1 rfl (by decide) rfl ?_
  refine g_iconst (pc := 2) C (v := (0 : Int32)) dX8_bitsOf_2 (by decide) ?_
  refine g_istore_n (pc := 3) C (lv2 := [(2, .int (0 : Int32)), (1, .int (0 : Int32)), (0, .int v0)]) dX8_bitsOf_3 rfl (by decide) rfl ?_
  exact g_sub [2, 1, 0] rfl (kX8_bitsOf_l4 C   _ _ _ h)
theorem mX8_bitsOf (l : Launch) (Z : Sh) {σ : Sg} {v0 : Int32} {u : Int32}  (h : fX8_bitsOf v0 = some u) : MI l Z layM yX8_bitsOf wsX8_bitsOf rX8_bitsOf [.int v0] σ σ u :=
  MI.of (cc := cX8_bitsOf) (maxL := 3) (ret := (some .int)) (by decide) rfl (Nat.le_of_ble_eq_true rfl) (fun p e s m below meth c C => kX8_bitsOf_e C  h)

def rX8_ordersOf : Room := { frames := 0, cells := 0, slots := 0, locals := 0 }
def fX8_ordersOf_l4 (v0 : Int32)  : Nat → Int64 → Int32 → Option (Int64)
  | 0, _, _ => none
  | n + 1, v1, v3 => if v0 < v3 then some v1 else fX8_ordersOf_l4 v0 n (v1 * v3.toInt64) (v3 + 1)
def fX8_ordersOf (v0 : Int32) : Option (Int64) := fX8_ordersOf_l4 v0 2000 (1 : Int64) (2 : Int32)
set_option maxHeartbeats 1000000 in
set_option maxRecDepth 20000 in
theorem kX8_ordersOf_l4 {p : Program} {l : Launch} {e : Env} {s : State} {m : MethodId} {args : Array Value} {below : List Frame} {meth : Method} {c : Code} {Z : Sh} (C : Cx p s m args meth c cX8_ordersOf 4 wsX8_ordersOf RX8 (some .long) Z layM) {σ : Sg} {v0 : Int32} {u : Int64}   : ∀ (n : Nat) (v1 : Int64) (v3 : Int32), fX8_ordersOf_l4 v0 n v1 v3 = some u → G p l e rX8_ordersOf s m args below meth c 4 Z layM (MQ below (QL Z layM σ u s.heap.size) args s 0 0 (pA Z layM s.heap.size)) σ 4 [(0, .int v0), (1, .long v1), (3, .int v3)] [] := by
  intro n
  induction n with
  | zero => intro v1 v3 h; exact absurd h (by simp [fX8_ordersOf_l4])
  | succ n ih =>
    intro v1 v3 h
    rw [fX8_ordersOf_l4] at h
    refine g_iload_n (pc := 4) C dX8_ordersOf_4 rfl 2 rfl ?_
    refine g_iload_n (pc := 5) C dX8_ordersOf_5 rfl 0 rfl ?_
    refine g_icmp_gt (pc := 6) C (tgt := 20) dX8_ordersOf_6 (by decide) h (fun hc6 h => ?_) (fun hc6 h => ?_)
    · refine g_lload_n (pc := 20) C dX8_ordersOf_20 rfl 1 rfl ?_
      exact g_lret C dX8_ordersOf_21 rfl (Option.some.inj h)
    · refine g_lload_n (pc := 9) C dX8_ordersOf_9 rfl 1 rfl ?_
      refine g_iload_n (pc := 10) C dX8_ordersOf_10 rfl 2 rfl ?_
      refine g_i2l (pc := 11) C dX8_ordersOf_11 ?_
      refine g_lmul (pc := 12) C dX8_ordersOf_12 ?_
      refine g_lstore_n (pc := 13) C (lv2 := [(1, .long (v1 * v3.toInt64)), (0, .int v0), (3, .int v3)]) dX8_ordersOf_13 rfl (by decide) rfl ?_
      refine g_iinc (pc := 14) C (j := 2) (v := (v3 + 1)) (lv2 := [(3, .int (v3 + 1)), (1, .long (v1 * v3.toInt64)), (0, .int v0)]) dX8_ordersOf_14 rfl rfl (by decide) rfl ?_
      refine g_goto (pc := 17) C (tgt := 4) dX8_ordersOf_17 (by decide) ?_
      exact g_sub [2, 1, 0] rfl (ih _ _ h)
set_option maxHeartbeats 1000000 in
set_option maxRecDepth 20000 in
theorem kX8_ordersOf_e {p : Program} {l : Launch} {e : Env} {s : State} {m : MethodId} {args : Array Value} {below : List Frame} {meth : Method} {c : Code} {Z : Sh} (C : Cx p s m args meth c cX8_ordersOf 4 wsX8_ordersOf RX8 (some .long) Z layM) {σ : Sg} {v0 : Int32} {u : Int64}  (h : fX8_ordersOf v0 = some u) : G p l e rX8_ordersOf s m args below meth c 4 Z layM (MQ below (QL Z layM σ u s.heap.size) args s 0 0 (pA Z layM s.heap.size)) σ 0 [(0, .int v0)] [] := by
  unfold fX8_ordersOf at h
  refine g_lconst (pc := 0) C (v := (1 : Int64)) dX8_ordersOf_0 (by decide) ?_
  refine g_lstore_n (pc := 1) C (lv2 := [(1, .long (1 : Int64)), (0, .int v0)]) dX8_ordersOf_1 rfl (by decide) rfl ?_
  refine g_iconst (pc := 2) C (v := (2 : Int32)) dX8_ordersOf_2 (by decide) ?_
  refine g_istore_n (pc := 3) C (lv2 := [(3, .int (2 : Int32)), (1, .long (1 : Int64)), (0, .int v0)]) dX8_ordersOf_3 rfl (by decide) rfl ?_
  exact g_sub [2, 1, 0] rfl (kX8_ordersOf_l4 C   _ _ _ h)
theorem mX8_ordersOf (l : Launch) (Z : Sh) {σ : Sg} {v0 : Int32} {u : Int64}  (h : fX8_ordersOf v0 = some u) : ML l Z layM yX8_ordersOf wsX8_ordersOf rX8_ordersOf [.int v0] σ σ u :=
  ML.of (cc := cX8_ordersOf) (maxL := 4) (ret := (some .long)) (by decide) rfl (Nat.le_of_ble_eq_true rfl) (fun p e s m below meth c C => kX8_ordersOf_e C  h)

def rX8_lowest : Room := { frames := 0, cells := 0, slots := 0, locals := 0 }
def fX8_lowest_l6 (v0 : Int64) (v2 : Int64) (v4 : Int32)  : Nat → Int64 → Int64 → Option (Int64)
  | 0, _, _ => none
  | n + 1, v5, v7 => if (lg_cmp v7 (0 : Int64)) = 0 then if v4 = 0 then (dvL v0 v5).bind fun t2 => some t2 else (dvL v2 v5).bind fun t1 => some t1 else (rmL v5 v7).bind fun t3 => fX8_lowest_l6 v0 v2 v4 n v7 t3
def fX8_lowest (v0 : Int64) (v2 : Int64) (v4 : Int32) : Option (Int64) := fX8_lowest_l6 v0 v2 v4 2000 v0 v2
set_option maxHeartbeats 1000000 in
set_option maxRecDepth 20000 in
theorem kX8_lowest_l6 {p : Program} {l : Launch} {e : Env} {s : State} {m : MethodId} {args : Array Value} {below : List Frame} {meth : Method} {c : Code} {Z : Sh} (C : Cx p s m args meth c cX8_lowest 11 wsX8_lowest RX8 (some .long) Z layM) {σ : Sg} {v0 : Int64} {v2 : Int64} {v4 : Int32} {u : Int64}   : ∀ (n : Nat) (v5 : Int64) (v7 : Int64), fX8_lowest_l6 v0 v2 v4 n v5 v7 = some u → G p l e rX8_lowest s m args below meth c 11 Z layM (MQ below (QL Z layM σ u s.heap.size) args s 0 0 (pA Z layM s.heap.size)) σ 6 [(0, .long v0), (2, .long v2), (4, .int v4), (5, .long v5), (7, .long v7)] [] := by
  intro n
  induction n with
  | zero => intro v5 v7 h; exact absurd h (by simp [fX8_lowest_l6])
  | succ n ih =>
    intro v5 v7 h
    rw [fX8_lowest_l6] at h
    refine g_lload (pc := 6) C dX8_lowest_6 4 rfl ?_
    refine g_lconst (pc := 8) C (v := (0 : Int64)) dX8_lowest_8 (by decide) ?_
    refine g_lcmp (pc := 9) C dX8_lowest_9 ?_
    refine g_if_eq (pc := 10) C (tgt := 31) dX8_lowest_10 (by decide) h (fun hc10 h => ?_) (fun hc10 h => ?_)
    · refine g_iload (pc := 31) C dX8_lowest_31 2 rfl ?_
      refine g_if_ne (pc := 33) C (tgt := 40) dX8_lowest_33 (by decide) h (fun hc33 h => ?_) (fun hc33 h => ?_)
      · refine g_lload_n (pc := 40) C dX8_lowest_40 rfl 1 rfl ?_
        refine g_lload (pc := 41) C dX8_lowest_41 3 rfl ?_
        obtain ⟨t1, et1, h⟩ := bs h
        refine g_ldiv (pc := 43) C dX8_lowest_43 et1 ?_
        exact g_lret C dX8_lowest_44 rfl (Option.some.inj h)
      · refine g_lload_n (pc := 36) C dX8_lowest_36 rfl 0 rfl ?_
        refine g_goto (pc := 37) C (tgt := 41) dX8_lowest_37 (by decide) ?_
        refine g_lload (pc := 41) C dX8_lowest_41 3 rfl ?_
        obtain ⟨t2, et2, h⟩ := bs h
        refine g_ldiv (pc := 43) C dX8_lowest_43 et2 ?_
        exact g_lret C dX8_lowest_44 rfl (Option.some.inj h)
    · refine g_lload (pc := 13) C dX8_lowest_13 3 rfl ?_
      refine g_lload (pc := 15) C dX8_lowest_15 4 rfl ?_
      obtain ⟨t3, et3, h⟩ := bs h
      refine g_lrem (pc := 17) C dX8_lowest_17 et3 ?_
      refine g_lstore (pc := 18) C (lv2 := [(9, .long t3), (0, .long v0), (2, .long v2), (4, .int v4), (5, .long v5), (7, .long v7)]) dX8_lowest_18 (by decide) rfl ?_
      refine g_lload (pc := 20) C dX8_lowest_20 5 rfl ?_
      refine g_lstore (pc := 22) C (lv2 := [(5, .long v7), (9, .long t3), (0, .long v0), (2, .long v2), (4, .int v4), (7, .long v7)]) dX8_lowest_22 (by decide) rfl ?_
      refine g_lload (pc := 24) C dX8_lowest_24 1 rfl ?_
      refine g_lstore (pc := 26) C (lv2 := [(7, .long t3), (5, .long v7), (9, .long t3), (0, .long v0), (2, .long v2), (4, .int v4)]) dX8_lowest_26 (by decide) rfl ?_
      refine g_goto (pc := 28) C (tgt := 6) dX8_lowest_28 (by decide) ?_
      exact g_sub [3, 4, 5, 1, 0] rfl (ih _ _ h)
set_option maxHeartbeats 1000000 in
set_option maxRecDepth 20000 in
theorem kX8_lowest_e {p : Program} {l : Launch} {e : Env} {s : State} {m : MethodId} {args : Array Value} {below : List Frame} {meth : Method} {c : Code} {Z : Sh} (C : Cx p s m args meth c cX8_lowest 11 wsX8_lowest RX8 (some .long) Z layM) {σ : Sg} {v0 : Int64} {v2 : Int64} {v4 : Int32} {u : Int64}  (h : fX8_lowest v0 v2 v4 = some u) : G p l e rX8_lowest s m args below meth c 11 Z layM (MQ below (QL Z layM σ u s.heap.size) args s 0 0 (pA Z layM s.heap.size)) σ 0 [(0, .long v0), (2, .long v2), (4, .int v4)] [] := by
  unfold fX8_lowest at h
  refine g_lload_n (pc := 0) C dX8_lowest_0 rfl 0 rfl ?_
  refine g_lstore (pc := 1) C (lv2 := [(5, .long v0), (0, .long v0), (2, .long v2), (4, .int v4)]) dX8_lowest_1 (by decide) rfl ?_
  refine g_lload_n (pc := 3) C dX8_lowest_3 rfl 2 rfl ?_
  refine g_lstore (pc := 4) C (lv2 := [(7, .long v2), (5, .long v0), (0, .long v0), (2, .long v2), (4, .int v4)]) dX8_lowest_4 (by decide) rfl ?_
  exact g_sub [2, 3, 4, 1, 0] rfl (kX8_lowest_l6 C   _ _ _ h)
theorem mX8_lowest (l : Launch) (Z : Sh) {σ : Sg} {v0 : Int64} {v2 : Int64} {v4 : Int32} {u : Int64}  (h : fX8_lowest v0 v2 v4 = some u) : ML l Z layM yX8_lowest wsX8_lowest rX8_lowest [.long v0, .long v2, .int v4] σ σ u :=
  ML.of (cc := cX8_lowest) (maxL := 11) (ret := (some .long)) (by decide) rfl (Nat.le_of_ble_eq_true rfl) (fun p e s m below meth c C => kX8_lowest_e C  h)
