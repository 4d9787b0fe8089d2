theorem lay0X : ∃ fs, layX[0]? = some (.inl (7, fs)) := ⟨_, rfl⟩
theorem lay0M : ∃ fs, layM[0]? = some (.inl (8, fs)) := ⟨_, rfl⟩
def CL (p : Program) (s : State) (m : MethodId) (meth : Method) (c : Code) (b L : Nat) (xs : Nat → Int32) (ZX ZM : Sh) : Prop :=
  lw_At p s m meth c b L xs ∧ PK ZX s ∧ PK ZM s ∧ NW s ∧ EX ZX layX s s.heap ∧ EX ZM layM s s.heap ∧ pI ZX layX ∧ pI ZM layM ∧ (∀ i, i < layX.length → s.heap.size ≤ ad ZX i) ∧ (∀ i, i < layM.length → s.heap.size ≤ ad ZM i) ∧ (∀ i j, i < layX.length → j < layM.length → ad ZX i ≠ ad ZM j)
def GL (p : Program) (l : Launch) (e : Env) (s : State) (m : MethodId) (below : List Frame) (meth : Method) (c : Code) (b : Nat) (ZX ZM : Sh) (kc ks : Nat) (σX σM : Sg) (pc : Nat) (lv : List (Nat × Value)) (st : List Value) : Prop :=
  ∀ (H : Heap) (locs : List Loc) (ls : Array Slot), lv_has ls 4 lv → va_P ZX.1 vwCl (wl ZX layX σX) H → va_P ZM.1 vwCl (wl ZM layM σM) H → va_S (fun q => s.heap.size ≤ q) s.heap H locs → W p l e room_1 s m #[Value.ref b] below meth c H locs kc ks (lw_Z below #[Value.ref b] s) (F0 m pc ls st)
theorem va_S.mono {A B : Nat → Prop} {H0 H : Heap} {locs : List Loc} (h : va_S A H0 H locs) (hAB : ∀ q, A q → B q) : va_S B H0 H locs := ⟨h.1, fun q h1 h2 => h.2.1 q h1 (fun z => h2 (hAB q z)), fun q hq => hAB _ (h.2.2 q hq)⟩
section GLR
variable {p : Program} {l : Launch} {e : Env} {s : State} {m : MethodId} {below : List Frame} {meth : Method} {c : Code} {b L : Nat} {xs : Nat → Int32} {ZX ZM : Sh} {kc ks : Nat} {σX σM : Sg} {pc : Nat} {lv : List (Nat × Value)} {st : List Value}
theorem l_iload_n (C : CL p s m meth c b L xs ZX ZM) {k : Fin 4} {i : Nat} {x : Int32} (hd : decode code pc = .ok (.iload_n k, 1)) (hi : (k : Nat) = i) (j : Nat) (hj : lv[j]? = some (i, .int x)) (k2 : GL p l e s m below meth c b ZX ZM kc ks σX σM (pc + 1) lv (.int x :: st)) : GL p l e s m below meth c b ZX ZM kc ks σX σM pc lv st := fun H locs ls a bx bm d => lv_iload_n C.1.1 C.1.2.1 hd hi (lv_at a j hj) (k2 H locs ls a bx bm d)
theorem l_aload_n (C : CL p s m meth c b L xs ZX ZM) {k : Fin 4} {i : Nat} {x : Nat} (hd : decode code pc = .ok (.aload_n k, 1)) (hi : (k : Nat) = i) (j : Nat) (hj : lv[j]? = some (i, .ref x)) (k2 : GL p l e s m below meth c b ZX ZM kc ks σX σM (pc + 1) lv (.ref x :: st)) : GL p l e s m below meth c b ZX ZM kc ks σX σM pc lv st := fun H locs ls a bx bm d => lv_aload_n C.1.1 C.1.2.1 hd hi (lv_at a j hj) (k2 H locs ls a bx bm d)
theorem l_iconst (C : CL p s m meth c b L xs ZX ZM) {n : Int} {v : Int32} (hd : decode code pc = .ok (.iconst n, 1)) (hv : Int32.ofInt n = v) (k : GL p l e s m below meth c b ZX ZM kc ks σX σM (pc + 1) lv (.int v :: st)) : GL p l e s m below meth c b ZX ZM kc ks σX σM pc lv st := fun H locs ls a bx bm d => lv_iconst C.1.1 C.1.2.1 hd hv (k H locs ls a bx bm d)
theorem l_bipush (C : CL p s m meth c b L xs ZX ZM) {n : Int} {v : Int32} (hd : decode code pc = .ok (.bipush n, 2)) (hv : (Int8.ofInt n).toInt32 = v) (k : GL p l e s m below meth c b ZX ZM kc ks σX σM (pc + 2) lv (.int v :: st)) : GL p l e s m below meth c b ZX ZM kc ks σX σM pc lv st := fun H locs ls a bx bm d => lv_bipush C.1.1 C.1.2.1 hd hv (k H locs ls a bx bm d)
theorem l_iadd (C : CL p s m meth c b L xs ZX ZM) {x z : Int32} (hd : decode code pc = .ok (.iadd, 1)) (k : GL p l e s m below meth c b ZX ZM kc ks σX σM (pc + 1) lv (.int (x + z) :: st)) : GL p l e s m below meth c b ZX ZM kc ks σX σM pc lv (.int z :: .int x :: st) := fun H locs ls a bx bm d => lv_iadd C.1.1 C.1.2.1 hd (k H locs ls a bx bm d)
theorem l_isub (C : CL p s m meth c b L xs ZX ZM) {x z : Int32} (hd : decode code pc = .ok (.isub, 1)) (k : GL p l e s m below meth c b ZX ZM kc ks σX σM (pc + 1) lv (.int (x - z) :: st)) : GL p l e s m below meth c b ZX ZM kc ks σX σM pc lv (.int z :: .int x :: st) := fun H locs ls a bx bm d => lv_isub C.1.1 C.1.2.1 hd (k H locs ls a bx bm d)
theorem l_iand (C : CL p s m meth c b L xs ZX ZM) {x z : Int32} (hd : decode code pc = .ok (.iand, 1)) (k : GL p l e s m below meth c b ZX ZM kc ks σX σM (pc + 1) lv (.int (x &&& z) :: st)) : GL p l e s m below meth c b ZX ZM kc ks σX σM pc lv (.int z :: .int x :: st) := fun H locs ls a bx bm d => lv_iand C.1.1 C.1.2.1 hd (k H locs ls a bx bm d)
theorem l_lcmp (C : CL p s m meth c b L xs ZX ZM) {x z : Int64} (hd : decode code pc = .ok (.lcmp, 1)) (k : GL p l e s m below meth c b ZX ZM kc ks σX σM (pc + 1) lv (.int (lg_cmp x z) :: st)) : GL p l e s m below meth c b ZX ZM kc ks σX σM pc lv (.long z :: .long x :: st) := fun H locs ls a bx bm d => W.lcmp C.1.1 C.1.2.1 hd (k H locs ls a bx bm d)
theorem l_slen (C : CL p s m meth c b L xs ZX ZM) (hd : decode code pc = .ok (.arraylength, 1)) (k : GL p l e s m below meth c b ZX ZM kc ks σX σM (pc + 1) lv (.int (Int32.ofNat L) :: st)) : GL p l e s m below meth c b ZX ZM kc ks σX σM pc lv (.ref b :: st) := fun H locs ls a bx bm d => va_slen C.1.1 C.1.2.1 C.1.2.2.2.2.2.2.1 C.1.2.2.2.2.2.2.2.1 (Nat.not_le.mpr C.1.2.2.2.2.2.2.2.1) d hd (k H locs ls a bx bm d)
theorem l_sld (C : CL p s m meth c b L xs ZX ZM) {i : Int32} (hi : vp_in i L) (hd : decode code pc = .ok (.iaload, 1)) (k : GL p l e s m below meth c b ZX ZM kc ks σX σM (pc + 1) lv (.int (xs i.toNatClampNeg) :: st)) : GL p l e s m below meth c b ZX ZM kc ks σX σM pc lv (.int i :: .ref b :: st) := fun H locs ls a bx bm d => va_sld C.1.1 C.1.2.1 C.1.2.2.2.2.2.2.1 C.1.2.2.2.2.2.2.2.1 (Nat.not_le.mpr C.1.2.2.2.2.2.2.2.1) d hi hd (k H locs ls a bx bm d)
theorem l_iinc (C : CL p s m meth c b L xs ZX ZM) {i j : Nat} {n : Int} {x v : Int32} {lv2 : List (Nat × Value)} (hd : decode code pc = .ok (.iinc i n, 3)) (hj : lv[j]? = some (i, .int x)) (hv : x + Int32.ofInt n = v) (hn : i < 4) (hl : (i, Value.int v) :: lv.filter (fun q => !(q.1 == i) && !(q.1 + 1 == i && q.2.category == 2)) = lv2) (k2 : GL p l e s m below meth c b ZX ZM kc ks σX σM (pc + 3) lv2 st) : GL p l e s m below meth c b ZX ZM kc ks σX σM pc lv st := fun H locs ls a bx bm d => lv_iinc C.1.1 C.1.2.1 hd a hj hv hn hl (fun ls2 h2 => k2 H locs ls2 h2 bx bm d)
theorem l_goto (C : CL p s m meth c b L xs ZX ZM) {off : Int} {tgt : Nat} (hd : decode code pc = .ok (.goto off, 3)) (ht : (pc : Int) + off = (tgt : Int)) (k : GL p l e s m below meth c b ZX ZM kc ks σX σM tgt lv st) : GL p l e s m below meth c b ZX ZM kc ks σX σM pc lv st := fun H locs ls a bx bm d => lv_goto C.1.1 C.1.2.1 hd ht (k H locs ls a bx bm d)
theorem l_if_eq (C : CL p s m meth c b L xs ZX ZM) {x : Int32} {off : Int} {tgt : Nat} (hd : decode code pc = .ok (.ifCond .eq off, 3)) (ht : (pc : Int) + off = (tgt : Int)) (kt : x = 0 → GL p l e s m below meth c b ZX ZM kc ks σX σM tgt lv st) (kf : ¬ x = 0 → GL p l e s m below meth c b ZX ZM kc ks σX σM (pc + 3) lv st) : GL p l e s m below meth c b ZX ZM kc ks σX σM pc lv (.int x :: st) := fun H locs ls a bx bm d => lv_if_eq C.1.1 C.1.2.1 hd ht (fun h => kt h H locs ls a bx bm d) (fun h => kf h H locs ls a bx bm d)
theorem l_icmp_eq (C : CL p s m meth c b L xs ZX ZM) {x z : Int32} {off : Int} {tgt : Nat} (hd : decode code pc = .ok (.if_icmp .eq off, 3)) (ht : (pc : Int) + off = (tgt : Int)) (kt : x = z → GL p l e s m below meth c b ZX ZM kc ks σX σM tgt lv st) (kf : ¬ x = z → GL p l e s m below meth c b ZX ZM kc ks σX σM (pc + 3) lv st) : GL p l e s m below meth c b ZX ZM kc ks σX σM pc lv (.int z :: .int x :: st) := fun H locs ls a bx bm d => lv_icmp_eq C.1.1 C.1.2.1 hd ht (fun h => kt h H locs ls a bx bm d) (fun h => kf h H locs ls a bx bm d)
theorem l_icmp_gt (C : CL p s m meth c b L xs ZX ZM) {x z : Int32} {off : Int} {tgt : Nat} (hd : decode code pc = .ok (.if_icmp .gt off, 3)) (ht : (pc : Int) + off = (tgt : Int)) (kt : z < x → GL p l e s m below meth c b ZX ZM kc ks σX σM tgt lv st) (kf : ¬ z < x → GL p l e s m below meth c b ZX ZM kc ks σX σM (pc + 3) lv st) : GL p l e s m below meth c b ZX ZM kc ks σX σM pc lv (.int z :: .int x :: st) := fun H locs ls a bx bm d => lv_icmp_gt C.1.1 C.1.2.1 hd ht (fun h => kt h H locs ls a bx bm d) (fun h => kf h H locs ls a bx bm d)
theorem l_sw (C : CL p s m meth c b L xs ZX ZM) {x : Int32} {dflt lo hi off : Int} {offs : Array Int} {len tgt : Nat} (v : Int32) (hd : decode code pc = .ok (.tableswitch dflt lo hi offs, len)) (h1 : ¬ v.toInt < lo) (h2 : ¬ hi < v.toInt) (ho : offs[(v.toInt - lo).toNat]? = some off) (ht : (pc : Int) + off = (tgt : Int)) (hc : x = v) (k : GL p l e s m below meth c b ZX ZM kc ks σX σM tgt lv st) : GL p l e s m below meth c b ZX ZM kc ks σX σM pc lv (.int x :: st) := fun H locs ls a bx bm d => lv_tableIn C.1.1 C.1.2.1 hd (by rw [hc]; exact h1) (by rw [hc]; exact h2) (by rw [hc]; exact ho) ht (k H locs ls a bx bm d)
theorem l_swd (C : CL p s m meth c b L xs ZX ZM) {x : Int32} {dflt lo hi : Int} {offs : Array Int} {len tgt : Nat} (hd : decode code pc = .ok (.tableswitch dflt lo hi offs, len)) (hc : x.toInt < lo ∨ hi < x.toInt) (ht : (pc : Int) + dflt = (tgt : Int)) (k : GL p l e s m below meth c b ZX ZM kc ks σX σM tgt lv st) : GL p l e s m below meth c b ZX ZM kc ks σX σM pc lv (.int x :: st) := fun H locs ls a bx bm d => lv_tableOut C.1.1 C.1.2.1 hd hc ht (k H locs ls a bx bm d)
theorem l_sub {lv2 : List (Nat × Value)} (ks2 : List Nat) (hl : lv_pick lv ks2 = lv2) (k : GL p l e s m below meth c b ZX ZM kc ks σX σM pc lv2 st) : GL p l e s m below meth c b ZX ZM kc ks σX σM pc lv st := fun H locs ls a bx bm d => k H locs ls (lv_sub a ks2 hl) bx bm d
theorem l_ret (C : CL p s m meth c b L xs ZX ZM) (h1 : kc ≤ 600000) (h2 : ks ≤ 7302250) (hd : decode code pc = .ok (.ireturn, 1)) : GL p l e s m below meth c b ZX ZM kc ks σX σM pc lv ([.int 1]) := fun H locs ls a bx bm d => va_forget d.2.2 (W.widen h1 h2 (lw_ret C.1.1 C.1.2.1 C.1.2.2.1 C.1.2.2.2.2.2.2.2.2.1 hd))
theorem l_callXi (C : CL p s m meth c b L xs ZX ZM) {x : MethodName} {ws : List Cond} {rm2 : Room} {σ1 : Sg} {r : Int32} {index maxL n : Nat} {bytes : ByteArray} {ret2 : Option FieldType} {ws' : List Cond} {As : List Value} (hM : MI l ZX layX x ws rm2 (.ref (ad ZX 0) :: As) σX σ1 r) (hG : GoodIn lw_tbl (wsV RL index RX7 x ws)) (hw : ws = Cond.code x bytes maxL ret2 :: ws') (hrc : rm2.cells = 0) (hrs : rm2.slots = 0) (hdd : x.cls = RX7 ∧ x.cls ≠ "java/lang/invoke/MethodHandle" ∧ x.cls ≠ "java/lang/invoke/VarHandle" ∧ (parseMethodDescriptor x.desc).map (fun d => d.parameters.length) = some n) (hR : rm2.frames + 1 ≤ room_1.frames ∧ 8 + (maxL + 11) + rm2.locals ≤ room_1.locals) (hn : As.length = n) {st0 : List Value} (hst : st0 = As.reverse ++ .ref (ad ZX 0) :: st) (hW : (st.map fun v => v.category).sum ≤ 8) (hc1 : kc ≤ 600000) (hc2 : ks ≤ 7302250) (hd : decode code pc = .ok (.invokevirtual index, 3)) (k3 : GL p l e s m below meth c b ZX ZM kc ks σ1 σM (pc + 3) lv (.int r :: st)) : GL p l e s m below meth c b ZX ZM kc ks σX σM pc lv st0 := by
  intro H locs ls a bx bm d
  obtain ⟨fs0, hk0⟩ := lay0X
  have dA : va_S (pA ZX layX s.heap.size) s.heap H locs := d.mono (fun q h => Or.inr h)
  have hfr : ∀ q, pA ZX layX H.size q → s.heap.size ≤ q := by
    rintro q (⟨i, hi, rfl⟩ | hq)
    · exact C.2.2.2.2.2.2.2.2.1 i hi
    · exact Nat.le_trans d.1 hq
  have hR2 : va_Run p l e room_1 s m #[Value.ref b] below meth c H locs kc ks 0 0 (F0 m pc ls st0) st _ _ := va_runV (Ts := lw_tbl) (own := RL) (C := RX7) (bytes := bytes) (maxL := maxL) (ret := ret2) ⟨C.1.1, C.1.2.1, C.1.2.2.2.1, C.1.2.2.2.2.1, C.1.2.2.2.2.2.1⟩ (hM H.size) (cwV n C.1.2.2.2.2.2.1 hG hw hrc hrs hdd hR) ⟨PCC.blind _ _ _ _ _, va_recv C.2.1 bx (ci := 7) (q0 := 0) rfl (wl_get hk0), fun U hU hW2 => ⟨rfl, by rw [hU], by rw [hU]; exact bx, va_K.moved hW2.alike C.2.1, NW.moved hW2 C.2.2.2.1, EX.keep hW2 hU dA C.2.2.2.2.1, C.2.2.2.2.2.2.1⟩⟩ rfl hn a.1 hst (lv_room hW) hd ⟨hc1, hc2⟩
  refine va_calli hR2 d (fun q _ h => hfr q h) hfr (fun r2 u t H1 locs1 e1 _ e2 e3 _ e5 e6 => ?_)
  subst e2; subst e1
  have b2 : va_P ZM.1 vwCl (wl ZM layM σM) t.heap := va_P.kept bm (fun k2 q hk => by
    obtain ⟨a1, a2⟩ := wl_ix hk
    have hlt := (bm k2 q hk).lt
    exact e5 q.1 hlt (fun hz => hz.elim (fun ⟨i, hi, hq⟩ => C.2.2.2.2.2.2.2.2.2.2 i k2 hi a1 (hq.symm.trans a2)) (fun hq => absurd hlt (by omega))))
  exact k3 _ locs1 ls a e3 b2 e6
theorem l_callXl (C : CL p s m meth c b L xs ZX ZM) {x : MethodName} {ws : List Cond} {rm2 : Room} {σ1 : Sg} {r : Int64} {index maxL n : Nat} {bytes : ByteArray} {ret2 : Option FieldType} {ws' : List Cond} {As : List Value} (hM : ML l ZX layX x ws rm2 (.ref (ad ZX 0) :: As) σX σ1 r) (hG : GoodIn lw_tbl (wsV RL index RX7 x ws)) (hw : ws = Cond.code x bytes maxL ret2 :: ws') (hrc : rm2.cells = 0) (hrs : rm2.slots = 0) (hdd : x.cls = RX7 ∧ x.cls ≠ "java/lang/invoke/MethodHandle" ∧ x.cls ≠ "java/lang/invoke/VarHandle" ∧ (parseMethodDescriptor x.desc).map (fun d => d.parameters.length) = some n) (hR : rm2.frames + 1 ≤ room_1.frames ∧ 8 + (maxL + 11) + rm2.locals ≤ room_1.locals) (hn : As.length = n) {st0 : List Value} (hst : st0 = As.reverse ++ .ref (ad ZX 0) :: st) (hW : (st.map fun v => v.category).sum ≤ 8) (hc1 : kc ≤ 600000) (hc2 : ks ≤ 7302250) (hd : decode code pc = .ok (.invokevirtual index, 3)) (k3 : GL p l e s m below meth c b ZX ZM kc ks σ1 σM (pc + 3) lv (.long r :: st)) : GL p l e s m below meth c b ZX ZM kc ks σX σM pc lv st0 := by
  intro H locs ls a bx bm d
  obtain ⟨fs0, hk0⟩ := lay0X
  have dA : va_S (pA ZX layX s.heap.size) s.heap H locs := d.mono (fun q h => Or.inr h)
  have hfr : ∀ q, pA ZX layX H.size q → s.heap.size ≤ q := by
    rintro q (⟨i, hi, rfl⟩ | hq)
    · exact C.2.2.2.2.2.2.2.2.1 i hi
    · exact Nat.le_trans d.1 hq
  have hR2 : va_Run p l e room_1 s m #[Value.ref b] below meth c H locs kc ks 0 0 (F0 m pc ls st0) st _ _ := va_runV (Ts := lw_tbl) (own := RL) (C := RX7) (bytes := bytes) (maxL := maxL) (ret := ret2) ⟨C.1.1, C.1.2.1, C.1.2.2.2.1, C.1.2.2.2.2.1, C.1.2.2.2.2.2.1⟩ (hM H.size) (cwV n C.1.2.2.2.2.2.1 hG hw hrc hrs hdd hR) ⟨PCC.blind _ _ _ _ _, va_recv C.2.1 bx (ci := 7) (q0 := 0) rfl (wl_get hk0), fun U hU hW2 => ⟨rfl, by rw [hU], by rw [hU]; exact bx, va_K.moved hW2.alike C.2.1, NW.moved hW2 C.2.2.2.1, EX.keep hW2 hU dA C.2.2.2.2.1, C.2.2.2.2.2.2.1⟩⟩ rfl hn a.1 hst (lv_room hW) hd ⟨hc1, hc2⟩
  refine va_calll hR2 d (fun q _ h => hfr q h) hfr (fun r2 u t H1 locs1 e1 _ e2 e3 _ e5 e6 => ?_)
  subst e2; subst e1
  have b2 : va_P ZM.1 vwCl (wl ZM layM σM) t.heap := va_P.kept bm (fun k2 q hk => by
    obtain ⟨a1, a2⟩ := wl_ix hk
    have hlt := (bm k2 q hk).lt
    exact e5 q.1 hlt (fun hz => hz.elim (fun ⟨i, hi, hq⟩ => C.2.2.2.2.2.2.2.2.2.2 i k2 hi a1 (hq.symm.trans a2)) (fun hq => absurd hlt (by omega))))
  exact k3 _ locs1 ls a e3 b2 e6
theorem l_callMi (C : CL p s m meth c b L xs ZX ZM) {x : MethodName} {ws : List Cond} {rm2 : Room} {σ1 : Sg} {r : Int32} {index maxL n : Nat} {bytes : ByteArray} {ret2 : Option FieldType} {ws' : List Cond} {As : List Value} (hM : MI l ZM layM x ws rm2 (.ref (ad ZM 0) :: As) σM σ1 r) (hG : GoodIn lw_tbl (wsV RL index RX8 x ws)) (hw : ws = Cond.code x bytes maxL ret2 :: ws') (hrc : rm2.cells = 0) (hrs : rm2.slots = 0) (hdd : x.cls = RX8 ∧ x.cls ≠ "java/lang/invoke/MethodHandle" ∧ x.cls ≠ "java/lang/invoke/VarHandle" ∧ (parseMethodDescriptor x.desc).map (fun d => d.parameters.length) = some n) (hR : rm2.frames + 1 ≤ room_1.frames ∧ 8 + (maxL + 11) + rm2.locals ≤ room_1.locals) (hn : As.length = n) {st0 : List Value} (hst : st0 = As.reverse ++ .ref (ad ZM 0) :: st) (hW : (st.map fun v => v.category).sum ≤ 8) (hc1 : kc ≤ 600000) (hc2 : ks ≤ 7302250) (hd : decode code pc = .ok (.invokevirtual index, 3)) (k3 : GL p l e s m below meth c b ZX ZM kc ks σX σ1 (pc + 3) lv (.int r :: st)) : GL p l e s m below meth c b ZX ZM kc ks σX σM pc lv st0 := by
  intro H locs ls a bx bm d
  obtain ⟨fs0, hk0⟩ := lay0M
  have dA : va_S (pA ZM layM s.heap.size) s.heap H locs := d.mono (fun q h => Or.inr h)
  have hfr : ∀ q, pA ZM layM H.size q → s.heap.size ≤ q := by
    rintro q (⟨i, hi, rfl⟩ | hq)
    · exact C.2.2.2.2.2.2.2.2.2.1 i hi
    · exact Nat.le_trans d.1 hq
  have hR2 : va_Run p l e room_1 s m #[Value.ref b] below meth c H locs kc ks 0 0 (F0 m pc ls st0) st _ _ := va_runV (Ts := lw_tbl) (own := RL) (C := RX8) (bytes := bytes) (maxL := maxL) (ret := ret2) ⟨C.1.1, C.1.2.1, C.1.2.2.2.1, C.1.2.2.2.2.1, C.1.2.2.2.2.2.1⟩ (hM H.size) (cwV n C.1.2.2.2.2.2.1 hG hw hrc hrs hdd hR) ⟨PCC.blind _ _ _ _ _, va_recv C.2.2.1 bm (ci := 8) (q0 := 0) rfl (wl_get hk0), fun U hU hW2 => ⟨rfl, by rw [hU], by rw [hU]; exact bm, va_K.moved hW2.alike C.2.2.1, NW.moved hW2 C.2.2.2.1, EX.keep hW2 hU dA C.2.2.2.2.2.1, C.2.2.2.2.2.2.2.1⟩⟩ rfl hn a.1 hst (lv_room hW) hd ⟨hc1, hc2⟩
  refine va_calli hR2 d (fun q _ h => hfr q h) hfr (fun r2 u t H1 locs1 e1 _ e2 e3 _ e5 e6 => ?_)
  subst e2; subst e1
  have b2 : va_P ZX.1 vwCl (wl ZX layX σX) t.heap := va_P.kept bx (fun k2 q hk => by
    obtain ⟨a1, a2⟩ := wl_ix hk
    have hlt := (bx k2 q hk).lt
    exact e5 q.1 hlt (fun hz => hz.elim (fun ⟨i, hi, hq⟩ => C.2.2.2.2.2.2.2.2.2.2 k2 i a1 hi (a2.symm.trans hq)) (fun hq => absurd hlt (by omega))))
  exact k3 _ locs1 ls a b2 e3 e6
theorem l_callMl (C : CL p s m meth c b L xs ZX ZM) {x : MethodName} {ws : List Cond} {rm2 : Room} {σ1 : Sg} {r : Int64} {index maxL n : Nat} {bytes : ByteArray} {ret2 : Option FieldType} {ws' : List Cond} {As : List Value} (hM : ML l ZM layM x ws rm2 (.ref (ad ZM 0) :: As) σM σ1 r) (hG : GoodIn lw_tbl (wsV RL index RX8 x ws)) (hw : ws = Cond.code x bytes maxL ret2 :: ws') (hrc : rm2.cells = 0) (hrs : rm2.slots = 0) (hdd : x.cls = RX8 ∧ x.cls ≠ "java/lang/invoke/MethodHandle" ∧ x.cls ≠ "java/lang/invoke/VarHandle" ∧ (parseMethodDescriptor x.desc).map (fun d => d.parameters.length) = some n) (hR : rm2.frames + 1 ≤ room_1.frames ∧ 8 + (maxL + 11) + rm2.locals ≤ room_1.locals) (hn : As.length = n) {st0 : List Value} (hst : st0 = As.reverse ++ .ref (ad ZM 0) :: st) (hW : (st.map fun v => v.category).sum ≤ 8) (hc1 : kc ≤ 600000) (hc2 : ks ≤ 7302250) (hd : decode code pc = .ok (.invokevirtual index, 3)) (k3 : GL p l e s m below meth c b ZX ZM kc ks σX σ1 (pc + 3) lv (.long r :: st)) : GL p l e s m below meth c b ZX ZM kc ks σX σM pc lv st0 := by
  intro H locs ls a bx bm d
  obtain ⟨fs0, hk0⟩ := lay0M
  have dA : va_S (pA ZM layM s.heap.size) s.heap H locs := d.mono (fun q h => Or.inr h)
  have hfr : ∀ q, pA ZM layM H.size q → s.heap.size ≤ q := by
    rintro q (⟨i, hi, rfl⟩ | hq)
    · exact C.2.2.2.2.2.2.2.2.2.1 i hi
    · exact Nat.le_trans d.1 hq
  have hR2 : va_Run p l e room_1 s m #[Value.ref b] below meth c H locs kc ks 0 0 (F0 m pc ls st0) st _ _ := va_runV (Ts := lw_tbl) (own := RL) (C := RX8) (bytes := bytes) (maxL := maxL) (ret := ret2) ⟨C.1.1, C.1.2.1, C.1.2.2.2.1, C.1.2.2.2.2.1, C.1.2.2.2.2.2.1⟩ (hM H.size) (cwV n C.1.2.2.2.2.2.1 hG hw hrc hrs hdd hR) ⟨PCC.blind _ _ _ _ _, va_recv C.2.2.1 bm (ci := 8) (q0 := 0) rfl (wl_get hk0), fun U hU hW2 => ⟨rfl, by rw [hU], by rw [hU]; exact bm, va_K.moved hW2.alike C.2.2.1, NW.moved hW2 C.2.2.2.1, EX.keep hW2 hU dA C.2.2.2.2.2.1, C.2.2.2.2.2.2.2.1⟩⟩ rfl hn a.1 hst (lv_room hW) hd ⟨hc1, hc2⟩
  refine va_calll hR2 d (fun q _ h => hfr q h) hfr (fun r2 u t H1 locs1 e1 _ e2 e3 _ e5 e6 => ?_)
  subst e2; subst e1
  have b2 : va_P ZX.1 vwCl (wl ZX layX σX) t.heap := va_P.kept bx (fun k2 q hk => by
    obtain ⟨a1, a2⟩ := wl_ix hk
    have hlt := (bx k2 q hk).lt
    exact e5 q.1 hlt (fun hz => hz.elim (fun ⟨i, hi, hq⟩ => C.2.2.2.2.2.2.2.2.2.2 k2 i a1 hi (a2.symm.trans hq)) (fun hq => absurd hlt (by omega))))
  exact k3 _ locs1 ls a b2 e3 e6
end GLR
def oX7_feed (σ : Sg) (v1 : Int32) : Option (Sg × Int32) := fX7_feed σ v1
theorem nX7_feed (l : Launch) (Z : Sh) {σ : Sg} {v1 : Int32} {u : Sg × Int32} (h : oX7_feed σ v1 = some u) : MI l Z layX yX7_feed wsX7_feed rX7_feed [.ref (ad Z 0), .int v1] σ u.1 u.2 := mX7_feed l Z h
def oX8_feed (σ : Sg) (v1 : Int32) : Option (Sg × Int32) := fX8_feed σ v1
theorem nX8_feed (l : Launch) (Z : Sh) {σ : Sg} {v1 : Int32} {u : Sg × Int32} (h : oX8_feed σ v1 = some u) : MI l Z layM yX8_feed wsX8_feed rX8_feed [.ref (ad Z 0), .int v1] σ u.1 u.2 := mX8_feed l Z h
def oX7_end (σ : Sg) (v1 : Int32) : Option (Sg × Int32) := fX7_end σ v1
theorem nX7_end (l : Launch) (Z : Sh) {σ : Sg} {v1 : Int32} {u : Sg × Int32} (h : oX7_end σ v1 = some u) : MI l Z layX yX7_end wsX7_end rX7_end [.ref (ad Z 0), .int v1] σ u.1 u.2 := mX7_end l Z h
def oX8_end (σ : Sg) (v1 : Int32) : Option (Sg × Int32) := fX8_end σ v1
theorem nX8_end (l : Launch) (Z : Sh) {σ : Sg} {v1 : Int32} {u : Sg × Int32} (h : oX8_end σ v1 = some u) : MI l Z layM yX8_end wsX8_end rX8_end [.ref (ad Z 0), .int v1] σ u.1 u.2 := mX8_end l Z h
def oX7_text (σ : Sg)  : Option (Sg × Int32) := fX7_text σ
theorem nX7_text (l : Launch) (Z : Sh) {σ : Sg}  {u : Sg × Int32} (h : oX7_text σ  = some u) : MI l Z layX yX7_text wsX7_text rX7_text [.ref (ad Z 0)] σ u.1 u.2 := mX7_text l Z h
def oX8_text (σ : Sg)  : Option (Sg × Int32) := fX8_text σ
theorem nX8_text (l : Launch) (Z : Sh) {σ : Sg}  {u : Sg × Int32} (h : oX8_text σ  = some u) : MI l Z layM yX8_text wsX8_text rX8_text [.ref (ad Z 0)] σ u.1 u.2 := mX8_text l Z h
def oX7_fault (σ : Sg)  : Option (Sg × Int32) := (fX7_fault σ).map (fun r => (σ, r))
theorem nX7_fault (l : Launch) (Z : Sh) {σ : Sg}  {u : Sg × Int32} (h : oX7_fault σ  = some u) : MI l Z layX yX7_fault wsX7_fault rX7_fault [.ref (ad Z 0)] σ u.1 u.2 := by
  obtain ⟨r, hr, rfl⟩ := Option.map_eq_some_iff.mp h
  exact mX7_fault l Z hr
def oX8_fault (σ : Sg)  : Option (Sg × Int32) := (fX8_fault σ).map (fun r => (σ, r))
theorem nX8_fault (l : Launch) (Z : Sh) {σ : Sg}  {u : Sg × Int32} (h : oX8_fault σ  = some u) : MI l Z layM yX8_fault wsX8_fault rX8_fault [.ref (ad Z 0)] σ u.1 u.2 := by
  obtain ⟨r, hr, rfl⟩ := Option.map_eq_some_iff.mp h
  exact mX8_fault l Z hr
def oX7_rule (σ : Sg) (v1 : Int32) : Option (Sg × Int32) := (fX7_rule σ v1).map (fun r => (σ, r))
theorem nX7_rule (l : Launch) (Z : Sh) {σ : Sg} {v1 : Int32} {u : Sg × Int32} (h : oX7_rule σ v1 = some u) : MI l Z layX yX7_rule wsX7_rule rX7_rule [.ref (ad Z 0), .int v1] σ u.1 u.2 := by
  obtain ⟨r, hr, rfl⟩ := Option.map_eq_some_iff.mp h
  exact mX7_rule l Z hr
def oX8_rule (σ : Sg) (v1 : Int32) : Option (Sg × Int32) := (fX8_rule σ v1).map (fun r => (σ, r))
theorem nX8_rule (l : Launch) (Z : Sh) {σ : Sg} {v1 : Int32} {u : Sg × Int32} (h : oX8_rule σ v1 = some u) : MI l Z layM yX8_rule wsX8_rule rX8_rule [.ref (ad Z 0), .int v1] σ u.1 u.2 := by
  obtain ⟨r, hr, rfl⟩ := Option.map_eq_some_iff.mp h
  exact mX8_rule l Z hr
def oX7_lord (σ : Sg) (v1 : Int32) (v2 : Int32) : Option (Sg × Int32) := (fX7_lord σ v1 v2).map (fun r => (σ, r))
theorem nX7_lord (l : Launch) (Z : Sh) {σ : Sg} {v1 : Int32} {v2 : Int32} {u : Sg × Int32} (h : oX7_lord σ v1 v2 = some u) : MI l Z layX yX7_lord wsX7_lord rX7_lord [.ref (ad Z 0), .int v1, .int v2] σ u.1 u.2 := by
  obtain ⟨r, hr, rfl⟩ := Option.map_eq_some_iff.mp h
  exact mX7_lord l Z hr
def oX8_lord (σ : Sg) (v1 : Int32) (v2 : Int32) : Option (Sg × Int32) := (fX8_lord σ v1 v2).map (fun r => (σ, r))
theorem nX8_lord (l : Launch) (Z : Sh) {σ : Sg} {v1 : Int32} {v2 : Int32} {u : Sg × Int32} (h : oX8_lord σ v1 v2 = some u) : MI l Z layM yX8_lord wsX8_lord rX8_lord [.ref (ad Z 0), .int v1, .int v2] σ u.1 u.2 := by
  obtain ⟨r, hr, rfl⟩ := Option.map_eq_some_iff.mp h
  exact mX8_lord l Z hr
def oX7_borough (σ : Sg) (v1 : Int32) (v2 : Int32) : Option (Sg × Int32) := (fX7_borough σ v1 v2).map (fun r => (σ, r))
theorem nX7_borough (l : Launch) (Z : Sh) {σ : Sg} {v1 : Int32} {v2 : Int32} {u : Sg × Int32} (h : oX7_borough σ v1 v2 = some u) : MI l Z layX yX7_borough wsX7_borough rX7_borough [.ref (ad Z 0), .int v1, .int v2] σ u.1 u.2 := by
  obtain ⟨r, hr, rfl⟩ := Option.map_eq_some_iff.mp h
  exact mX7_borough l Z hr
def oX8_borough (σ : Sg) (v1 : Int32) (v2 : Int32) : Option (Sg × Int32) := (fX8_borough σ v1 v2).map (fun r => (σ, r))
theorem nX8_borough (l : Launch) (Z : Sh) {σ : Sg} {v1 : Int32} {v2 : Int32} {u : Sg × Int32} (h : oX8_borough σ v1 v2 = some u) : MI l Z layM yX8_borough wsX8_borough rX8_borough [.ref (ad Z 0), .int v1, .int v2] σ u.1 u.2 := by
  obtain ⟨r, hr, rfl⟩ := Option.map_eq_some_iff.mp h
  exact mX8_borough l Z hr
def oX7_alter (σ : Sg) (v1 : Int32) (v2 : Int32) (v3 : Int32) : Option (Sg × Int32) := fX7_alter σ v1 v2 v3
theorem nX7_alter (l : Launch) (Z : Sh) {σ : Sg} {v1 : Int32} {v2 : Int32} {v3 : Int32} {u : Sg × Int32} (h : oX7_alter σ v1 v2 v3 = some u) : MI l Z layX yX7_alter wsX7_alter rX7_alter [.ref (ad Z 0), .int v1, .int v2, .int v3] σ u.1 u.2 := mX7_alter l Z h
def oX8_alter (σ : Sg) (v1 : Int32) (v2 : Int32) (v3 : Int32) : Option (Sg × Int32) := fX8_alter σ v1 v2 v3
theorem nX8_alter (l : Launch) (Z : Sh) {σ : Sg} {v1 : Int32} {v2 : Int32} {v3 : Int32} {u : Sg × Int32} (h : oX8_alter σ v1 v2 v3 = some u) : MI l Z layM yX8_alter wsX8_alter rX8_alter [.ref (ad Z 0), .int v1, .int v2, .int v3] σ u.1 u.2 := mX8_alter l Z h
def oX7_give (σ : Sg) (v1 : Int32) (v2 : Int32) : Option (Sg × Int32) := fX7_give σ v1 v2
theorem nX7_give (l : Launch) (Z : Sh) {σ : Sg} {v1 : Int32} {v2 : Int32} {u : Sg × Int32} (h : oX7_give σ v1 v2 = some u) : MI l Z layX yX7_give wsX7_give rX7_give [.ref (ad Z 0), .int v1, .int v2] σ u.1 u.2 := mX7_give l Z h
def oX8_give (σ : Sg) (v1 : Int32) (v2 : Int32) : Option (Sg × Int32) := fX8_give σ v1 v2
theorem nX8_give (l : Launch) (Z : Sh) {σ : Sg} {v1 : Int32} {v2 : Int32} {u : Sg × Int32} (h : oX8_give σ v1 v2 = some u) : MI l Z layM yX8_give wsX8_give rX8_give [.ref (ad Z 0), .int v1, .int v2] σ u.1 u.2 := mX8_give l Z h
def oX7_purse (σ : Sg) (v1 : Int32) (v2 : Int32) : Option (Sg × Int32) := fX7_purse σ v1 v2
theorem nX7_purse (l : Launch) (Z : Sh) {σ : Sg} {v1 : Int32} {v2 : Int32} {u : Sg × Int32} (h : oX7_purse σ v1 v2 = some u) : MI l Z layX yX7_purse wsX7_purse rX7_purse [.ref (ad Z 0), .int v1, .int v2] σ u.1 u.2 := mX7_purse l Z h
def oX8_purse (σ : Sg) (v1 : Int32) (v2 : Int32) : Option (Sg × Int32) := fX8_purse σ v1 v2
theorem nX8_purse (l : Launch) (Z : Sh) {σ : Sg} {v1 : Int32} {v2 : Int32} {u : Sg × Int32} (h : oX8_purse σ v1 v2 = some u) : MI l Z layM yX8_purse wsX8_purse rX8_purse [.ref (ad Z 0), .int v1, .int v2] σ u.1 u.2 := mX8_purse l Z h
def oX7_price (σ : Sg) (v1 : Int32) : Option (Sg × Int32) := fX7_price σ v1
theorem nX7_price (l : Launch) (Z : Sh) {σ : Sg} {v1 : Int32} {u : Sg × Int32} (h : oX7_price σ v1 = some u) : MI l Z layX yX7_price wsX7_price rX7_price [.ref (ad Z 0), .int v1] σ u.1 u.2 := mX7_price l Z h
def oX8_price (σ : Sg) (v1 : Int32) : Option (Sg × Int32) := fX8_price σ v1
theorem nX8_price (l : Launch) (Z : Sh) {σ : Sg} {v1 : Int32} {u : Sg × Int32} (h : oX8_price σ v1 = some u) : MI l Z layM yX8_price wsX8_price rX8_price [.ref (ad Z 0), .int v1] σ u.1 u.2 := mX8_price l Z h
def oX7_buy (σ : Sg) (v1 : Int32) (v2 : Int32) : Option (Sg × Int32) := fX7_buy σ v1 v2
theorem nX7_buy (l : Launch) (Z : Sh) {σ : Sg} {v1 : Int32} {v2 : Int32} {u : Sg × Int32} (h : oX7_buy σ v1 v2 = some u) : MI l Z layX yX7_buy wsX7_buy rX7_buy [.ref (ad Z 0), .int v1, .int v2] σ u.1 u.2 := mX7_buy l Z h
def oX8_buy (σ : Sg) (v1 : Int32) (v2 : Int32) : Option (Sg × Int32) := fX8_buy σ v1 v2
theorem nX8_buy (l : Launch) (Z : Sh) {σ : Sg} {v1 : Int32} {v2 : Int32} {u : Sg × Int32} (h : oX8_buy σ v1 v2 = some u) : MI l Z layM yX8_buy wsX8_buy rX8_buy [.ref (ad Z 0), .int v1, .int v2] σ u.1 u.2 := mX8_buy l Z h
def oX7_take (σ : Sg) (v1 : Int32) : Option (Sg × Int32) := fX7_take σ v1
theorem nX7_take (l : Launch) (Z : Sh) {σ : Sg} {v1 : Int32} {u : Sg × Int32} (h : oX7_take σ v1 = some u) : MI l Z layX yX7_take wsX7_take rX7_take [.ref (ad Z 0), .int v1] σ u.1 u.2 := mX7_take l Z h
def oX8_take (σ : Sg) (v1 : Int32) : Option (Sg × Int32) := fX8_take σ v1
theorem nX8_take (l : Launch) (Z : Sh) {σ : Sg} {v1 : Int32} {u : Sg × Int32} (h : oX8_take σ v1 = some u) : MI l Z layM yX8_take wsX8_take rX8_take [.ref (ad Z 0), .int v1] σ u.1 u.2 := mX8_take l Z h
def oX7_carry (σ : Sg) (v1 : Int32) (v2 : Int32) : Option (Sg × Int32) := (fX7_carry σ v1 v2).map (fun r => (σ, r))
theorem nX7_carry (l : Launch) (Z : Sh) {σ : Sg} {v1 : Int32} {v2 : Int32} {u : Sg × Int32} (h : oX7_carry σ v1 v2 = some u) : MI l Z layX yX7_carry wsX7_carry rX7_carry [.ref (ad Z 0), .int v1, .int v2] σ u.1 u.2 := by
  obtain ⟨r, hr, rfl⟩ := Option.map_eq_some_iff.mp h
  exact mX7_carry l Z hr
def oX8_carry (σ : Sg) (v1 : Int32) (v2 : Int32) : Option (Sg × Int32) := (fX8_carry σ v1 v2).map (fun r => (σ, r))
theorem nX8_carry (l : Launch) (Z : Sh) {σ : Sg} {v1 : Int32} {v2 : Int32} {u : Sg × Int32} (h : oX8_carry σ v1 v2 = some u) : MI l Z layM yX8_carry wsX8_carry rX8_carry [.ref (ad Z 0), .int v1, .int v2] σ u.1 u.2 := by
  obtain ⟨r, hr, rfl⟩ := Option.map_eq_some_iff.mp h
  exact mX8_carry l Z hr
def oX7_swings (σ : Sg) (v1 : Int32) : Option (Sg × Int32) := fX7_swings σ v1
theorem nX7_swings (l : Launch) (Z : Sh) {σ : Sg} {v1 : Int32} {u : Sg × Int32} (h : oX7_swings σ v1 = some u) : MI l Z layX yX7_swings wsX7_swings rX7_swings [.ref (ad Z 0), .int v1] σ u.1 u.2 := mX7_swings l Z h
def oX8_swings (σ : Sg) (v1 : Int32) : Option (Sg × Int32) := fX8_swings σ v1
theorem nX8_swings (l : Launch) (Z : Sh) {σ : Sg} {v1 : Int32} {u : Sg × Int32} (h : oX8_swings σ v1 = some u) : MI l Z layM yX8_swings wsX8_swings rX8_swings [.ref (ad Z 0), .int v1] σ u.1 u.2 := mX8_swings l Z h
def oX7_share (σ : Sg) (v1 : Int32) (v2 : Int32) : Option (Sg × Int64) := fX7_share σ v1 v2
theorem nX7_share (l : Launch) (Z : Sh) {σ : Sg} {v1 : Int32} {v2 : Int32} {u : Sg × Int64} (h : oX7_share σ v1 v2 = some u) : ML l Z layX yX7_share wsX7_share rX7_share [.ref (ad Z 0), .int v1, .int v2] σ u.1 u.2 := mX7_share l Z h
def oX8_share (σ : Sg) (v1 : Int32) (v2 : Int32) : Option (Sg × Int64) := fX8_share σ v1 v2
theorem nX8_share (l : Launch) (Z : Sh) {σ : Sg} {v1 : Int32} {v2 : Int32} {u : Sg × Int64} (h : oX8_share σ v1 v2 = some u) : ML l Z layM yX8_share wsX8_share rX8_share [.ref (ad Z 0), .int v1, .int v2] σ u.1 u.2 := mX8_share l Z h
def oX7_alone (σ : Sg) (v1 : Int32) (v2 : Int32) : Option (Sg × Int64) := fX7_alone σ v1 v2
theorem nX7_alone (l : Launch) (Z : Sh) {σ : Sg} {v1 : Int32} {v2 : Int32} {u : Sg × Int64} (h : oX7_alone σ v1 v2 = some u) : ML l Z layX yX7_alone wsX7_alone rX7_alone [.ref (ad Z 0), .int v1, .int v2] σ u.1 u.2 := mX7_alone l Z h
def oX8_alone (σ : Sg) (v1 : Int32) (v2 : Int32) : Option (Sg × Int64) := fX8_alone σ v1 v2
theorem nX8_alone (l : Launch) (Z : Sh) {σ : Sg} {v1 : Int32} {v2 : Int32} {u : Sg × Int64} (h : oX8_alone σ v1 v2 = some u) : ML l Z layM yX8_alone wsX8_alone rX8_alone [.ref (ad Z 0), .int v1, .int v2] σ u.1 u.2 := mX8_alone l Z h
def oX7_cheap (σ : Sg) (v1 : Int32) (v2 : Int32) : Option (Sg × Int32) := (fX7_cheap σ v1 v2).map (fun r => (σ, r))
theorem nX7_cheap (l : Launch) (Z : Sh) {σ : Sg} {v1 : Int32} {v2 : Int32} {u : Sg × Int32} (h : oX7_cheap σ v1 v2 = some u) : MI l Z layX yX7_cheap wsX7_cheap rX7_cheap [.ref (ad Z 0), .int v1, .int v2] σ u.1 u.2 := by
  obtain ⟨r, hr, rfl⟩ := Option.map_eq_some_iff.mp h
  exact mX7_cheap l Z hr
def oX8_cheap (σ : Sg) (v1 : Int32) (v2 : Int32) : Option (Sg × Int32) := (fX8_cheap σ v1 v2).map (fun r => (σ, r))
theorem nX8_cheap (l : Launch) (Z : Sh) {σ : Sg} {v1 : Int32} {v2 : Int32} {u : Sg × Int32} (h : oX8_cheap σ v1 v2 = some u) : MI l Z layM yX8_cheap wsX8_cheap rX8_cheap [.ref (ad Z 0), .int v1, .int v2] σ u.1 u.2 := by
  obtain ⟨r, hr, rfl⟩ := Option.map_eq_some_iff.mp h
  exact mX8_cheap l Z hr
def oX7_able (σ : Sg) (v1 : Int32) : Option (Sg × Int32) := (fX7_able σ v1).map (fun r => (σ, r))
theorem nX7_able (l : Launch) (Z : Sh) {σ : Sg} {v1 : Int32} {u : Sg × Int32} (h : oX7_able σ v1 = some u) : MI l Z layX yX7_able wsX7_able rX7_able [.ref (ad Z 0), .int v1] σ u.1 u.2 := by
  obtain ⟨r, hr, rfl⟩ := Option.map_eq_some_iff.mp h
  exact mX7_able l Z hr
def oX8_able (σ : Sg) (v1 : Int32) : Option (Sg × Int32) := (fX8_able σ v1).map (fun r => (σ, r))
theorem nX8_able (l : Launch) (Z : Sh) {σ : Sg} {v1 : Int32} {u : Sg × Int32} (h : oX8_able σ v1 = some u) : MI l Z layM yX8_able wsX8_able rX8_able [.ref (ad Z 0), .int v1] σ u.1 u.2 := by
  obtain ⟨r, hr, rfl⟩ := Option.map_eq_some_iff.mp h
  exact mX8_able l Z hr
def oX7_climb (σ : Sg) (v1 : Int32) : Option (Sg × Int32) := fX7_climb σ v1
theorem nX7_climb (l : Launch) (Z : Sh) {σ : Sg} {v1 : Int32} {u : Sg × Int32} (h : oX7_climb σ v1 = some u) : MI l Z layX yX7_climb wsX7_climb rX7_climb [.ref (ad Z 0), .int v1] σ u.1 u.2 := mX7_climb l Z h
def oX8_climb (σ : Sg) (v1 : Int32) : Option (Sg × Int32) := fX8_climb σ v1
theorem nX8_climb (l : Launch) (Z : Sh) {σ : Sg} {v1 : Int32} {u : Sg × Int32} (h : oX8_climb σ v1 = some u) : MI l Z layM yX8_climb wsX8_climb rX8_climb [.ref (ad Z 0), .int v1] σ u.1 u.2 := mX8_climb l Z h
def oX7_small (σ : Sg) (v1 : Int32) : Option (Sg × Int32) := fX7_small σ v1
theorem nX7_small (l : Launch) (Z : Sh) {σ : Sg} {v1 : Int32} {u : Sg × Int32} (h : oX7_small σ v1 = some u) : MI l Z layX yX7_small wsX7_small rX7_small [.ref (ad Z 0), .int v1] σ u.1 u.2 := mX7_small l Z h
def oX8_small (σ : Sg) (v1 : Int32) : Option (Sg × Int32) := fX8_small σ v1
theorem nX8_small (l : Launch) (Z : Sh) {σ : Sg} {v1 : Int32} {u : Sg × Int32} (h : oX8_small σ v1 = some u) : MI l Z layM yX8_small wsX8_small rX8_small [.ref (ad Z 0), .int v1] σ u.1 u.2 := mX8_small l Z h
def oX7_line (σ : Sg) (v1 : Int32) : Option (Sg × Int32) := fX7_line σ v1
theorem nX7_line (l : Launch) (Z : Sh) {σ : Sg} {v1 : Int32} {u : Sg × Int32} (h : oX7_line σ v1 = some u) : MI l Z layX yX7_line wsX7_line rX7_line [.ref (ad Z 0), .int v1] σ u.1 u.2 := mX7_line l Z h
def oX8_line (σ : Sg) (v1 : Int32) : Option (Sg × Int32) := fX8_line σ v1
theorem nX8_line (l : Launch) (Z : Sh) {σ : Sg} {v1 : Int32} {u : Sg × Int32} (h : oX8_line σ v1 = some u) : MI l Z layM yX8_line wsX8_line rX8_line [.ref (ad Z 0), .int v1] σ u.1 u.2 := mX8_line l Z h
def oX7_bribe (σ : Sg) (v1 : Int32) (v2 : Int32) : Option (Sg × Int32) := fX7_bribe σ v1 v2
theorem nX7_bribe (l : Launch) (Z : Sh) {σ : Sg} {v1 : Int32} {v2 : Int32} {u : Sg × Int32} (h : oX7_bribe σ v1 v2 = some u) : MI l Z layX yX7_bribe wsX7_bribe rX7_bribe [.ref (ad Z 0), .int v1, .int v2] σ u.1 u.2 := mX7_bribe l Z h
def oX8_bribe (σ : Sg) (v1 : Int32) (v2 : Int32) : Option (Sg × Int32) := fX8_bribe σ v1 v2
theorem nX8_bribe (l : Launch) (Z : Sh) {σ : Sg} {v1 : Int32} {v2 : Int32} {u : Sg × Int32} (h : oX8_bribe σ v1 v2 = some u) : MI l Z layM yX8_bribe wsX8_bribe rX8_bribe [.ref (ad Z 0), .int v1, .int v2] σ u.1 u.2 := mX8_bribe l Z h
def oX7_luck (σ : Sg) (v1 : Int32) (v2 : Int32) (v3 : Int32) : Option (Sg × Int64) := (fX7_luck σ v1 v2 v3).map (fun r => (σ, r))
theorem nX7_luck (l : Launch) (Z : Sh) {σ : Sg} {v1 : Int32} {v2 : Int32} {v3 : Int32} {u : Sg × Int64} (h : oX7_luck σ v1 v2 v3 = some u) : ML l Z layX yX7_luck wsX7_luck rX7_luck [.ref (ad Z 0), .int v1, .int v2, .int v3] σ u.1 u.2 := by
  obtain ⟨r, hr, rfl⟩ := Option.map_eq_some_iff.mp h
  exact mX7_luck l Z hr
def oX8_luck (σ : Sg) (v1 : Int32) (v2 : Int32) (v3 : Int32) : Option (Sg × Int64) := (fX8_luck σ v1 v2 v3).map (fun r => (σ, r))
theorem nX8_luck (l : Launch) (Z : Sh) {σ : Sg} {v1 : Int32} {v2 : Int32} {v3 : Int32} {u : Sg × Int64} (h : oX8_luck σ v1 v2 v3 = some u) : ML l Z layM yX8_luck wsX8_luck rX8_luck [.ref (ad Z 0), .int v1, .int v2, .int v3] σ u.1 u.2 := by
  obtain ⟨r, hr, rfl⟩ := Option.map_eq_some_iff.mp h
  exact mX8_luck l Z hr
def oX7_mean (σ : Sg) (v1 : Int32) (v2 : Int32) (v3 : Int32) : Option (Sg × Int64) := (fX7_mean σ v1 v2 v3).map (fun r => (σ, r))
theorem nX7_mean (l : Launch) (Z : Sh) {σ : Sg} {v1 : Int32} {v2 : Int32} {v3 : Int32} {u : Sg × Int64} (h : oX7_mean σ v1 v2 v3 = some u) : ML l Z layX yX7_mean wsX7_mean rX7_mean [.ref (ad Z 0), .int v1, .int v2, .int v3] σ u.1 u.2 := by
  obtain ⟨r, hr, rfl⟩ := Option.map_eq_some_iff.mp h
  exact mX7_mean l Z hr
def oX8_mean (σ : Sg) (v1 : Int32) (v2 : Int32) (v3 : Int32) : Option (Sg × Int64) := (fX8_mean σ v1 v2 v3).map (fun r => (σ, r))
theorem nX8_mean (l : Launch) (Z : Sh) {σ : Sg} {v1 : Int32} {v2 : Int32} {v3 : Int32} {u : Sg × Int64} (h : oX8_mean σ v1 v2 v3 = some u) : ML l Z layM yX8_mean wsX8_mean rX8_mean [.ref (ad Z 0), .int v1, .int v2, .int v3] σ u.1 u.2 := by
  obtain ⟨r, hr, rfl⟩ := Option.map_eq_some_iff.mp h
  exact mX8_mean l Z hr
def oX7_see (σ : Sg) (v1 : Int32) (v2 : Int32) : Option (Sg × Int32) := fX7_see σ v1 v2
theorem nX7_see (l : Launch) (Z : Sh) {σ : Sg} {v1 : Int32} {v2 : Int32} {u : Sg × Int32} (h : oX7_see σ v1 v2 = some u) : MI l Z layX yX7_see wsX7_see rX7_see [.ref (ad Z 0), .int v1, .int v2] σ u.1 u.2 := mX7_see l Z h
def oX8_see (σ : Sg) (v1 : Int32) (v2 : Int32) : Option (Sg × Int32) := fX8_see σ v1 v2
theorem nX8_see (l : Launch) (Z : Sh) {σ : Sg} {v1 : Int32} {v2 : Int32} {u : Sg × Int32} (h : oX8_see σ v1 v2 = some u) : MI l Z layM yX8_see wsX8_see rX8_see [.ref (ad Z 0), .int v1, .int v2] σ u.1 u.2 := mX8_see l Z h
def oX7_forget (σ : Sg) (v1 : Int32) : Option (Sg × Int32) := fX7_forget σ v1
theorem nX7_forget (l : Launch) (Z : Sh) {σ : Sg} {v1 : Int32} {u : Sg × Int32} (h : oX7_forget σ v1 = some u) : MI l Z layX yX7_forget wsX7_forget rX7_forget [.ref (ad Z 0), .int v1] σ u.1 u.2 := mX7_forget l Z h
def oX8_forget (σ : Sg) (v1 : Int32) : Option (Sg × Int32) := fX8_forget σ v1
theorem nX8_forget (l : Launch) (Z : Sh) {σ : Sg} {v1 : Int32} {u : Sg × Int32} (h : oX8_forget σ v1 = some u) : MI l Z layM yX8_forget wsX8_forget rX8_forget [.ref (ad Z 0), .int v1] σ u.1 u.2 := mX8_forget l Z h
def oX7_owners (σ : Sg) (v1 : Int32) : Option (Sg × Int32) := fX7_owners σ v1
theorem nX7_owners (l : Launch) (Z : Sh) {σ : Sg} {v1 : Int32} {u : Sg × Int32} (h : oX7_owners σ v1 = some u) : MI l Z layX yX7_owners wsX7_owners rX7_owners [.ref (ad Z 0), .int v1] σ u.1 u.2 := mX7_owners l Z h
def oX8_owners (σ : Sg) (v1 : Int32) : Option (Sg × Int32) := fX8_owners σ v1
theorem nX8_owners (l : Launch) (Z : Sh) {σ : Sg} {v1 : Int32} {u : Sg × Int32} (h : oX8_owners σ v1 = some u) : MI l Z layM yX8_owners wsX8_owners rX8_owners [.ref (ad Z 0), .int v1] σ u.1 u.2 := mX8_owners l Z h
def oX7_seats (σ : Sg) (v1 : Int32) : Option (Sg × Int32) := fX7_seats σ v1
theorem nX7_seats (l : Launch) (Z : Sh) {σ : Sg} {v1 : Int32} {u : Sg × Int32} (h : oX7_seats σ v1 = some u) : MI l Z layX yX7_seats wsX7_seats rX7_seats [.ref (ad Z 0), .int v1] σ u.1 u.2 := mX7_seats l Z h
def oX8_seats (σ : Sg) (v1 : Int32) : Option (Sg × Int32) := fX8_seats σ v1
theorem nX8_seats (l : Launch) (Z : Sh) {σ : Sg} {v1 : Int32} {u : Sg × Int32} (h : oX8_seats σ v1 = some u) : MI l Z layM yX8_seats wsX8_seats rX8_seats [.ref (ad Z 0), .int v1] σ u.1 u.2 := mX8_seats l Z h
def oX7_ask (σ : Sg) (v1 : Int32) (v2 : Int32) : Option (Sg × Int32) := fX7_ask σ v1 v2
theorem nX7_ask (l : Launch) (Z : Sh) {σ : Sg} {v1 : Int32} {v2 : Int32} {u : Sg × Int32} (h : oX7_ask σ v1 v2 = some u) : MI l Z layX yX7_ask wsX7_ask rX7_ask [.ref (ad Z 0), .int v1, .int v2] σ u.1 u.2 := mX7_ask l Z h
def oX8_ask (σ : Sg) (v1 : Int32) (v2 : Int32) : Option (Sg × Int32) := fX8_ask σ v1 v2
theorem nX8_ask (l : Launch) (Z : Sh) {σ : Sg} {v1 : Int32} {v2 : Int32} {u : Sg × Int32} (h : oX8_ask σ v1 v2 = some u) : MI l Z layM yX8_ask wsX8_ask rX8_ask [.ref (ad Z 0), .int v1, .int v2] σ u.1 u.2 := mX8_ask l Z h
def oX7_drift (σ : Sg) (v1 : Int32) (v2 : Int32) (v3 : Int32) : Option (Sg × Int32) := fX7_drift σ v1 v2 v3
theorem nX7_drift (l : Launch) (Z : Sh) {σ : Sg} {v1 : Int32} {v2 : Int32} {v3 : Int32} {u : Sg × Int32} (h : oX7_drift σ v1 v2 v3 = some u) : MI l Z layX yX7_drift wsX7_drift rX7_drift [.ref (ad Z 0), .int v1, .int v2, .int v3] σ u.1 u.2 := mX7_drift l Z h
def oX8_drift (σ : Sg) (v1 : Int32) (v2 : Int32) (v3 : Int32) : Option (Sg × Int32) := fX8_drift σ v1 v2 v3
theorem nX8_drift (l : Launch) (Z : Sh) {σ : Sg} {v1 : Int32} {v2 : Int32} {v3 : Int32} {u : Sg × Int32} (h : oX8_drift σ v1 v2 v3 = some u) : MI l Z layM yX8_drift wsX8_drift rX8_drift [.ref (ad Z 0), .int v1, .int v2, .int v3] σ u.1 u.2 := mX8_drift l Z h
def oX7_keep (σ : Sg) (v1 : Int32) : Option (Sg × Int32) := fX7_keep σ v1
theorem nX7_keep (l : Launch) (Z : Sh) {σ : Sg} {v1 : Int32} {u : Sg × Int32} (h : oX7_keep σ v1 = some u) : MI l Z layX yX7_keep wsX7_keep rX7_keep [.ref (ad Z 0), .int v1] σ u.1 u.2 := mX7_keep l Z h
def oX8_keep (σ : Sg) (v1 : Int32) : Option (Sg × Int32) := fX8_keep σ v1
theorem nX8_keep (l : Launch) (Z : Sh) {σ : Sg} {v1 : Int32} {u : Sg × Int32} (h : oX8_keep σ v1 = some u) : MI l Z layM yX8_keep wsX8_keep rX8_keep [.ref (ad Z 0), .int v1] σ u.1 u.2 := mX8_keep l Z h
def oX7_back (σ : Sg) (v1 : Int32) : Option (Sg × Int32) := fX7_back σ v1
theorem nX7_back (l : Launch) (Z : Sh) {σ : Sg} {v1 : Int32} {u : Sg × Int32} (h : oX7_back σ v1 = some u) : MI l Z layX yX7_back wsX7_back rX7_back [.ref (ad Z 0), .int v1] σ u.1 u.2 := mX7_back l Z h
def oX8_back (σ : Sg) (v1 : Int32) : Option (Sg × Int32) := fX8_back σ v1
theorem nX8_back (l : Launch) (Z : Sh) {σ : Sg} {v1 : Int32} {u : Sg × Int32} (h : oX8_back σ v1 = some u) : MI l Z layM yX8_back wsX8_back rX8_back [.ref (ad Z 0), .int v1] σ u.1 u.2 := mX8_back l Z h
def oX7_sheet (σ : Sg) (v1 : Int32) (v2 : Int32) (v3 : Int32) : Option (Sg × Int32) := fX7_sheet σ v1 v2 v3
theorem nX7_sheet (l : Launch) (Z : Sh) {σ : Sg} {v1 : Int32} {v2 : Int32} {v3 : Int32} {u : Sg × Int32} (h : oX7_sheet σ v1 v2 v3 = some u) : MI l Z layX yX7_sheet wsX7_sheet rX7_sheet [.ref (ad Z 0), .int v1, .int v2, .int v3] σ u.1 u.2 := mX7_sheet l Z h
def oX8_sheet (σ : Sg) (v1 : Int32) (v2 : Int32) (v3 : Int32) : Option (Sg × Int32) := fX8_sheet σ v1 v2 v3
theorem nX8_sheet (l : Launch) (Z : Sh) {σ : Sg} {v1 : Int32} {v2 : Int32} {v3 : Int32} {u : Sg × Int32} (h : oX8_sheet σ v1 v2 v3 = some u) : MI l Z layM yX8_sheet wsX8_sheet rX8_sheet [.ref (ad Z 0), .int v1, .int v2, .int v3] σ u.1 u.2 := mX8_sheet l Z h
def oX7_lay (σ : Sg) (v1 : Int32) (v2 : Int32) (v3 : Int32) : Option (Sg × Int32) := fX7_lay σ v1 v2 v3
theorem nX7_lay (l : Launch) (Z : Sh) {σ : Sg} {v1 : Int32} {v2 : Int32} {v3 : Int32} {u : Sg × Int32} (h : oX7_lay σ v1 v2 v3 = some u) : MI l Z layX yX7_lay wsX7_lay rX7_lay [.ref (ad Z 0), .int v1, .int v2, .int v3] σ u.1 u.2 := mX7_lay l Z h
def oX8_lay (σ : Sg) (v1 : Int32) (v2 : Int32) (v3 : Int32) : Option (Sg × Int32) := fX8_lay σ v1 v2 v3
theorem nX8_lay (l : Launch) (Z : Sh) {σ : Sg} {v1 : Int32} {v2 : Int32} {v3 : Int32} {u : Sg × Int32} (h : oX8_lay σ v1 v2 v3 = some u) : MI l Z layM yX8_lay wsX8_lay rX8_lay [.ref (ad Z 0), .int v1, .int v2, .int v3] σ u.1 u.2 := mX8_lay l Z h
def oX7_read (σ : Sg) (v1 : Int32) (v2 : Int32) (v3 : Int32) (v4 : Int32) : Option (Sg × Int32) := fX7_read σ v1 v2 v3 v4
theorem nX7_read (l : Launch) (Z : Sh) {σ : Sg} {v1 : Int32} {v2 : Int32} {v3 : Int32} {v4 : Int32} {u : Sg × Int32} (h : oX7_read σ v1 v2 v3 v4 = some u) : MI l Z layX yX7_read wsX7_read rX7_read [.ref (ad Z 0), .int v1, .int v2, .int v3, .int v4] σ u.1 u.2 := mX7_read l Z h
def oX8_read (σ : Sg) (v1 : Int32) (v2 : Int32) (v3 : Int32) (v4 : Int32) : Option (Sg × Int32) := fX8_read σ v1 v2 v3 v4
theorem nX8_read (l : Launch) (Z : Sh) {σ : Sg} {v1 : Int32} {v2 : Int32} {v3 : Int32} {v4 : Int32} {u : Sg × Int32} (h : oX8_read σ v1 v2 v3 v4 = some u) : MI l Z layM yX8_read wsX8_read rX8_read [.ref (ad Z 0), .int v1, .int v2, .int v3, .int v4] σ u.1 u.2 := mX8_read l Z h
def oX7_torn (σ : Sg)  : Option (Sg × Int32) := (fX7_torn σ).map (fun r => (σ, r))
theorem nX7_torn (l : Launch) (Z : Sh) {σ : Sg}  {u : Sg × Int32} (h : oX7_torn σ  = some u) : MI l Z layX yX7_torn wsX7_torn rX7_torn [.ref (ad Z 0)] σ u.1 u.2 := by
  obtain ⟨r, hr, rfl⟩ := Option.map_eq_some_iff.mp h
  exact mX7_torn l Z hr
def oX8_torn (σ : Sg)  : Option (Sg × Int32) := (fX8_torn σ).map (fun r => (σ, r))
theorem nX8_torn (l : Launch) (Z : Sh) {σ : Sg}  {u : Sg × Int32} (h : oX8_torn σ  = some u) : MI l Z layM yX8_torn wsX8_torn rX8_torn [.ref (ad Z 0)] σ u.1 u.2 := by
  obtain ⟨r, hr, rfl⟩ := Option.map_eq_some_iff.mp h
  exact mX8_torn l Z hr
def oX7_count (σ : Sg) (v1 : Int32) : Option (Sg × Int32) := (fX7_count σ v1).map (fun r => (σ, r))
theorem nX7_count (l : Launch) (Z : Sh) {σ : Sg} {v1 : Int32} {u : Sg × Int32} (h : oX7_count σ v1 = some u) : MI l Z layX yX7_count wsX7_count rX7_count [.ref (ad Z 0), .int v1] σ u.1 u.2 := by
  obtain ⟨r, hr, rfl⟩ := Option.map_eq_some_iff.mp h
  exact mX7_count l Z hr
def oX8_count (σ : Sg) (v1 : Int32) : Option (Sg × Int32) := (fX8_count σ v1).map (fun r => (σ, r))
theorem nX8_count (l : Launch) (Z : Sh) {σ : Sg} {v1 : Int32} {u : Sg × Int32} (h : oX8_count σ v1 = some u) : MI l Z layM yX8_count wsX8_count rX8_count [.ref (ad Z 0), .int v1] σ u.1 u.2 := by
  obtain ⟨r, hr, rfl⟩ := Option.map_eq_some_iff.mp h
  exact mX8_count l Z hr
def StI (Inv : Sg → Sg → Prop) (x y : Option (Sg × Int32)) : Prop := ∃ (sx sm : Sg) (r : Int32), x = some (sx, r) ∧ y = some (sm, r) ∧ Inv sx sm
def StL (Inv : Sg → Sg → Prop) (x y : Option (Sg × Int64)) : Prop := ∃ (sx sm : Sg) (r : Int64), x = some (sx, r) ∧ y = some (sm, r) ∧ Inv sx sm
def Steps (Inv : Sg → Sg → Prop) : Prop :=
  (∀ (σX σM : Sg) (v1 : Int32), Inv σX σM → StI Inv (oX7_feed σX v1) (oX8_feed σM v1)) ∧
  (∀ (σX σM : Sg) (v1 : Int32), Inv σX σM → StI Inv (oX7_end σX v1) (oX8_end σM v1)) ∧
  (∀ (σX σM : Sg) , Inv σX σM → StI Inv (oX7_text σX ) (oX8_text σM )) ∧
  (∀ (σX σM : Sg) , Inv σX σM → StI Inv (oX7_fault σX ) (oX8_fault σM )) ∧
  (∀ (σX σM : Sg) (v1 : Int32), Inv σX σM → StI Inv (oX7_rule σX v1) (oX8_rule σM v1)) ∧
  (∀ (σX σM : Sg) (v1 : Int32) (v2 : Int32), Inv σX σM → StI Inv (oX7_lord σX v1 v2) (oX8_lord σM v1 v2)) ∧
  (∀ (σX σM : Sg) (v1 : Int32) (v2 : Int32), Inv σX σM → StI Inv (oX7_borough σX v1 v2) (oX8_borough σM v1 v2)) ∧
  (∀ (σX σM : Sg) (v1 : Int32) (v2 : Int32) (v3 : Int32), Inv σX σM → StI Inv (oX7_alter σX v1 v2 v3) (oX8_alter σM v1 v2 v3)) ∧
  (∀ (σX σM : Sg) (v1 : Int32) (v2 : Int32), Inv σX σM → StI Inv (oX7_give σX v1 v2) (oX8_give σM v1 v2)) ∧
  (∀ (σX σM : Sg) (v1 : Int32) (v2 : Int32), Inv σX σM → StI Inv (oX7_purse σX v1 v2) (oX8_purse σM v1 v2)) ∧
  (∀ (σX σM : Sg) (v1 : Int32), Inv σX σM → StI Inv (oX7_price σX v1) (oX8_price σM v1)) ∧
  (∀ (σX σM : Sg) (v1 : Int32) (v2 : Int32), Inv σX σM → StI Inv (oX7_buy σX v1 v2) (oX8_buy σM v1 v2)) ∧
  (∀ (σX σM : Sg) (v1 : Int32), Inv σX σM → StI Inv (oX7_take σX v1) (oX8_take σM v1)) ∧
  (∀ (σX σM : Sg) (v1 : Int32) (v2 : Int32), Inv σX σM → StI Inv (oX7_carry σX v1 v2) (oX8_carry σM v1 v2)) ∧
  (∀ (σX σM : Sg) (v1 : Int32), Inv σX σM → StI Inv (oX7_swings σX v1) (oX8_swings σM v1)) ∧
  (∀ (σX σM : Sg) (v1 : Int32) (v2 : Int32), Inv σX σM → StL Inv (oX7_share σX v1 v2) (oX8_share σM v1 v2)) ∧
  (∀ (σX σM : Sg) (v1 : Int32) (v2 : Int32), Inv σX σM → StL Inv (oX7_alone σX v1 v2) (oX8_alone σM v1 v2)) ∧
  (∀ (σX σM : Sg) (v1 : Int32) (v2 : Int32), Inv σX σM → StI Inv (oX7_cheap σX v1 v2) (oX8_cheap σM v1 v2)) ∧
  (∀ (σX σM : Sg) (v1 : Int32), Inv σX σM → StI Inv (oX7_able σX v1) (oX8_able σM v1)) ∧
  (∀ (σX σM : Sg) (v1 : Int32), Inv σX σM → StI Inv (oX7_climb σX v1) (oX8_climb σM v1)) ∧
  (∀ (σX σM : Sg) (v1 : Int32), Inv σX σM → StI Inv (oX7_small σX v1) (oX8_small σM v1)) ∧
  (∀ (σX σM : Sg) (v1 : Int32), Inv σX σM → StI Inv (oX7_line σX v1) (oX8_line σM v1)) ∧
  (∀ (σX σM : Sg) (v1 : Int32) (v2 : Int32), Inv σX σM → StI Inv (oX7_bribe σX v1 v2) (oX8_bribe σM v1 v2)) ∧
  (∀ (σX σM : Sg) (v1 : Int32) (v2 : Int32) (v3 : Int32), Inv σX σM → StL Inv (oX7_luck σX v1 v2 v3) (oX8_luck σM v1 v2 v3)) ∧
  (∀ (σX σM : Sg) (v1 : Int32) (v2 : Int32) (v3 : Int32), Inv σX σM → StL Inv (oX7_mean σX v1 v2 v3) (oX8_mean σM v1 v2 v3)) ∧
  (∀ (σX σM : Sg) (v1 : Int32) (v2 : Int32), Inv σX σM → (v2 = 0 ∨ v2 = 1) → StI Inv (oX7_see σX v1 v2) (oX8_see σM v1 v2)) ∧
  (∀ (σX σM : Sg) (v1 : Int32), Inv σX σM → StI Inv (oX7_forget σX v1) (oX8_forget σM v1)) ∧
  (∀ (σX σM : Sg) (v1 : Int32), Inv σX σM → StI Inv (oX7_owners σX v1) (oX8_owners σM v1)) ∧
  (∀ (σX σM : Sg) (v1 : Int32), Inv σX σM → StI Inv (oX7_seats σX v1) (oX8_seats σM v1)) ∧
  (∀ (σX σM : Sg) (v1 : Int32) (v2 : Int32), Inv σX σM → StI Inv (oX7_ask σX v1 v2) (oX8_ask σM v1 v2)) ∧
  (∀ (σX σM : Sg) (v1 : Int32) (v2 : Int32) (v3 : Int32), Inv σX σM → StI Inv (oX7_drift σX v1 v2 v3) (oX8_drift σM v1 v2 v3)) ∧
  (∀ (σX σM : Sg) (v1 : Int32), Inv σX σM → StI Inv (oX7_keep σX v1) (oX8_keep σM v1)) ∧
  (∀ (σX σM : Sg) (v1 : Int32), Inv σX σM → StI Inv (oX7_back σX v1) (oX8_back σM v1)) ∧
  (∀ (σX σM : Sg) (v1 : Int32) (v2 : Int32) (v3 : Int32), Inv σX σM → StI Inv (oX7_sheet σX v1 v2 v3) (oX8_sheet σM v1 v2 v3)) ∧
  (∀ (σX σM : Sg) (v1 : Int32) (v2 : Int32) (v3 : Int32), Inv σX σM → StI Inv (oX7_lay σX v1 v2 v3) (oX8_lay σM v1 v2 v3)) ∧
  (∀ (σX σM : Sg) (v1 : Int32) (v2 : Int32) (v3 : Int32) (v4 : Int32), Inv σX σM → StI Inv (oX7_read σX v1 v2 v3 v4) (oX8_read σM v1 v2 v3 v4)) ∧
  (∀ (σX σM : Sg) , Inv σX σM → StI Inv (oX7_torn σX ) (oX8_torn σM )) ∧
  (∀ (σX σM : Sg) (v1 : Int32), Inv σX σM → StI Inv (oX7_count σX v1) (oX8_count σM v1))
