def σX0 : Sg := fun k => if k = 1 ∨ k = 7 ∨ k = 13 ∨ k = 19 ∨ k = 25 then upd (fun _ => 0) 2 3 else if k = 45 ∨ k = 47 ∨ k = 49 ∨ k = 51 then upd (fun _ => 0) 2 (-4) else (fun _ => 0)
def σM0 : Sg := fun k => if k = 4 then (upd (upd (upd (upd (upd (upd (upd (fun _ => 0) 0 (0 : Int32)) 1 (5 : Int32)) 2 (10 : Int32)) 3 (14 : Int32)) 4 (19 : Int32)) 5 (23 : Int32)) 6 (28 : Int32)) else if k = 5 then (upd (upd (upd (upd (upd (upd (upd (upd (upd (upd (upd (upd (upd (upd (upd (upd (upd (upd (upd (upd (upd (upd (upd (upd (upd (upd (upd (upd (fun _ => 0) 0 (112 : Int32)) 1 (108 : Int32)) 2 (97 : Int32)) 3 (105 : Int32)) 4 (110 : Int32)) 5 (109 : Int32)) 6 (111 : Int32)) 7 (117 : Int32)) 8 (110 : Int32)) 9 (100 : Int32)) 10 (116 : Int32)) 11 (101 : Int32)) 12 (110 : Int32)) 13 (116 : Int32)) 14 (116 : Int32)) 15 (119 : Int32)) 16 (105 : Int32)) 17 (99 : Int32)) 18 (101 : Int32)) 19 (108 : Int32)) 20 (111 : Int32)) 21 (114 : Int32)) 22 (100 : Int32)) 23 (112 : Int32)) 24 (114 : Int32)) 25 (105 : Int32)) 26 (99 : Int32)) 27 (101 : Int32)) else if k = 11 then (upd (upd (upd (upd (fun _ => 0) 0 (-4 : Int32)) 1 (-4 : Int32)) 2 (-4 : Int32)) 3 (-4 : Int32)) else (fun _ => 0)
def tmS (i : Nat) : Term := .string RX1 (idxS.getD i 0)
def flG : List Cond := flatC (Jvm.Cond.and given_1 narrow_1)
theorem fS1 : ∀ i, i < 6 → Cond.exactly (tmS i) "java/lang/String" ∈ flG := by decide +kernel
theorem fS2 : ∀ i, i < 6 → Cond.eq (.field (tmS i) "java/lang/String" "coder" "B") (.int 0) ∈ flG := by decide +kernel
theorem fS3 : ∀ i, i < 6 → Cond.arrayOf (.field (tmS i) "java/lang/String" "value" "[B") .byte ∈ flG := by decide +kernel
theorem fS4 : ∀ i, i < 6 → Cond.eq (.length (.field (tmS i) "java/lang/String" "value" "[B")) (.int (Int32.ofNat (lenS.getD i 0))) ∈ flG := by decide +kernel
theorem fS5 : ∀ i, i < 6 → ∀ j, j < lenS.getD i 0 → Cond.eq (.elem (.field (tmS i) "java/lang/String" "value" "[B") (.int (Int32.ofNat j))) (.int ((bytS.getD i []).getD j 0)) ∈ flG := by decide +kernel
theorem fS6 : ∀ i, i < 6 → ∀ j, j < 6 → i ≠ j → (Cond.not (Cond.eq (tmS i) (tmS j)) ∈ flG ∨ Cond.not (Cond.eq (tmS j) (tmS i)) ∈ flG) := by decide +kernel
def tmO : Term := .static "MoundVotes$Players" "ORDERS" "[I"
theorem fO1 : Cond.arrayOf tmO .int ∈ flG := by decide +kernel
theorem fO2 : Cond.eq (.length tmO) (.int (Int32.ofNat 11)) ∈ flG := by decide +kernel
theorem fO3 : ∀ j, j < 11 → Cond.eq (.elem tmO (.int (Int32.ofNat j))) (.int (ordF j)) ∈ flG := by decide +kernel
def tmP : Term := .static "MoundVotes$Players" "PARTS" "[I"
theorem fP1 : Cond.arrayOf tmP .int ∈ flG := by decide +kernel
theorem fP2 : Cond.eq (.length tmP) (.int (Int32.ofNat 11)) ∈ flG := by decide +kernel
theorem fP3 : ∀ j, j < 11 → Cond.eq (.elem tmP (.int (Int32.ofNat j))) (.int (prtF j)) ∈ flG := by decide +kernel
theorem fC1 : Cond.eq (.static "java/lang/String" "COMPACT_STRINGS" "Z") (.int 1) ∈ flG := by decide +kernel
theorem fC2 : Cond.isRef (.static "jdk/internal/util/Preconditions" "SIOOBE_FORMATTER" "Ljava/util/function/BiFunction;") ∈ flG := by decide +kernel
theorem ex_of {s : State} {b : Nat} (hts : ∀ w ∈ lw_tbl, w.before #[Value.ref b] s = true) (hgv : (Jvm.Cond.and given_1 narrow_1).before #[Value.ref b] s = true) :
    ∃ (aK aV : Nat → Nat) (oo : Nat × Nat), ∀ (Z : Sh) (y : Ly), Z.2.2.2.1 = aK → Z.2.2.2.2.1 = aV → Z.2.2.2.2.2 = oo → (∀ i, i < y.length → s.heap.size ≤ ad Z i) → EX Z y s s.heap := by
  have hg : ∀ c ∈ flG, c.before #[Value.ref b] s = true := flat_of_before _ hgv
  have hA : ∀ a : Nat, a < s.heap.size → ¬ (fun q : Nat => s.heap.size ≤ q) a := fun a h => Nat.not_le.mpr h
  obtain ⟨aK, aV, hV, hE⟩ := vk_Sof (N := 6) (tm := tmS) (len := lenS) (byt := bytS) (A := fun q : Nat => s.heap.size ≤ q) (by decide) (fun i hi => hg _ (fS1 i hi)) (fun i hi => hg _ (fS2 i hi)) (fun i hi => hg _ (fS3 i hi)) (fun i hi => hg _ (fS4 i hi)) (fun i hi j hj => hg _ (fS5 i hi j hj)) (fun i j hi hj hij => (fS6 i hi j hj hij).elim (fun h => Or.inl (hg _ h)) (fun h => Or.inr (hg _ h))) hA
  obtain ⟨oo, ho, hT⟩ := va_Tof (tm := tmO) (ty := .int) (N := 11) (f := fun j => .int (ordF j)) (A := fun q : Nat => s.heap.size ≤ q) (by decide) (hg _ fO1) (va_eqt (hg _ fO2)) (fun j hj => va_eqt (hg _ (fO3 j hj))) hA
  have hZo := va_Zref (A := fun q : Nat => s.heap.size ≤ q) (hts _ wd_1048) (hts _ wd_60) ho hA
  obtain ⟨op, hp, hTp⟩ := va_Tof (tm := tmP) (ty := .int) (N := 11) (f := fun j => .int (prtF j)) (A := fun q : Nat => s.heap.size ≤ q) (by decide) (hg _ fP1) (va_eqt (hg _ fP2)) (fun j hj => va_eqt (hg _ (fP3 j hj))) hA
  have hZp := va_Zref (A := fun q : Nat => s.heap.size ≤ q) (hts _ wd_1049) (hts _ wd_60) hp hA
  have hZc := va_Zof (A := fun q : Nat => s.heap.size ≤ q) (hts _ wd_1046) (hts _ wd_538) (va_eqi (hg _ fC1)) hA
  have hZq := va_Zqof (A := fun q : Nat => s.heap.size ≤ q) (hts _ wd_1047) (hts _ wd_559) (hg _ fC2) hA
  refine ⟨aK, aV, (oo, op), fun Z y e1 e2 e3 hf => ?_⟩
  have hm : ∀ q, pA Z y s.heap.size q → s.heap.size ≤ q := by
    rintro q (⟨i, hi, rfl⟩ | hq)
    · exact hf i hi
    · exact hq
  subst e1; subst e2
  have e4 : oA Z = oo := by unfold oA; rw [e3]
  have e5 : oB Z = op := by unfold oB; rw [e3]
  refine ⟨hV.narrow hm, hZc.narrow hm, hZq.narrow hm, by rw [e4]; exact hZo.narrow hm, by rw [e4]; exact hT.narrow hm, fun i hi => ?_, by rw [e5]; exact hZp.narrow hm, by rw [e5]; exact hTp.narrow hm⟩
  have h1 := hE i hi
  rcases (show i = 0 ∨ i = 1 ∨ i = 2 ∨ i = 3 ∨ i = 4 ∨ i = 5 by omega) with rfl | rfl | rfl | rfl | rfl | rfl
  · exact vk_R.of (A := #[Value.ref b]) (hts _ wd_1050) h1
  · exact vk_R.of (A := #[Value.ref b]) (hts _ wd_1051) h1
  · exact vk_R.of (A := #[Value.ref b]) (hts _ wd_1052) h1
  · exact vk_R.of (A := #[Value.ref b]) (hts _ wd_1053) h1
  · exact vk_R.of (A := #[Value.ref b]) (hts _ wd_1054) h1
  · exact vk_R.of (A := #[Value.ref b]) (hts _ wd_1055) h1
theorem pk_of {s : State} {b : Nat} (hts : ∀ w ∈ lw_tbl, w.before #[Value.ref b] s = true) : ∃ (D : va_G) (cs : Nat → ClassId), ∀ Z : Sh, Z.1 = D → Z.2.1 = cs → PK Z s := by
  obtain ⟨c0, i0, hn0⟩ := u_known (C := RX0) (T := TX0) (N := 4) (n := 4) hts in_wsX00 (hts _ wd_343)
  obtain ⟨c1, i1, hn1⟩ := u_known (C := RX1) (T := TX1) (N := 9) (n := 9) hts in_wsX10 (hts _ wd_346)
  obtain ⟨c2, i2, hn2⟩ := u_known (C := RX2) (T := TX2) (N := 8) (n := 8) hts in_wsX20 (hts _ wd_349)
  obtain ⟨c3, i3, hn3⟩ := u_known (C := RX3) (T := TX3) (N := 3) (n := 3) hts in_wsX30 (hts _ wd_364)
  obtain ⟨c4, i4, hn4⟩ := u_known (C := RX4) (T := TX4) (N := 2) (n := 2) hts in_wsX40 (hts _ wd_366)
  obtain ⟨c5, i5, hn5⟩ := u_known (C := RX5) (T := TX5) (N := 2) (n := 2) hts in_wsX50 (hts _ wd_354)
  obtain ⟨c6, i6, hn6⟩ := u_known (C := RX6) (T := TX6) (N := 3) (n := 3) hts in_wsX60 (hts _ wd_341)
  obtain ⟨c7, i7, hn7⟩ := u_known (C := RX7) (T := TX7) (N := 11) (n := 11) hts in_wsX70 (hts _ wd_1038)
  obtain ⟨c8, i8, hn8⟩ := u_known (C := RX8) (T := TX8) (N := 32) (n := 32) hts in_wsX80 (hts _ wd_1039)
  obtain ⟨a0, k0, m0, p0, q0, r0⟩ := Cond.arrayClass_spec (hts _ wd_379)
  obtain ⟨a1, k1, m1, p1, q1, r1⟩ := Cond.arrayClass_spec (hts _ wd_359)
  obtain ⟨a2, k2, m2, p2, q2, r2⟩ := Cond.arrayClass_spec (hts _ wd_348)
  obtain ⟨m3, a3, k3, p3, o3, q3, r3, s3⟩ := Cond.arrayOver_spec (hts _ wd_1044)
  obtain ⟨m4, a4, k4, p4, o4, q4, r4, s4⟩ := Cond.arrayOver_spec (hts _ wd_1045)
  refine ⟨(fun k => if k = 0 then c0 else if k = 1 then c1 else if k = 2 then c2 else if k = 3 then c3 else if k = 4 then c4 else if k = 5 then c5 else if k = 6 then c6 else if k = 7 then c7 else c8, fun k => if k = 0 then i0 else if k = 1 then i1 else if k = 2 then i2 else if k = 3 then i3 else if k = 4 then i4 else if k = 5 then i5 else if k = 6 then i6 else if k = 7 then i7 else i8), fun k => if k = 0 then a0 else if k = 1 then a1 else if k = 2 then a2 else if k = 3 then a3 else a4, ?_⟩
  intro Z e1 e2
  unfold PK
  rw [e1]
  have et : tyl Z = [(a0, .char), (a1, .int), (a2, .boolean), (a3, .object "MoundVotes$Realm"), (a4, .object "MoundVotes$Sheet")] := by unfold tyl; rw [e2]; rfl
  rw [et]
  refine ⟨fun k q hq => ?_, fun k q hq => ?_⟩
  · have hl : k < 9 := (List.getElem?_eq_some_iff.mp hq).1
    rcases (show k = 0 ∨ k = 1 ∨ k = 2 ∨ k = 3 ∨ k = 4 ∨ k = 5 ∨ k = 6 ∨ k = 7 ∨ k = 8 by omega) with rfl | rfl | rfl | rfl | rfl | rfl | rfl | rfl | rfl
    · cases hq; exact hn0
    · cases hq; exact hn1
    · cases hq; exact hn2
    · cases hq; exact hn3
    · cases hq; exact hn4
    · cases hq; exact hn5
    · cases hq; exact hn6
    · cases hq; exact hn7
    · cases hq; exact hn8
  · have hl : k < 5 := (List.getElem?_eq_some_iff.mp hq).1
    rcases (show k = 0 ∨ k = 1 ∨ k = 2 ∨ k = 3 ∨ k = 4 by omega) with rfl | rfl | rfl | rfl | rfl
    · cases hq; exact ⟨fun n z => ⟨fun k h => (by cases h), k0, q0, m0, r0⟩, p0⟩
    · cases hq; exact ⟨fun n z => ⟨fun k h => (by cases h), k1, q1, m1, r1⟩, p1⟩
    · cases hq; exact ⟨fun n z => ⟨fun k h => (by cases h), k2, q2, m2, r2⟩, p2⟩
    · cases hq; exact ⟨fun n z => ⟨fun k h => (by cases h), k3, q3, m3, r3⟩, k3, m3, q3, r3, p3, s3⟩
    · cases hq; exact ⟨fun n z => ⟨fun k h => (by cases h), k4, q4, m4, r4⟩, k4, m4, q4, r4, p4, s4⟩
theorem pI_of {A : Nat → Prop} {Z : Sh} {y : Ly} {σ : Sg} (h : va_D A (wl Z y σ)) : pI Z y := by
  intro i j hi hj e
  obtain ⟨ci, hci⟩ : ∃ c, y[i]? = some c := ⟨_, List.getElem?_eq_getElem hi⟩
  obtain ⟨cj, hcj⟩ : ∃ c, y[j]? = some c := ⟨_, List.getElem?_eq_getElem hj⟩
  exact h.1 i j _ _ (wl_get hci) (wl_get hcj) e
theorem fr_of {A : Nat → Prop} {Z : Sh} {y : Ly} {σ : Sg} (h : va_D A (wl Z y σ)) : ∀ i, i < y.length → A (ad Z i) := by
  intro i hi
  obtain ⟨ci, hci⟩ : ∃ c, y[i]? = some c := ⟨_, List.getElem?_eq_getElem hi⟩
  exact h.2 i _ (wl_get hci)
theorem dj_of {A : Nat → Prop} {Z1 Z2 : Sh} {y1 y2 : Ly} {σ1 σ2 : Sg} (h : va_D A (wl Z1 y1 σ1 ++ wl Z2 y2 σ2)) : ∀ i j, i < y1.length → j < y2.length → ad Z1 i ≠ ad Z2 j := by
  intro i j hi hj e
  obtain ⟨ci, hci⟩ : ∃ c, y1[i]? = some c := ⟨_, List.getElem?_eq_getElem hi⟩
  obtain ⟨cj, hcj⟩ : ∃ c, y2[j]? = some c := ⟨_, List.getElem?_eq_getElem hj⟩
  have h1 : (wl Z1 y1 σ1 ++ wl Z2 y2 σ2)[i]? = some (ad Z1 i, pE Z1 σ1 i ci) := by rw [List.getElem?_append_left (by rw [wl_len]; exact hi)]; exact wl_get hci
  have h2 : (wl Z1 y1 σ1 ++ wl Z2 y2 σ2)[y1.length + j]? = some (ad Z2 j, pE Z2 σ2 j cj) := by
    rw [List.getElem?_append_right (by rw [wl_len]; omega), wl_len, Nat.add_sub_cancel_left]; exact wl_get hcj
  have := h.1 i (y1.length + j) _ _ h1 h2 e
  omega
theorem upA2 (f : Nat → Nat) (a b c d : Nat) (ha : f a = c) (hb : f b = d) : va_up (va_up (fun _ => none) 0 (some c)) 1 (some d) = (fun j => (([a, b] : List Nat)[j]?).map f) := by
  funext j
  match j with
  | 0 => simp [va_up, ha]
  | 1 => simp [va_up, hb]
  | j + 2 => simp [va_up]
theorem upA4 (f : Nat → Nat) (a b c d a2 b2 c2 d2 : Nat) (h1 : f a = a2) (h2 : f b = b2) (h3 : f c = c2) (h4 : f d = d2) : va_up (va_up (va_up (va_up (fun _ => none) 0 (some a2)) 1 (some b2)) 2 (some c2)) 3 (some d2) = (fun j => (([a, b, c, d] : List Nat)[j]?).map f) := by
  funext j
  match j with
  | 0 => simp [va_up, h1]
  | 1 => simp [va_up, h2]
  | 2 => simp [va_up, h3]
  | 3 => simp [va_up, h4]
  | j + 4 => simp [va_up]
set_option maxRecDepth 100000 in
set_option maxHeartbeats 4000000 in
theorem toX {Z0 : Sh} {x0 : Nat} {w : va_W} (h : pX7_init Z0 x0 w) : ∃ Z : Sh, Z.1 = Z0.1 ∧ Z.2.1 = Z0.2.1 ∧ Z.2.2.2 = Z0.2.2.2 ∧ ad Z 0 = x0 ∧ [0, 1, 2, 3, 4, 5, 6, 7, 8, 9, 10, 11, 12, 33, 34, 35, 36, 37, 38, 39, 40, 41, 42, 43, 44, 18, 19, 20, 21, 22, 23, 15, 16, 17, 24, 25, 26, 27, 28, 29, 30, 31, 13, 14, 32, 45, 46, 47, 48, 49, 50, 51, 52].map (fun i => w[i]?) = (wl Z layX σX0).map some := by
  obtain ⟨x1, x2, x3, x4, x5, x6, x7, x8, x9, x10, x11, x12, x13, x14, x15, x16, x17, x18, x19, x20, x21, x22, x23, x24, x25, x26, x27, x28, x29, x30, x31, x32, x33, x34, x35, x36, x37, x38, x39, x40, x41, x42, x43, x44, x45, x46, x47, x48, x49, x50, x51, x52, rfl⟩ := h
  obtain ⟨Zc, hZc⟩ : ∃ Zc : Sh, Zc = (Z0.1, Z0.2.1, (fun k => ([x0, x1, x2, x3, x4, x5, x6, x7, x8, x9, x10, x11, x12, x33, x34, x35, x36, x37, x38, x39, x40, x41, x42, x43, x44, x18, x19, x20, x21, x22, x23, x15, x16, x17, x24, x25, x26, x27, x28, x29, x30, x31, x13, x14, x32, x45, x46, x47, x48, x49, x50, x51, x52] : List Nat).getD k 0), Z0.2.2.2) := ⟨_, rfl⟩
  refine ⟨Zc, by rw [hZc], by rw [hZc], by rw [hZc], by rw [hZc]; rfl, ?_⟩
  rw [upA2 (ad Zc) 13 19 x33 x39 (by rw [hZc]; rfl) (by rw [hZc]; rfl), upA4 (ad Zc) 45 47 49 51 x45 x47 x49 x51 (by rw [hZc]; rfl) (by rw [hZc]; rfl) (by rw [hZc]; rfl) (by rw [hZc]; rfl)]
  subst hZc
  rfl
set_option maxRecDepth 100000 in
set_option maxHeartbeats 4000000 in
theorem toM {Z0 : Sh} {y0 : Nat} {w : va_W} (h : pX8_init Z0 y0 w) : ∃ Z : Sh, Z.1 = Z0.1 ∧ Z.2.1 = Z0.2.1 ∧ Z.2.2.2 = Z0.2.2.2 ∧ ad Z 0 = y0 ∧ [0, 1, 2, 3, 4, 5, 6, 7, 8, 9, 10, 11, 12, 13].map (fun i => w[i]?) = (wl Z layM σM0).map some := by
  obtain ⟨y1, y2, y3, y4, y5, y6, y7, y8, y9, y10, y11, y12, y13, rfl⟩ := h
  exact ⟨(Z0.1, Z0.2.1, (fun k => ([y0, y1, y2, y3, y4, y5, y6, y7, y8, y9, y10, y11, y12, y13] : List Nat).getD k 0), Z0.2.2.2), rfl, rfl, rfl, rfl, rfl⟩
theorem sub_app {w1 w2 v1 v2 : va_W} {i1 i2 : List Nat} (h1 : i1.map (fun i => w1[i]?) = v1.map some) (h2 : i2.map (fun i => w2[i]?) = v2.map some) : (i1 ++ i2.map (fun i => w1.length + i)).map (fun i => (w1 ++ w2)[i]?) = (v1 ++ v2).map some := by
  rw [List.map_append, List.map_append, ← h1, ← h2, List.map_map]
  congr 1
  · refine List.map_congr_left (fun i hi => ?_)
    have h3 : ∃ q, w1[i]? = some q := by
      have : w1[i]? ∈ v1.map some := by rw [← h1]; exact List.mem_map.mpr ⟨i, hi, rfl⟩
      obtain ⟨q, -, hq⟩ := List.mem_map.mp this
      exact ⟨q, hq.symm⟩
    obtain ⟨q, hq⟩ := h3
    rw [List.getElem?_append_left (List.getElem?_eq_some_iff.mp hq).1]
  · refine List.map_congr_left (fun i _ => ?_)
    show (w1 ++ w2)[w1.length + i]? = _
    rw [List.getElem?_append_right (by omega), Nat.add_sub_cancel_left]
theorem P_map {D : va_G} {w v : va_W} {H : Heap} {is : List Nat} (hP : va_P D vwCl w H) (h : is.map (fun i => w[i]?) = v.map some) : va_P D vwCl v H := by
  intro k q hk
  have h1 : (is.map (fun i => w[i]?))[k]? = some (some q) := by rw [h, List.getElem?_map, hk]; rfl
  rw [List.getElem?_map] at h1
  cases hi : is[k]? with
  | none => rw [hi] at h1; cases h1
  | some i => rw [hi] at h1; exact hP i q (Option.some.inj h1)
theorem nd_shift (n : Nat) : ∀ (l1 l2 : List Nat), va_nd l1 = true → va_nd l2 = true → (∀ i ∈ l1, i < n) → va_nd (l1 ++ l2.map (fun i => n + i)) = true
  | [], l2, _, h2, _ => by
    simp only [List.nil_append]
    induction l2 with
    | nil => rfl
    | cons a l ih =>
      simp only [va_nd, Bool.and_eq_true, decide_eq_true_eq] at h2
      simp only [List.map_cons, va_nd, Bool.and_eq_true, decide_eq_true_eq]
      refine ⟨fun hm => ?_, ih h2.2⟩
      obtain ⟨x, hx, hx2⟩ := List.mem_map.mp hm
      exact h2.1 (by rw [show a = x by omega]; exact hx)
  | a :: l, l2, h1, h2, h3 => by
    simp only [va_nd, Bool.and_eq_true, decide_eq_true_eq] at h1
    simp only [List.cons_append, va_nd, Bool.and_eq_true, decide_eq_true_eq]
    refine ⟨fun hm => ?_, nd_shift n l l2 h1.2 h2 (fun i hi => h3 i (List.mem_cons_of_mem _ hi))⟩
    rcases List.mem_append.mp hm with hm | hm
    · exact h1.1 hm
    · obtain ⟨x, hx, hx2⟩ := List.mem_map.mp hm
      have := h3 a List.mem_cons_self
      omega
theorem lenX {Z0 : Sh} {x0 : Nat} {w : va_W} (h : pX7_init Z0 x0 w) : w.length = 53 := by
  obtain ⟨x1, x2, x3, x4, x5, x6, x7, x8, x9, x10, x11, x12, x13, x14, x15, x16, x17, x18, x19, x20, x21, x22, x23, x24, x25, x26, x27, x28, x29, x30, x31, x32, x33, x34, x35, x36, x37, x38, x39, x40, x41, x42, x43, x44, x45, x46, x47, x48, x49, x50, x51, x52, rfl⟩ := h
  rfl
set_option maxRecDepth 100000 in
set_option maxHeartbeats 4000000 in
theorem start_of {Inv : Sg → Sg → Prop} (hSt : Steps Inv) (hI0 : Inv σX0 σM0) {p : Program} {e : Env} {s : State} {m : MethodId} {below : List Frame} {meth : Method} {c : Code} (l : Launch) {b L : Nat} {xs : Nat → Int32} (hL : L ≤ 2560) (C0 : lw_At p s m meth c b L xs) : W p l e room_1 s m #[Value.ref b] below meth c s.heap [] 0 0 (lw_Z below #[Value.ref b] s) (entryFrame m ([Value.ref b] : List Value).toArray 4) := by
  obtain ⟨hx, hb, hr, hml, hown, hts, hX, hbl, hlocks, hgv⟩ := id C0
  have hA : ∀ q : Nat, s.heap.size ≤ q → (fun q : Nat => s.heap.size ≤ q) q := fun _ h => h
  obtain ⟨D, cs, hPK⟩ := pk_of hts
  obtain ⟨aK, aV, oo, hEX⟩ := ex_of hts hgv
  obtain ⟨Z0, hZ0⟩ : ∃ Z0 : Sh, Z0 = (D, cs, (fun _ => 0), aK, aV, oo) := ⟨_, rfl⟩
  have hK : PK Z0 s := hPK Z0 (by rw [hZ0]) (by rw [hZ0])
  have hNW : NW s := fun w hw => va_Nw.of (by have h1 := List.all_eq_true.mp Nst_isN w hw; revert h1; cases w <;> simp [isN, Cond.onTables]) (hts w (in_Nst w hw))
  have hAO : AO s := ⟨va_AO.of (hts _ wd_1044), va_AO.of (hts _ wd_1045)⟩
  have hS : va_S (fun q : Nat => s.heap.size ≤ q) s.heap s.heap [] := va_S.rf
  have hP : va_P Z0.1 vwCl [] s.heap := fun k q h => by simp at h
  have hD : va_D (fun q : Nat => s.heap.size ≤ q) [] := ⟨fun i j p q h => by simp at h, fun k q h => by simp at h⟩
  have hl := lv_entry ([.ref b]) (n := 4) (Nat.le_of_ble_eq_true rfl)
  rw [lg_entry_eq]
  generalize (lg_sl ([.ref b]) ++ List.replicate (4 - (lg_sl ([.ref b])).length) Slot.unset).toArray = ls at hl ⊢
  have hl : lv_has ls 4 [(0, .ref b)] := hl
  refine va_new (ci := 7) (fs := [.null, .null, .null, .null, .null, .null, .null, .null, .null, .null, .int 0]) (C := RX7) (T := TX7) (N := 11) hx hb hts in_wsX70 tyX7 tyX7_ok hown (hts _ wd_1036) (hts _ wd_1038) (hts _ wd_50) hK hP hD hS hA rfl (fun j hj => by have hj2 : j < 11 := hj; rcases (show j = 0 ∨ j = 1 ∨ j = 2 ∨ j = 3 ∨ j = 4 ∨ j = 5 ∨ j = 6 ∨ j = 7 ∨ j = 8 ∨ j = 9 ∨ j = 10 by omega) with rfl | rfl | rfl | rfl | rfl | rfl | rfl | rfl | rfl | rfl | rfl <;> rfl) (Nat.le_of_ble_eq_true rfl) (Nat.le_of_ble_eq_true rfl) dL_law_0 (fun x0 H hP hD hS => ?_)
  refine lv_dup hx hb dL_law_3 rfl ?_
  have hFc := va_free (wc := [(x0, .inr (7, [.null, .null, .null, .null, .null, .null, .null, .null, .null, .null, .int 0]))]) hD hS hA [0] rfl
  refine va_callv (va_runI (As := []) (rest := [.ref x0]) ⟨hx, hb, hml, hown, hts⟩ (tX7_init l Z0 x0 H.size) (cwI 0 hts gw_X7_init rfl rfl rfl (hts _ wd_50) (hts _ wd_1040) (hts _ wd_1042) rfl (by decide +kernel) ⟨Nat.le_of_ble_eq_true rfl, Nat.le_of_ble_eq_true rfl⟩) ⟨PCt.blind _ _ _ _, fun U hU hW2 => ⟨rfl, by rw [hU], by rw [hU]; exact hP, va_K.moved hW2.alike hK, NW.moved hW2 hNW, ⟨va_AO.moved hW2.alike hAO.1, va_AO.moved hW2.alike hAO.2⟩⟩⟩ rfl rfl hl.1 rfl (lv_room (Nat.le_of_ble_eq_true rfl)) dL_law_4 ⟨Nat.le_of_ble_eq_true rfl, Nat.le_of_ble_eq_true rfl⟩) hS (fun q _ h => hFc q h) hFc (fun wX t H1 locs ht hvm hwX hB hz1 hk1 hS => ?_)
  obtain ⟨hP1, hD1⟩ := hB
  rw [ht] at hP1
  obtain ⟨hP, hD⟩ := va_join (wr := []) (w1 := wX) hP hD [0] [] rfl rfl (by decide) (by decide) hk1 hFc hP1 hD1
  rw [List.nil_append] at hP hD
  have hlX := lenX hwX
  refine lv_astore_n (lv' := [(1, .ref x0), (0, .ref b)]) hx hb dL_law_7 rfl hl (by decide) rfl (fun ls hl => ?_)
  refine va_new (ci := 8) (fs := [.null, .int 0, .int 0, .null, .int 0, .int 0, .int 0, .int 0, .null, .int 0, .int 0, .int 0, .int 0, .int 0, .int 0, .int 0, .int 0, .null, .null, .null, .int 0, .null, .int 0, .null, .int 0, .null, .int 0, .null, .null, .null, .null, .int 0]) (C := RX8) (T := TX8) (N := 32) hx hb hts in_wsX80 tyX8 tyX8_ok hown (hts _ wd_1037) (hts _ wd_1039) (hts _ wd_658) hK hP hD hS hA rfl (fun j hj => by have hj2 : j < 32 := hj; rcases (show j = 0 ∨ j = 1 ∨ j = 2 ∨ j = 3 ∨ j = 4 ∨ j = 5 ∨ j = 6 ∨ j = 7 ∨ j = 8 ∨ j = 9 ∨ j = 10 ∨ j = 11 ∨ j = 12 ∨ j = 13 ∨ j = 14 ∨ j = 15 ∨ j = 16 ∨ j = 17 ∨ j = 18 ∨ j = 19 ∨ j = 20 ∨ j = 21 ∨ j = 22 ∨ j = 23 ∨ j = 24 ∨ j = 25 ∨ j = 26 ∨ j = 27 ∨ j = 28 ∨ j = 29 ∨ j = 30 ∨ j = 31 by omega) with rfl | rfl | rfl | rfl | rfl | rfl | rfl | rfl | rfl | rfl | rfl | rfl | rfl | rfl | rfl | rfl | rfl | rfl | rfl | rfl | rfl | rfl | rfl | rfl | rfl | rfl | rfl | rfl | rfl | rfl | rfl | rfl <;> rfl) (Nat.le_of_ble_eq_true rfl) (Nat.le_of_ble_eq_true rfl) dL_law_8 (fun y0 H hP hD hS => ?_)
  refine lv_dup hx hb dL_law_11 rfl ?_
  have hat : (wX ++ [(y0, (.inr (8, [.null, .int 0, .int 0, .null, .int 0, .int 0, .int 0, .int 0, .null, .int 0, .int 0, .int 0, .int 0, .int 0, .int 0, .int 0, .int 0, .null, .null, .null, .int 0, .null, .int 0, .null, .int 0, .null, .int 0, .null, .null, .null, .null, .int 0]) : va_E))])[53]? = some (y0, .inr (8, [.null, .int 0, .int 0, .null, .int 0, .int 0, .int 0, .int 0, .null, .int 0, .int 0, .int 0, .int 0, .int 0, .int 0, .int 0, .int 0, .null, .null, .null, .int 0, .null, .int 0, .null, .int 0, .null, .int 0, .null, .null, .null, .null, .int 0])) := by rw [List.getElem?_append_right (by omega), hlX]; rfl
  have hFc := va_free (wc := [(y0, .inr (8, [.null, .int 0, .int 0, .null, .int 0, .int 0, .int 0, .int 0, .null, .int 0, .int 0, .int 0, .int 0, .int 0, .int 0, .int 0, .int 0, .null, .null, .null, .int 0, .null, .int 0, .null, .int 0, .null, .int 0, .null, .null, .null, .null, .int 0]))]) hD hS hA [53] (by simp only [List.map_cons, List.map_nil, hat])
  have hPc : va_P Z0.1 vwCl [(y0, .inr (8, [.null, .int 0, .int 0, .null, .int 0, .int 0, .int 0, .int 0, .null, .int 0, .int 0, .int 0, .int 0, .int 0, .int 0, .int 0, .int 0, .null, .null, .null, .int 0, .null, .int 0, .null, .int 0, .null, .int 0, .null, .null, .null, .null, .int 0]))] H := P_map (is := [53]) hP (by simp only [List.map_cons, List.map_nil, hat])
  refine va_callv (va_runI (As := []) (rest := [.ref y0]) ⟨hx, hb, hml, hown, hts⟩ (tX8_init l Z0 y0 H.size) (cwI 0 hts gw_X8_init rfl rfl rfl (hts _ wd_658) (hts _ wd_1041) (hts _ wd_1043) rfl (by decide +kernel) ⟨Nat.le_of_ble_eq_true rfl, Nat.le_of_ble_eq_true rfl⟩) ⟨PCt.blind _ _ _ _, fun U hU hW2 => ⟨rfl, by rw [hU], by rw [hU]; exact hPc, va_K.moved hW2.alike hK, NW.moved hW2 hNW, ⟨va_AO.moved hW2.alike hAO.1, va_AO.moved hW2.alike hAO.2⟩⟩⟩ rfl rfl hl.1 rfl (lv_room (Nat.le_of_ble_eq_true rfl)) dL_law_12 ⟨Nat.le_of_ble_eq_true rfl, Nat.le_of_ble_eq_true rfl⟩) hS (fun q _ h => hFc q h) hFc (fun wM t H1 locs ht hvm hwM hB hz1 hk1 hS => ?_)
  obtain ⟨hP1, hD1⟩ := hB
  rw [ht] at hP1
  have hRR : (List.range 53).map (fun i => (wX ++ [(y0, (.inr (8, [.null, .int 0, .int 0, .null, .int 0, .int 0, .int 0, .int 0, .null, .int 0, .int 0, .int 0, .int 0, .int 0, .int 0, .int 0, .int 0, .null, .null, .null, .int 0, .null, .int 0, .null, .int 0, .null, .int 0, .null, .null, .null, .null, .int 0]) : va_E))])[i]?) = wX.map some := by
    apply List.ext_getElem?
    intro i
    rw [List.getElem?_map, List.getElem?_map]
    by_cases hi : i < 53
    · rw [List.getElem?_range hi]
      show some ((wX ++ _)[i]?) = _
      rw [List.getElem?_append_left (by omega), List.getElem?_eq_getElem (by omega)]
      rfl
    · rw [List.getElem?_eq_none (by simp; omega), List.getElem?_eq_none (by omega)]
      rfl
  obtain ⟨hP, hD⟩ := va_join (wr := wX) (w1 := wM) hP hD [53] (List.range 53) (by simp only [List.map_cons, List.map_nil, hat]) hRR (by decide) (by decide) hk1 hFc hP1 hD1
  refine lv_astore_n (lv' := [(2, .ref y0), (1, .ref x0), (0, .ref b)]) hx hb dL_law_15 rfl hl (by decide) rfl (fun ls hl => ?_)
  refine lv_iconst (v := 0) hx hb dL_law_16 (by decide) ?_
  refine lv_istore_n (lv' := [(3, .int 0), (2, .ref y0), (1, .ref x0), (0, .ref b)]) hx hb dL_law_17 rfl hl (by decide) rfl (fun ls hl => ?_)
  obtain ⟨ZX, ex1, ex2, ex3, ex4, exm⟩ := toX hwX
  obtain ⟨ZM, em1, em2, em3, em4, emm⟩ := toM hwM
  have hsub := sub_app exm emm
  rw [hlX] at hsub
  have hPa := P_map hP hsub
  have hDa := hD.sub _ (nd_shift 53 _ _ (by decide) (by decide) (by decide)) hsub
  have hPX : va_P ZX.1 vwCl (wl ZX layX σX0) H1 := by
    rw [ex1]
    exact fun k q hk => hPa k q (by rw [List.getElem?_append_left (List.getElem?_eq_some_iff.mp hk).1]; exact hk)
  have hPM : va_P ZM.1 vwCl (wl ZM layM σM0) H1 := by
    rw [em1]
    exact fun k q hk => hPa ((wl ZX layX σX0).length + k) q (by rw [List.getElem?_append_right (by omega), Nat.add_sub_cancel_left]; exact hk)
  have hDX : va_D (fun q : Nat => s.heap.size ≤ q) (wl ZX layX σX0) := ⟨fun i j x y hi hj hxy => hDa.1 i j x y (by rw [List.getElem?_append_left (List.getElem?_eq_some_iff.mp hi).1]; exact hi) (by rw [List.getElem?_append_left (List.getElem?_eq_some_iff.mp hj).1]; exact hj) hxy, fun k q hk => hDa.2 k q (by rw [List.getElem?_append_left (List.getElem?_eq_some_iff.mp hk).1]; exact hk)⟩
  have hDM : va_D (fun q : Nat => s.heap.size ≤ q) (wl ZM layM σM0) := by
    refine ⟨fun i j x y hi hj hxy => ?_, fun k q hk => hDa.2 ((wl ZX layX σX0).length + k) q (by rw [List.getElem?_append_right (by omega), Nat.add_sub_cancel_left]; exact hk)⟩
    have := hDa.1 ((wl ZX layX σX0).length + i) ((wl ZX layX σX0).length + j) x y (by rw [List.getElem?_append_right (by omega), Nat.add_sub_cancel_left]; exact hi) (by rw [List.getElem?_append_right (by omega), Nat.add_sub_cancel_left]; exact hj) hxy
    omega
  have CC : CL p s m meth c b L xs ZX ZM := ⟨C0, hPK ZX (by rw [ex1, hZ0]) (by rw [ex2, hZ0]), hPK ZM (by rw [em1, hZ0]) (by rw [em2, hZ0]), hNW, hEX ZX layX (by rw [ex3, hZ0]) (by rw [ex3, hZ0]) (by rw [ex3, hZ0]) (fr_of hDX), hEX ZM layM (by rw [em3, hZ0]) (by rw [em3, hZ0]) (by rw [em3, hZ0]) (fr_of hDM), pI_of hDX, pI_of hDM, fr_of hDX, fr_of hDM, dj_of hDa⟩
  have hloop := law_loop (l := l) (e := e) (below := below) (kc := 0 + 1 + 52 + 1 + 13) (ks := 0 + 11 + 758 + 32 + 543) hSt hL CC (by decide) (by decide) (L + 6) 0 σX0 σM0 (by omega) (by omega) hI0
  refine hloop H1 locs ls ?_ hPX hPM hS
  rw [ex4, em4]
  exact lv_sub hl [3, 2, 1, 0] rfl
