-- the JDK's own methods over the text constants
def rJ3_checkIndex : Room := { frames := 0, cells := 0, slots := 0, locals := 0 }
def rJ0_checkIndex : Room := { frames := 1, cells := 0, slots := 0, locals := 22 }
def rJ1_charAt : Room := { frames := 2, cells := 0, slots := 0, locals := 43 }
def rJ0_coder : Room := { frames := 0, cells := 0, slots := 0, locals := 0 }
def rJ0_isLatin1 : Room := { frames := 0, cells := 0, slots := 0, locals := 0 }
def rJ0_length_8abf5 : Room := { frames := 1, cells := 0, slots := 0, locals := 20 }
def rJ0_charAt_5068e : Room := { frames := 3, cells := 0, slots := 0, locals := 64 }
theorem kJ3_checkIndex {p : Program} {l : Launch} {e : Env} {s : State} {m : MethodId} {args : Array Value} {below : List Frame} {meth : Method} {c : Code} {Z : Sh} {σ : Sg} {v0 v1 : Int32} {w : Value} (C : Cx p s m args meth c cJ3_checkIndex_8e157 3 wsJ3_checkIndex_8e157 RJ3 (some .int) Z layX) (h0 : ¬ v0 < 0) (h1 : v0 < v1) : G p l e rJ3_checkIndex s m args below meth c 3 Z layX (MQ below (QI Z layX σ v0 s.heap.size) args s 0 0 (pA Z layX s.heap.size)) σ 0 [(0, .int v0), (1, .int v1), (2, w)] [] := by
  refine g_iload_n (pc := 0) C dJ3_checkIndex_8e157_0 rfl 0 rfl ?_
  refine g_if_lt (pc := 1) C (tgt := 9) (A := True) (B := True) (o := True) dJ3_checkIndex_8e157_1 (by decide) (by simp) (fun hc _ => absurd hc h0) (fun _ _ => ?_)
  refine g_iload_n (pc := 4) C dJ3_checkIndex_8e157_4 rfl 0 rfl ?_
  refine g_iload_n (pc := 5) C dJ3_checkIndex_8e157_5 rfl 1 rfl ?_
  refine g_icmp_lt (pc := 6) C (tgt := 16) (A := True) (B := True) (o := True) dJ3_checkIndex_8e157_6 (by decide) (by simp) (fun _ _ => ?_) (fun hc _ => absurd h1 hc)
  refine g_iload_n (pc := 16) C dJ3_checkIndex_8e157_16 rfl 0 rfl ?_
  exact g_iret C dJ3_checkIndex_8e157_17 rfl rfl
theorem mJ3_checkIndex (l : Launch) (Z : Sh) {σ : Sg} {v0 v1 : Int32} (r : Option Nat) (h0 : ¬ v0 < 0) (h1 : v0 < v1) : MI l Z layX yJ3_checkIndex_8e157 wsJ3_checkIndex_8e157 rJ3_checkIndex [.int v0, .int v1, va_rf r] σ σ v0 := by
  cases r with
  | none => exact MI.of (cc := cJ3_checkIndex_8e157) (maxL := 3) (ret := some .int) (by decide) rfl (Nat.le_of_ble_eq_true rfl) (fun p e s m below meth c C => kJ3_checkIndex (w := .null) C h0 h1)
  | some t => exact MI.of (cc := cJ3_checkIndex_8e157) (maxL := 3) (ret := some .int) (by decide) rfl (Nat.le_of_ble_eq_true rfl) (fun p e s m below meth c C => kJ3_checkIndex (w := .ref t) C h0 h1)
theorem mJ0_checkIndex (l : Launch) (Z : Sh) {σ : Sg} {v0 v1 : Int32} (h0 : ¬ v0 < 0) (h1 : v0 < v1) : MV l Z layX yJ0_checkIndex_df160 wsJ0_checkIndex_df160 rJ0_checkIndex [.int v0, .int v1] σ σ := by
  refine MV.of (cc := cJ0_checkIndex_df160) (maxL := 2) (ret := none) (by decide) rfl (Nat.le_of_ble_eq_true rfl) (fun p e s m below meth c C => ?_)
  refine g_iload_n (lv := [(0, .int v0), (1, .int v1)]) (pc := 0) C dJ0_checkIndex_df160_0 rfl 0 rfl ?_
  refine g_iload_n (pc := 1) C dJ0_checkIndex_df160_1 rfl 1 rfl ?_
  refine g_gsq (pc := 2) C (by decide +kernel) dJ0_checkIndex_df160_2 (fun r => ?_)
  refine g_callSi (pc := 5) C (As := [.int v0, .int v1, va_rf r]) (rest := []) (va_cwS 3 C.2.2.2.2.2.1 gJ0_checkIndex_df160_J3_checkIndex_8e157 rfl rfl rfl (by decide +kernel) ⟨Nat.le_of_ble_eq_true rfl, Nat.le_of_ble_eq_true rfl⟩) (mJ3_checkIndex l Z r h0 h1) rfl rfl (Nat.le_of_ble_eq_true rfl) dJ0_checkIndex_df160_5 ?_
  refine g_pop (pc := 8) C rfl dJ0_checkIndex_df160_8 ?_
  exact g_vret C dJ0_checkIndex_df160_9 rfl
theorem sBy_ok : ∀ i, i < 6 → ∀ j, j < lenS.getD i 0 → ((sBy i j &&& 255).toUInt32 % 65536).toInt32 = sBy i j ∧ vp_nar .char (sBy i j) = sBy i j := by decide +kernel
theorem lenS_lt : ∀ i, i < 6 → lenS.getD i 0 < 2 ^ 31 := by decide +kernel
theorem rd_lt {f : Nat → Int32} {n : Nat} {i v : Int32} (hn : n < 2 ^ 31) (h : rd f n i = some v) : ¬ i < 0 ∧ i < Int32.ofNat n ∧ i.toNatClampNeg < n := by
  obtain ⟨h1, -⟩ := rd_in h
  obtain ⟨j, hj, rfl⟩ := vp_in_of h1 hn
  exact ⟨nI_pos (by omega), nI_lt hj hn, by rw [nI_clamp (by omega)]; exact hj⟩
theorem mJ1_charAt (l : Launch) (Z : Sh) {σ : Sg} {i : Nat} {k v : Int32} (hi : i < 6) (h : rd (sBy i) (lenS.getD i 0) k = some v) : MI l Z layX yJ1_charAt_3b067 wsJ1_charAt_3b067 rJ1_charAt [.ref (sV Z i), .int k] σ σ v := by
  obtain ⟨h0, h1, h2⟩ := rd_lt (lenS_lt i hi) h
  have h3 : sBy i k.toNatClampNeg = v := (rd_in h).2
  have h4 := sBy_ok i hi _ h2
  rw [h3] at h4
  refine MI.of (cc := cJ1_charAt_3b067) (maxL := 2) (ret := some .char) (by decide) rfl (Nat.le_of_ble_eq_true rfl) (fun p e s m below meth c C => ?_)
  refine g_iload_n (lv := [(0, .ref (sV Z i)), (1, .int k)]) (pc := 0) C dJ1_charAt_3b067_0 rfl 1 rfl ?_
  refine g_aload_n (pc := 1) C dJ1_charAt_3b067_1 rfl 0 rfl ?_
  refine g_slen (pc := 2) C hi dJ1_charAt_3b067_2 ?_
  refine g_callSv (pc := 3) C (As := [.int k, .int (sLen i)]) (rest := []) (va_cwS 2 C.2.2.2.2.2.1 gJ1_charAt_3b067_J0_checkIndex_df160 rfl rfl rfl (by decide +kernel) ⟨Nat.le_of_ble_eq_true rfl, Nat.le_of_ble_eq_true rfl⟩) (mJ0_checkIndex l Z h0 h1) rfl rfl (Nat.le_of_ble_eq_true rfl) dJ1_charAt_3b067_3 ?_
  refine g_aload_n (pc := 6) C dJ1_charAt_3b067_6 rfl 0 rfl ?_
  refine g_iload_n (pc := 7) C dJ1_charAt_3b067_7 rfl 1 rfl ?_
  refine g_sald (pc := 8) C hi h dJ1_charAt_3b067_8 ?_
  refine g_sipush (pc := 9) C (v := 255) dJ1_charAt_3b067_9 (by decide) ?_
  refine g_iand (pc := 12) C dJ1_charAt_3b067_12 ?_
  refine g_i2c (pc := 13) C dJ1_charAt_3b067_13 ?_
  rw [h4.1]
  exact g_cret C dJ1_charAt_3b067_14 rfl (by unfold rc; rw [if_pos h4.2])
theorem mJ0_coder (l : Launch) (Z : Sh) {σ : Sg} {i : Nat} (hi : i < 6) : MI l Z layX yJ0_coder_7d493 wsJ0_coder_7d493 rJ0_coder [.ref (sK Z i)] σ σ 0 := by
  refine MI.of (cc := cJ0_coder_7d493) (maxL := 1) (ret := some .byte) (by decide) rfl (Nat.le_of_ble_eq_true rfl) (fun p e s m below meth c C => ?_)
  refine g_gsc (lv := [(0, .ref (sK Z i))]) (pc := 0) C (by decide +kernel) dJ0_coder_7d493_0 ?_
  refine g_if_eq (pc := 3) C (tgt := 13) (A := True) (B := True) (o := True) dJ0_coder_7d493_3 (by decide) (by simp) (fun hc _ => absurd hc (by decide)) (fun _ _ => ?_)
  refine g_aload_n (pc := 6) C dJ0_coder_7d493_6 rfl 0 rfl ?_
  refine g_sgc (pc := 7) C hi (by decide +kernel) dJ0_coder_7d493_7 ?_
  refine g_goto (pc := 10) C (tgt := 14) dJ0_coder_7d493_10 (by decide) ?_
  exact g_nret C (by decide) dJ0_coder_7d493_14 rfl rfl
theorem mJ0_isLatin1 (l : Launch) (Z : Sh) {σ : Sg} {i : Nat} (hi : i < 6) : MI l Z layX yJ0_isLatin1_aae02 wsJ0_isLatin1_aae02 rJ0_isLatin1 [.ref (sK Z i)] σ σ 1 := by
  refine MI.of (cc := cJ0_isLatin1_aae02) (maxL := 1) (ret := some .boolean) (by decide) rfl (Nat.le_of_ble_eq_true rfl) (fun p e s m below meth c C => ?_)
  refine g_gsc (lv := [(0, .ref (sK Z i))]) (pc := 0) C (by decide +kernel) dJ0_isLatin1_aae02_0 ?_
  refine g_if_eq (pc := 3) C (tgt := 17) (A := True) (B := True) (o := True) dJ0_isLatin1_aae02_3 (by decide) (by simp) (fun hc _ => absurd hc (by decide)) (fun _ _ => ?_)
  refine g_aload_n (pc := 6) C dJ0_isLatin1_aae02_6 rfl 0 rfl ?_
  refine g_sgc (pc := 7) C hi (by decide +kernel) dJ0_isLatin1_aae02_7 ?_
  refine g_if_ne (pc := 10) C (tgt := 17) (A := True) (B := True) (o := True) dJ0_isLatin1_aae02_10 (by decide) (by simp) (fun hc _ => absurd rfl hc) (fun _ _ => ?_)
  refine g_iconst (pc := 13) C (v := 1) dJ0_isLatin1_aae02_13 (by decide) ?_
  refine g_goto (pc := 14) C (tgt := 18) dJ0_isLatin1_aae02_14 (by decide) ?_
  exact g_nret C (by decide) dJ0_isLatin1_aae02_18 rfl rfl
theorem sLen_ok : ∀ i, i < 6 → sLen i >>> ((0 : Int32) &&& 31) = sLen i := by decide +kernel
theorem mJ0_length_8abf5 (l : Launch) (Z : Sh) {σ : Sg} {i : Nat} (hi : i < 6) : MI l Z layX yJ0_length_8abf5 wsJ0_length_8abf5 rJ0_length_8abf5 [.ref (sK Z i)] σ σ (sLen i) := by
  refine MI.of (cc := cJ0_length_8abf5) (maxL := 1) (ret := some .int) (by decide) rfl (Nat.le_of_ble_eq_true rfl) (fun p e s m below meth c C => ?_)
  refine g_aload_n (lv := [(0, .ref (sK Z i))]) (pc := 0) C dJ0_length_8abf5_0 rfl 0 rfl ?_
  refine g_sgv (pc := 1) C hi (by decide +kernel) dJ0_length_8abf5_1 ?_
  refine g_slen (pc := 4) C hi dJ0_length_8abf5_4 ?_
  refine g_aload_n (pc := 5) C dJ0_length_8abf5_5 rfl 0 rfl ?_
  refine g_callVs (pc := 6) C (As := []) (rest := [.int (sLen i)]) hi (cwV 0 C.2.2.2.2.2.1 gJ0_length_8abf5_J0_coder_7d493 rfl rfl rfl (by decide +kernel) ⟨Nat.le_of_ble_eq_true rfl, Nat.le_of_ble_eq_true rfl⟩) (mJ0_coder l Z hi) rfl rfl (Nat.le_of_ble_eq_true rfl) dJ0_length_8abf5_6 ?_
  refine g_ishr (pc := 9) C dJ0_length_8abf5_9 ?_
  exact g_iret C dJ0_length_8abf5_10 rfl (sLen_ok i hi)
theorem mJ0_charAt_5068e (l : Launch) (Z : Sh) {σ : Sg} {i : Nat} {k v : Int32} (hi : i < 6) (h : rd (sBy i) (lenS.getD i 0) k = some v) : MI l Z layX yJ0_charAt_5068e wsJ0_charAt_5068e rJ0_charAt_5068e [.ref (sK Z i), .int k] σ σ v := by
  obtain ⟨h0, h1, h2⟩ := rd_lt (lenS_lt i hi) h
  have h3 : sBy i k.toNatClampNeg = v := (rd_in h).2
  have h4 := sBy_ok i hi _ h2
  rw [h3] at h4
  refine MI.of (cc := cJ0_charAt_5068e) (maxL := 2) (ret := some .char) (by decide) rfl (Nat.le_of_ble_eq_true rfl) (fun p e s m below meth c C => ?_)
  refine g_aload_n (lv := [(0, .ref (sK Z i)), (1, .int k)]) (pc := 0) C dJ0_charAt_5068e_0 rfl 0 rfl ?_
  refine g_callVs (pc := 1) C (As := []) (rest := []) hi (cwV 0 C.2.2.2.2.2.1 gJ0_charAt_5068e_J0_isLatin1_aae02 rfl rfl rfl (by decide +kernel) ⟨Nat.le_of_ble_eq_true rfl, Nat.le_of_ble_eq_true rfl⟩) (mJ0_isLatin1 l Z hi) rfl rfl (Nat.le_of_ble_eq_true rfl) dJ0_charAt_5068e_1 ?_
  refine g_if_eq (pc := 4) C (tgt := 16) (A := True) (B := True) (o := True) dJ0_charAt_5068e_4 (by decide) (by simp) (fun hc _ => absurd hc (by decide)) (fun _ _ => ?_)
  refine g_aload_n (pc := 7) C dJ0_charAt_5068e_7 rfl 0 rfl ?_
  refine g_sgv (pc := 8) C hi (by decide +kernel) dJ0_charAt_5068e_8 ?_
  refine g_iload_n (pc := 11) C dJ0_charAt_5068e_11 rfl 1 rfl ?_
  refine g_callSi (pc := 12) C (As := [.ref (sV Z i), .int k]) (rest := []) (va_cwS 2 C.2.2.2.2.2.1 gJ0_charAt_5068e_J1_charAt_3b067 rfl rfl rfl (by decide +kernel) ⟨Nat.le_of_ble_eq_true rfl, Nat.le_of_ble_eq_true rfl⟩) (mJ1_charAt l Z hi h) rfl rfl (Nat.le_of_ble_eq_true rfl) dJ0_charAt_5068e_12 ?_
  exact g_cret C dJ0_charAt_5068e_15 rfl (by unfold rc; rw [if_pos h4.2])
