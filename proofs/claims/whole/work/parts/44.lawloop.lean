theorem lim_le {L i : Nat} (hL : L ≤ 2560) (hi : i ≤ 2565) (h : ¬ Int32.ofNat L - 5 < nI i) : i + 5 ≤ L := by
  have h1 : (Int32.ofNat L - 5).toInt = (L : Int) - 5 := by
    have := pk_sub_toInt (a := L) (b := 5) (by omega) (by omega)
    exact this
  have h2 : (nI i).toInt = (i : Int) := nI_toInt (by omega)
  have h3 : ¬ ((Int32.ofNat L - 5).toInt < (nI i).toInt) := fun z => h (Int32.lt_iff_toInt_lt.mpr z)
  rw [h1, h2] at h3
  omega
theorem vin_k {L i : Nat} (hL : L ≤ 2560) (hi : i + 5 ≤ L) (k : Nat) (hk : k < 5) : vp_in (nI i + nI k) L := by
  rw [nI_add]
  exact vp_in_nI (by omega) (by omega)
theorem lgc (r : Int64) : lg_cmp r r = 0 := by
  have h1 : ¬ r < r := by
    intro h
    have := Int64.lt_iff_toInt_lt.mp h
    omega
  simp [lg_cmp, h1]
theorem sw_in (x : Int32) : (∃ i : Nat, i < 38 ∧ x = nI i) ∨ (x.toInt < 0 ∨ 37 < x.toInt) := by
  by_cases h : x.toInt < 0 ∨ 37 < x.toInt
  · exact Or.inr h
  · refine Or.inl ⟨x.toInt.toNat, by omega, Int32.toInt_inj.mp ?_⟩
    rw [nI_toInt (by omega)]
    omega
set_option maxHeartbeats 1000000 in
theorem case_0 {p : Program} {l : Launch} {e : Env} {s : State} {m : MethodId} {below : List Frame} {meth : Method} {c : Code} {b L : Nat} {xs : Nat → Int32} {ZX ZM : Sh} {kc ks : Nat} {Inv : Sg → Sg → Prop} (hS : Steps Inv) (C : CL p s m meth c b L xs ZX ZM) {σX σM : Sg} {v3 : Int32} (hI : Inv σX σM) (hv : ∀ k, k < 5 → vp_in (v3 + nI k) L) (hc1 : kc ≤ 600000) (hc2 : ks ≤ 7302250) (kk : ∀ sx sm, Inv sx sm → GL p l e s m below meth c b ZX ZM kc ks sx sm 1334 [(0, .ref b), (1, .ref (ad ZX 0)), (2, .ref (ad ZM 0)), (3, .int v3)] []) : GL p l e s m below meth c b ZX ZM kc ks σX σM 200 [(0, .ref b), (1, .ref (ad ZX 0)), (2, .ref (ad ZM 0)), (3, .int v3)] [] := by
  obtain ⟨sx, sm, r, ea, eb, hI2⟩ := hS.1 σX σM (xs (v3 + 1).toNatClampNeg) hI
  refine l_aload_n (pc := 200) C dL_law_200 rfl 1 rfl ?_
  refine l_aload_n (pc := 201) C dL_law_201 rfl 0 rfl ?_
  refine l_iload_n (pc := 202) C dL_law_202 rfl 3 rfl ?_
  refine l_iconst (pc := 203) C (v := 1) dL_law_203 (by decide) ?_
  refine l_iadd (pc := 204) C dL_law_204 ?_
  refine l_sld (pc := 205) C (hv 1 (by decide)) dL_law_205 ?_
  refine l_callXi (pc := 206) C (As := [.int (xs (v3 + 1).toNatClampNeg)]) (n := 1) (st := []) (nX7_feed l ZX ea) gw_X7_feed rfl rfl rfl (by decide +kernel) ⟨Nat.le_of_ble_eq_true rfl, Nat.le_of_ble_eq_true rfl⟩ rfl rfl (Nat.le_of_ble_eq_true rfl) hc1 hc2 dL_law_206 ?_
  refine l_aload_n (pc := 209) C dL_law_209 rfl 2 rfl ?_
  refine l_aload_n (pc := 210) C dL_law_210 rfl 0 rfl ?_
  refine l_iload_n (pc := 211) C dL_law_211 rfl 3 rfl ?_
  refine l_iconst (pc := 212) C (v := 1) dL_law_212 (by decide) ?_
  refine l_iadd (pc := 213) C dL_law_213 ?_
  refine l_sld (pc := 214) C (hv 1 (by decide)) dL_law_214 ?_
  refine l_callMi (pc := 215) C (As := [.int (xs (v3 + 1).toNatClampNeg)]) (n := 1) (st := [.int r]) (nX8_feed l ZM eb) gw_X8_feed rfl rfl rfl (by decide +kernel) ⟨Nat.le_of_ble_eq_true rfl, Nat.le_of_ble_eq_true rfl⟩ rfl rfl (Nat.le_of_ble_eq_true rfl) hc1 hc2 dL_law_215 ?_
  refine l_icmp_eq (pc := 218) C (tgt := 1334) dL_law_218 (by decide) (fun _ => ?_) (fun h => absurd rfl h)
  exact kk _ _ hI2
set_option maxHeartbeats 1000000 in
theorem case_1 {p : Program} {l : Launch} {e : Env} {s : State} {m : MethodId} {below : List Frame} {meth : Method} {c : Code} {b L : Nat} {xs : Nat → Int32} {ZX ZM : Sh} {kc ks : Nat} {Inv : Sg → Sg → Prop} (hS : Steps Inv) (C : CL p s m meth c b L xs ZX ZM) {σX σM : Sg} {v3 : Int32} (hI : Inv σX σM) (hv : ∀ k, k < 5 → vp_in (v3 + nI k) L) (hc1 : kc ≤ 600000) (hc2 : ks ≤ 7302250) (kk : ∀ sx sm, Inv sx sm → GL p l e s m below meth c b ZX ZM kc ks sx sm 1334 [(0, .ref b), (1, .ref (ad ZX 0)), (2, .ref (ad ZM 0)), (3, .int v3)] []) : GL p l e s m below meth c b ZX ZM kc ks σX σM 223 [(0, .ref b), (1, .ref (ad ZX 0)), (2, .ref (ad ZM 0)), (3, .int v3)] [] := by
  obtain ⟨sx, sm, r, ea, eb, hI2⟩ := hS.2.1 σX σM (xs (v3 + 1).toNatClampNeg) hI
  refine l_aload_n (pc := 223) C dL_law_223 rfl 1 rfl ?_
  refine l_aload_n (pc := 224) C dL_law_224 rfl 0 rfl ?_
  refine l_iload_n (pc := 225) C dL_law_225 rfl 3 rfl ?_
  refine l_iconst (pc := 226) C (v := 1) dL_law_226 (by decide) ?_
  refine l_iadd (pc := 227) C dL_law_227 ?_
  refine l_sld (pc := 228) C (hv 1 (by decide)) dL_law_228 ?_
  refine l_callXi (pc := 229) C (As := [.int (xs (v3 + 1).toNatClampNeg)]) (n := 1) (st := []) (nX7_end l ZX ea) gw_X7_end rfl rfl rfl (by decide +kernel) ⟨Nat.le_of_ble_eq_true rfl, Nat.le_of_ble_eq_true rfl⟩ rfl rfl (Nat.le_of_ble_eq_true rfl) hc1 hc2 dL_law_229 ?_
  refine l_aload_n (pc := 232) C dL_law_232 rfl 2 rfl ?_
  refine l_aload_n (pc := 233) C dL_law_233 rfl 0 rfl ?_
  refine l_iload_n (pc := 234) C dL_law_234 rfl 3 rfl ?_
  refine l_iconst (pc := 235) C (v := 1) dL_law_235 (by decide) ?_
  refine l_iadd (pc := 236) C dL_law_236 ?_
  refine l_sld (pc := 237) C (hv 1 (by decide)) dL_law_237 ?_
  refine l_callMi (pc := 238) C (As := [.int (xs (v3 + 1).toNatClampNeg)]) (n := 1) (st := [.int r]) (nX8_end l ZM eb) gw_X8_end rfl rfl rfl (by decide +kernel) ⟨Nat.le_of_ble_eq_true rfl, Nat.le_of_ble_eq_true rfl⟩ rfl rfl (Nat.le_of_ble_eq_true rfl) hc1 hc2 dL_law_238 ?_
  refine l_icmp_eq (pc := 241) C (tgt := 1334) dL_law_241 (by decide) (fun _ => ?_) (fun h => absurd rfl h)
  exact kk _ _ hI2
set_option maxHeartbeats 1000000 in
theorem case_2 {p : Program} {l : Launch} {e : Env} {s : State} {m : MethodId} {below : List Frame} {meth : Method} {c : Code} {b L : Nat} {xs : Nat → Int32} {ZX ZM : Sh} {kc ks : Nat} {Inv : Sg → Sg → Prop} (hS : Steps Inv) (C : CL p s m meth c b L xs ZX ZM) {σX σM : Sg} {v3 : Int32} (hI : Inv σX σM) (hv : ∀ k, k < 5 → vp_in (v3 + nI k) L) (hc1 : kc ≤ 600000) (hc2 : ks ≤ 7302250) (kk : ∀ sx sm, Inv sx sm → GL p l e s m below meth c b ZX ZM kc ks sx sm 1334 [(0, .ref b), (1, .ref (ad ZX 0)), (2, .ref (ad ZM 0)), (3, .int v3)] []) : GL p l e s m below meth c b ZX ZM kc ks σX σM 246 [(0, .ref b), (1, .ref (ad ZX 0)), (2, .ref (ad ZM 0)), (3, .int v3)] [] := by
  obtain ⟨sx, sm, r, ea, eb, hI2⟩ := hS.2.2.1 σX σM  hI
  refine l_aload_n (pc := 246) C dL_law_246 rfl 1 rfl ?_
  refine l_callXi (pc := 247) C (As := []) (n := 0) (st := []) (nX7_text l ZX ea) gw_X7_text rfl rfl rfl (by decide +kernel) ⟨Nat.le_of_ble_eq_true rfl, Nat.le_of_ble_eq_true rfl⟩ rfl rfl (Nat.le_of_ble_eq_true rfl) hc1 hc2 dL_law_247 ?_
  refine l_aload_n (pc := 250) C dL_law_250 rfl 2 rfl ?_
  refine l_callMi (pc := 251) C (As := []) (n := 0) (st := [.int r]) (nX8_text l ZM eb) gw_X8_text rfl rfl rfl (by decide +kernel) ⟨Nat.le_of_ble_eq_true rfl, Nat.le_of_ble_eq_true rfl⟩ rfl rfl (Nat.le_of_ble_eq_true rfl) hc1 hc2 dL_law_251 ?_
  refine l_icmp_eq (pc := 254) C (tgt := 1334) dL_law_254 (by decide) (fun _ => ?_) (fun h => absurd rfl h)
  exact kk _ _ hI2
set_option maxHeartbeats 1000000 in
theorem case_3 {p : Program} {l : Launch} {e : Env} {s : State} {m : MethodId} {below : List Frame} {meth : Method} {c : Code} {b L : Nat} {xs : Nat → Int32} {ZX ZM : Sh} {kc ks : Nat} {Inv : Sg → Sg → Prop} (hS : Steps Inv) (C : CL p s m meth c b L xs ZX ZM) {σX σM : Sg} {v3 : Int32} (hI : Inv σX σM) (hv : ∀ k, k < 5 → vp_in (v3 + nI k) L) (hc1 : kc ≤ 600000) (hc2 : ks ≤ 7302250) (kk : ∀ sx sm, Inv sx sm → GL p l e s m below meth c b ZX ZM kc ks sx sm 1334 [(0, .ref b), (1, .ref (ad ZX 0)), (2, .ref (ad ZM 0)), (3, .int v3)] []) : GL p l e s m below meth c b ZX ZM kc ks σX σM 259 [(0, .ref b), (1, .ref (ad ZX 0)), (2, .ref (ad ZM 0)), (3, .int v3)] [] := by
  obtain ⟨sx, sm, r, ea, eb, hI2⟩ := hS.2.2.2.1 σX σM  hI
  refine l_aload_n (pc := 259) C dL_law_259 rfl 1 rfl ?_
  refine l_callXi (pc := 260) C (As := []) (n := 0) (st := []) (nX7_fault l ZX ea) gw_X7_fault rfl rfl rfl (by decide +kernel) ⟨Nat.le_of_ble_eq_true rfl, Nat.le_of_ble_eq_true rfl⟩ rfl rfl (Nat.le_of_ble_eq_true rfl) hc1 hc2 dL_law_260 ?_
  refine l_aload_n (pc := 263) C dL_law_263 rfl 2 rfl ?_
  refine l_callMi (pc := 264) C (As := []) (n := 0) (st := [.int r]) (nX8_fault l ZM eb) gw_X8_fault rfl rfl rfl (by decide +kernel) ⟨Nat.le_of_ble_eq_true rfl, Nat.le_of_ble_eq_true rfl⟩ rfl rfl (Nat.le_of_ble_eq_true rfl) hc1 hc2 dL_law_264 ?_
  refine l_icmp_eq (pc := 267) C (tgt := 1334) dL_law_267 (by decide) (fun _ => ?_) (fun h => absurd rfl h)
  exact kk _ _ hI2
set_option maxHeartbeats 1000000 in
theorem case_4 {p : Program} {l : Launch} {e : Env} {s : State} {m : MethodId} {below : List Frame} {meth : Method} {c : Code} {b L : Nat} {xs : Nat → Int32} {ZX ZM : Sh} {kc ks : Nat} {Inv : Sg → Sg → Prop} (hS : Steps Inv) (C : CL p s m meth c b L xs ZX ZM) {σX σM : Sg} {v3 : Int32} (hI : Inv σX σM) (hv : ∀ k, k < 5 → vp_in (v3 + nI k) L) (hc1 : kc ≤ 600000) (hc2 : ks ≤ 7302250) (kk : ∀ sx sm, Inv sx sm → GL p l e s m below meth c b ZX ZM kc ks sx sm 1334 [(0, .ref b), (1, .ref (ad ZX 0)), (2, .ref (ad ZM 0)), (3, .int v3)] []) : GL p l e s m below meth c b ZX ZM kc ks σX σM 272 [(0, .ref b), (1, .ref (ad ZX 0)), (2, .ref (ad ZM 0)), (3, .int v3)] [] := by
  obtain ⟨sx, sm, r, ea, eb, hI2⟩ := hS.2.2.2.2.1 σX σM (xs (v3 + 1).toNatClampNeg) hI
  refine l_aload_n (pc := 272) C dL_law_272 rfl 1 rfl ?_
  refine l_aload_n (pc := 273) C dL_law_273 rfl 0 rfl ?_
  refine l_iload_n (pc := 274) C dL_law_274 rfl 3 rfl ?_
  refine l_iconst (pc := 275) C (v := 1) dL_law_275 (by decide) ?_
  refine l_iadd (pc := 276) C dL_law_276 ?_
  refine l_sld (pc := 277) C (hv 1 (by decide)) dL_law_277 ?_
  refine l_callXi (pc := 278) C (As := [.int (xs (v3 + 1).toNatClampNeg)]) (n := 1) (st := []) (nX7_rule l ZX ea) gw_X7_rule rfl rfl rfl (by decide +kernel) ⟨Nat.le_of_ble_eq_true rfl, Nat.le_of_ble_eq_true rfl⟩ rfl rfl (Nat.le_of_ble_eq_true rfl) hc1 hc2 dL_law_278 ?_
  refine l_aload_n (pc := 281) C dL_law_281 rfl 2 rfl ?_
  refine l_aload_n (pc := 282) C dL_law_282 rfl 0 rfl ?_
  refine l_iload_n (pc := 283) C dL_law_283 rfl 3 rfl ?_
  refine l_iconst (pc := 284) C (v := 1) dL_law_284 (by decide) ?_
  refine l_iadd (pc := 285) C dL_law_285 ?_
  refine l_sld (pc := 286) C (hv 1 (by decide)) dL_law_286 ?_
  refine l_callMi (pc := 287) C (As := [.int (xs (v3 + 1).toNatClampNeg)]) (n := 1) (st := [.int r]) (nX8_rule l ZM eb) gw_X8_rule rfl rfl rfl (by decide +kernel) ⟨Nat.le_of_ble_eq_true rfl, Nat.le_of_ble_eq_true rfl⟩ rfl rfl (Nat.le_of_ble_eq_true rfl) hc1 hc2 dL_law_287 ?_
  refine l_icmp_eq (pc := 290) C (tgt := 1334) dL_law_290 (by decide) (fun _ => ?_) (fun h => absurd rfl h)
  exact kk _ _ hI2
set_option maxHeartbeats 1000000 in
theorem case_5 {p : Program} {l : Launch} {e : Env} {s : State} {m : MethodId} {below : List Frame} {meth : Method} {c : Code} {b L : Nat} {xs : Nat → Int32} {ZX ZM : Sh} {kc ks : Nat} {Inv : Sg → Sg → Prop} (hS : Steps Inv) (C : CL p s m meth c b L xs ZX ZM) {σX σM : Sg} {v3 : Int32} (hI : Inv σX σM) (hv : ∀ k, k < 5 → vp_in (v3 + nI k) L) (hc1 : kc ≤ 600000) (hc2 : ks ≤ 7302250) (kk : ∀ sx sm, Inv sx sm → GL p l e s m below meth c b ZX ZM kc ks sx sm 1334 [(0, .ref b), (1, .ref (ad ZX 0)), (2, .ref (ad ZM 0)), (3, .int v3)] []) : GL p l e s m below meth c b ZX ZM kc ks σX σM 295 [(0, .ref b), (1, .ref (ad ZX 0)), (2, .ref (ad ZM 0)), (3, .int v3)] [] := by
  obtain ⟨sx, sm, r, ea, eb, hI2⟩ := hS.2.2.2.2.2.1 σX σM (xs (v3 + 1).toNatClampNeg) (xs (v3 + 2).toNatClampNeg) hI
  refine l_aload_n (pc := 295) C dL_law_295 rfl 1 rfl ?_
  refine l_aload_n (pc := 296) C dL_law_296 rfl 0 rfl ?_
  refine l_iload_n (pc := 297) C dL_law_297 rfl 3 rfl ?_
  refine l_iconst (pc := 298) C (v := 1) dL_law_298 (by decide) ?_
  refine l_iadd (pc := 299) C dL_law_299 ?_
  refine l_sld (pc := 300) C (hv 1 (by decide)) dL_law_300 ?_
  refine l_aload_n (pc := 301) C dL_law_301 rfl 0 rfl ?_
  refine l_iload_n (pc := 302) C dL_law_302 rfl 3 rfl ?_
  refine l_iconst (pc := 303) C (v := 2) dL_law_303 (by decide) ?_
  refine l_iadd (pc := 304) C dL_law_304 ?_
  refine l_sld (pc := 305) C (hv 2 (by decide)) dL_law_305 ?_
  refine l_callXi (pc := 306) C (As := [.int (xs (v3 + 1).toNatClampNeg), .int (xs (v3 + 2).toNatClampNeg)]) (n := 2) (st := []) (nX7_lord l ZX ea) gw_X7_lord rfl rfl rfl (by decide +kernel) ⟨Nat.le_of_ble_eq_true rfl, Nat.le_of_ble_eq_true rfl⟩ rfl rfl (Nat.le_of_ble_eq_true rfl) hc1 hc2 dL_law_306 ?_
  refine l_aload_n (pc := 309) C dL_law_309 rfl 2 rfl ?_
  refine l_aload_n (pc := 310) C dL_law_310 rfl 0 rfl ?_
  refine l_iload_n (pc := 311) C dL_law_311 rfl 3 rfl ?_
  refine l_iconst (pc := 312) C (v := 1) dL_law_312 (by decide) ?_
  refine l_iadd (pc := 313) C dL_law_313 ?_
  refine l_sld (pc := 314) C (hv 1 (by decide)) dL_law_314 ?_
  refine l_aload_n (pc := 315) C dL_law_315 rfl 0 rfl ?_
  refine l_iload_n (pc := 316) C dL_law_316 rfl 3 rfl ?_
  refine l_iconst (pc := 317) C (v := 2) dL_law_317 (by decide) ?_
  refine l_iadd (pc := 318) C dL_law_318 ?_
  refine l_sld (pc := 319) C (hv 2 (by decide)) dL_law_319 ?_
  refine l_callMi (pc := 320) C (As := [.int (xs (v3 + 1).toNatClampNeg), .int (xs (v3 + 2).toNatClampNeg)]) (n := 2) (st := [.int r]) (nX8_lord l ZM eb) gw_X8_lord rfl rfl rfl (by decide +kernel) ⟨Nat.le_of_ble_eq_true rfl, Nat.le_of_ble_eq_true rfl⟩ rfl rfl (Nat.le_of_ble_eq_true rfl) hc1 hc2 dL_law_320 ?_
  refine l_icmp_eq (pc := 323) C (tgt := 1334) dL_law_323 (by decide) (fun _ => ?_) (fun h => absurd rfl h)
  exact kk _ _ hI2
set_option maxHeartbeats 1000000 in
theorem case_6 {p : Program} {l : Launch} {e : Env} {s : State} {m : MethodId} {below : List Frame} {meth : Method} {c : Code} {b L : Nat} {xs : Nat → Int32} {ZX ZM : Sh} {kc ks : Nat} {Inv : Sg → Sg → Prop} (hS : Steps Inv) (C : CL p s m meth c b L xs ZX ZM) {σX σM : Sg} {v3 : Int32} (hI : Inv σX σM) (hv : ∀ k, k < 5 → vp_in (v3 + nI k) L) (hc1 : kc ≤ 600000) (hc2 : ks ≤ 7302250) (kk : ∀ sx sm, Inv sx sm → GL p l e s m below meth c b ZX ZM kc ks sx sm 1334 [(0, .ref b), (1, .ref (ad ZX 0)), (2, .ref (ad ZM 0)), (3, .int v3)] []) : GL p l e s m below meth c b ZX ZM kc ks σX σM 328 [(0, .ref b), (1, .ref (ad ZX 0)), (2, .ref (ad ZM 0)), (3, .int v3)] [] := by
  obtain ⟨sx, sm, r, ea, eb, hI2⟩ := hS.2.2.2.2.2.2.1 σX σM (xs (v3 + 1).toNatClampNeg) (xs (v3 + 2).toNatClampNeg) hI
  refine l_aload_n (pc := 328) C dL_law_328 rfl 1 rfl ?_
  refine l_aload_n (pc := 329) C dL_law_329 rfl 0 rfl ?_
  refine l_iload_n (pc := 330) C dL_law_330 rfl 3 rfl ?_
  refine l_iconst (pc := 331) C (v := 1) dL_law_331 (by decide) ?_
  refine l_iadd (pc := 332) C dL_law_332 ?_
  refine l_sld (pc := 333) C (hv 1 (by decide)) dL_law_333 ?_
  refine l_aload_n (pc := 334) C dL_law_334 rfl 0 rfl ?_
  refine l_iload_n (pc := 335) C dL_law_335 rfl 3 rfl ?_
  refine l_iconst (pc := 336) C (v := 2) dL_law_336 (by decide) ?_
  refine l_iadd (pc := 337) C dL_law_337 ?_
  refine l_sld (pc := 338) C (hv 2 (by decide)) dL_law_338 ?_
  refine l_callXi (pc := 339) C (As := [.int (xs (v3 + 1).toNatClampNeg), .int (xs (v3 + 2).toNatClampNeg)]) (n := 2) (st := []) (nX7_borough l ZX ea) gw_X7_borough rfl rfl rfl (by decide +kernel) ⟨Nat.le_of_ble_eq_true rfl, Nat.le_of_ble_eq_true rfl⟩ rfl rfl (Nat.le_of_ble_eq_true rfl) hc1 hc2 dL_law_339 ?_
  refine l_aload_n (pc := 342) C dL_law_342 rfl 2 rfl ?_
  refine l_aload_n (pc := 343) C dL_law_343 rfl 0 rfl ?_
  refine l_iload_n (pc := 344) C dL_law_344 rfl 3 rfl ?_
  refine l_iconst (pc := 345) C (v := 1) dL_law_345 (by decide) ?_
  refine l_iadd (pc := 346) C dL_law_346 ?_
  refine l_sld (pc := 347) C (hv 1 (by decide)) dL_law_347 ?_
  refine l_aload_n (pc := 348) C dL_law_348 rfl 0 rfl ?_
  refine l_iload_n (pc := 349) C dL_law_349 rfl 3 rfl ?_
  refine l_iconst (pc := 350) C (v := 2) dL_law_350 (by decide) ?_
  refine l_iadd (pc := 351) C dL_law_351 ?_
  refine l_sld (pc := 352) C (hv 2 (by decide)) dL_law_352 ?_
  refine l_callMi (pc := 353) C (As := [.int (xs (v3 + 1).toNatClampNeg), .int (xs (v3 + 2).toNatClampNeg)]) (n := 2) (st := [.int r]) (nX8_borough l ZM eb) gw_X8_borough rfl rfl rfl (by decide +kernel) ⟨Nat.le_of_ble_eq_true rfl, Nat.le_of_ble_eq_true rfl⟩ rfl rfl (Nat.le_of_ble_eq_true rfl) hc1 hc2 dL_law_353 ?_
  refine l_icmp_eq (pc := 356) C (tgt := 1334) dL_law_356 (by decide) (fun _ => ?_) (fun h => absurd rfl h)
  exact kk _ _ hI2
set_option maxHeartbeats 1000000 in
theorem case_7 {p : Program} {l : Launch} {e : Env} {s : State} {m : MethodId} {below : List Frame} {meth : Method} {c : Code} {b L : Nat} {xs : Nat → Int32} {ZX ZM : Sh} {kc ks : Nat} {Inv : Sg → Sg → Prop} (hS : Steps Inv) (C : CL p s m meth c b L xs ZX ZM) {σX σM : Sg} {v3 : Int32} (hI : Inv σX σM) (hv : ∀ k, k < 5 → vp_in (v3 + nI k) L) (hc1 : kc ≤ 600000) (hc2 : ks ≤ 7302250) (kk : ∀ sx sm, Inv sx sm → GL p l e s m below meth c b ZX ZM kc ks sx sm 1334 [(0, .ref b), (1, .ref (ad ZX 0)), (2, .ref (ad ZM 0)), (3, .int v3)] []) : GL p l e s m below meth c b ZX ZM kc ks σX σM 361 [(0, .ref b), (1, .ref (ad ZX 0)), (2, .ref (ad ZM 0)), (3, .int v3)] [] := by
  obtain ⟨sx, sm, r, ea, eb, hI2⟩ := hS.2.2.2.2.2.2.2.1 σX σM (xs (v3 + 1).toNatClampNeg) (xs (v3 + 2).toNatClampNeg) (xs (v3 + 3).toNatClampNeg) hI
  refine l_aload_n (pc := 361) C dL_law_361 rfl 1 rfl ?_
  refine l_aload_n (pc := 362) C dL_law_362 rfl 0 rfl ?_
  refine l_iload_n (pc := 363) C dL_law_363 rfl 3 rfl ?_
  refine l_iconst (pc := 364) C (v := 1) dL_law_364 (by decide) ?_
  refine l_iadd (pc := 365) C dL_law_365 ?_
  refine l_sld (pc := 366) C (hv 1 (by decide)) dL_law_366 ?_
  refine l_aload_n (pc := 367) C dL_law_367 rfl 0 rfl ?_
  refine l_iload_n (pc := 368) C dL_law_368 rfl 3 rfl ?_
  refine l_iconst (pc := 369) C (v := 2) dL_law_369 (by decide) ?_
  refine l_iadd (pc := 370) C dL_law_370 ?_
  refine l_sld (pc := 371) C (hv 2 (by decide)) dL_law_371 ?_
  refine l_aload_n (pc := 372) C dL_law_372 rfl 0 rfl ?_
  refine l_iload_n (pc := 373) C dL_law_373 rfl 3 rfl ?_
  refine l_iconst (pc := 374) C (v := 3) dL_law_374 (by decide) ?_
  refine l_iadd (pc := 375) C dL_law_375 ?_
  refine l_sld (pc := 376) C (hv 3 (by decide)) dL_law_376 ?_
  refine l_callXi (pc := 377) C (As := [.int (xs (v3 + 1).toNatClampNeg), .int (xs (v3 + 2).toNatClampNeg), .int (xs (v3 + 3).toNatClampNeg)]) (n := 3) (st := []) (nX7_alter l ZX ea) gw_X7_alter rfl rfl rfl (by decide +kernel) ⟨Nat.le_of_ble_eq_true rfl, Nat.le_of_ble_eq_true rfl⟩ rfl rfl (Nat.le_of_ble_eq_true rfl) hc1 hc2 dL_law_377 ?_
  refine l_aload_n (pc := 380) C dL_law_380 rfl 2 rfl ?_
  refine l_aload_n (pc := 381) C dL_law_381 rfl 0 rfl ?_
  refine l_iload_n (pc := 382) C dL_law_382 rfl 3 rfl ?_
  refine l_iconst (pc := 383) C (v := 1) dL_law_383 (by decide) ?_
  refine l_iadd (pc := 384) C dL_law_384 ?_
  refine l_sld (pc := 385) C (hv 1 (by decide)) dL_law_385 ?_
  refine l_aload_n (pc := 386) C dL_law_386 rfl 0 rfl ?_
  refine l_iload_n (pc := 387) C dL_law_387 rfl 3 rfl ?_
  refine l_iconst (pc := 388) C (v := 2) dL_law_388 (by decide) ?_
  refine l_iadd (pc := 389) C dL_law_389 ?_
  refine l_sld (pc := 390) C (hv 2 (by decide)) dL_law_390 ?_
  refine l_aload_n (pc := 391) C dL_law_391 rfl 0 rfl ?_
  refine l_iload_n (pc := 392) C dL_law_392 rfl 3 rfl ?_
  refine l_iconst (pc := 393) C (v := 3) dL_law_393 (by decide) ?_
  refine l_iadd (pc := 394) C dL_law_394 ?_
  refine l_sld (pc := 395) C (hv 3 (by decide)) dL_law_395 ?_
  refine l_callMi (pc := 396) C (As := [.int (xs (v3 + 1).toNatClampNeg), .int (xs (v3 + 2).toNatClampNeg), .int (xs (v3 + 3).toNatClampNeg)]) (n := 3) (st := [.int r]) (nX8_alter l ZM eb) gw_X8_alter rfl rfl rfl (by decide +kernel) ⟨Nat.le_of_ble_eq_true rfl, Nat.le_of_ble_eq_true rfl⟩ rfl rfl (Nat.le_of_ble_eq_true rfl) hc1 hc2 dL_law_396 ?_
  refine l_icmp_eq (pc := 399) C (tgt := 1334) dL_law_399 (by decide) (fun _ => ?_) (fun h => absurd rfl h)
  exact kk _ _ hI2
set_option maxHeartbeats 1000000 in
theorem case_8 {p : Program} {l : Launch} {e : Env} {s : State} {m : MethodId} {below : List Frame} {meth : Method} {c : Code} {b L : Nat} {xs : Nat → Int32} {ZX ZM : Sh} {kc ks : Nat} {Inv : Sg → Sg → Prop} (hS : Steps Inv) (C : CL p s m meth c b L xs ZX ZM) {σX σM : Sg} {v3 : Int32} (hI : Inv σX σM) (hv : ∀ k, k < 5 → vp_in (v3 + nI k) L) (hc1 : kc ≤ 600000) (hc2 : ks ≤ 7302250) (kk : ∀ sx sm, Inv sx sm → GL p l e s m below meth c b ZX ZM kc ks sx sm 1334 [(0, .ref b), (1, .ref (ad ZX 0)), (2, .ref (ad ZM 0)), (3, .int v3)] []) : GL p l e s m below meth c b ZX ZM kc ks σX σM 404 [(0, .ref b), (1, .ref (ad ZX 0)), (2, .ref (ad ZM 0)), (3, .int v3)] [] := by
  obtain ⟨sx, sm, r, ea, eb, hI2⟩ := hS.2.2.2.2.2.2.2.2.1 σX σM (xs (v3 + 1).toNatClampNeg) (xs (v3 + 2).toNatClampNeg) hI
  refine l_aload_n (pc := 404) C dL_law_404 rfl 1 rfl ?_
  refine l_aload_n (pc := 405) C dL_law_405 rfl 0 rfl ?_
  refine l_iload_n (pc := 406) C dL_law_406 rfl 3 rfl ?_
  refine l_iconst (pc := 407) C (v := 1) dL_law_407 (by decide) ?_
  refine l_iadd (pc := 408) C dL_law_408 ?_
  refine l_sld (pc := 409) C (hv 1 (by decide)) dL_law_409 ?_
  refine l_aload_n (pc := 410) C dL_law_410 rfl 0 rfl ?_
  refine l_iload_n (pc := 411) C dL_law_411 rfl 3 rfl ?_
  refine l_iconst (pc := 412) C (v := 2) dL_law_412 (by decide) ?_
  refine l_iadd (pc := 413) C dL_law_413 ?_
  refine l_sld (pc := 414) C (hv 2 (by decide)) dL_law_414 ?_
  refine l_callXi (pc := 415) C (As := [.int (xs (v3 + 1).toNatClampNeg), .int (xs (v3 + 2).toNatClampNeg)]) (n := 2) (st := []) (nX7_give l ZX ea) gw_X7_give rfl rfl rfl (by decide +kernel) ⟨Nat.le_of_ble_eq_true rfl, Nat.le_of_ble_eq_true rfl⟩ rfl rfl (Nat.le_of_ble_eq_true rfl) hc1 hc2 dL_law_415 ?_
  refine l_aload_n (pc := 418) C dL_law_418 rfl 2 rfl ?_
  refine l_aload_n (pc := 419) C dL_law_419 rfl 0 rfl ?_
  refine l_iload_n (pc := 420) C dL_law_420 rfl 3 rfl ?_
  refine l_iconst (pc := 421) C (v := 1) dL_law_421 (by decide) ?_
  refine l_iadd (pc := 422) C dL_law_422 ?_
  refine l_sld (pc := 423) C (hv 1 (by decide)) dL_law_423 ?_
  refine l_aload_n (pc := 424) C dL_law_424 rfl 0 rfl ?_
  refine l_iload_n (pc := 425) C dL_law_425 rfl 3 rfl ?_
  refine l_iconst (pc := 426) C (v := 2) dL_law_426 (by decide) ?_
  refine l_iadd (pc := 427) C dL_law_427 ?_
  refine l_sld (pc := 428) C (hv 2 (by decide)) dL_law_428 ?_
  refine l_callMi (pc := 429) C (As := [.int (xs (v3 + 1).toNatClampNeg), .int (xs (v3 + 2).toNatClampNeg)]) (n := 2) (st := [.int r]) (nX8_give l ZM eb) gw_X8_give rfl rfl rfl (by decide +kernel) ⟨Nat.le_of_ble_eq_true rfl, Nat.le_of_ble_eq_true rfl⟩ rfl rfl (Nat.le_of_ble_eq_true rfl) hc1 hc2 dL_law_429 ?_
  refine l_icmp_eq (pc := 432) C (tgt := 1334) dL_law_432 (by decide) (fun _ => ?_) (fun h => absurd rfl h)
  exact kk _ _ hI2
set_option maxHeartbeats 1000000 in
theorem case_9 {p : Program} {l : Launch} {e : Env} {s : State} {m : MethodId} {below : List Frame} {meth : Method} {c : Code} {b L : Nat} {xs : Nat → Int32} {ZX ZM : Sh} {kc ks : Nat} {Inv : Sg → Sg → Prop} (hS : Steps Inv) (C : CL p s m meth c b L xs ZX ZM) {σX σM : Sg} {v3 : Int32} (hI : Inv σX σM) (hv : ∀ k, k < 5 → vp_in (v3 + nI k) L) (hc1 : kc ≤ 600000) (hc2 : ks ≤ 7302250) (kk : ∀ sx sm, Inv sx sm → GL p l e s m below meth c b ZX ZM kc ks sx sm 1334 [(0, .ref b), (1, .ref (ad ZX 0)), (2, .ref (ad ZM 0)), (3, .int v3)] []) : GL p l e s m below meth c b ZX ZM kc ks σX σM 437 [(0, .ref b), (1, .ref (ad ZX 0)), (2, .ref (ad ZM 0)), (3, .int v3)] [] := by
  obtain ⟨sx, sm, r, ea, eb, hI2⟩ := hS.2.2.2.2.2.2.2.2.2.1 σX σM (xs (v3 + 1).toNatClampNeg) (xs (v3 + 2).toNatClampNeg) hI
  refine l_aload_n (pc := 437) C dL_law_437 rfl 1 rfl ?_
  refine l_aload_n (pc := 438) C dL_law_438 rfl 0 rfl ?_
  refine l_iload_n (pc := 439) C dL_law_439 rfl 3 rfl ?_
  refine l_iconst (pc := 440) C (v := 1) dL_law_440 (by decide) ?_
  refine l_iadd (pc := 441) C dL_law_441 ?_
  refine l_sld (pc := 442) C (hv 1 (by decide)) dL_law_442 ?_
  refine l_aload_n (pc := 443) C dL_law_443 rfl 0 rfl ?_
  refine l_iload_n (pc := 444) C dL_law_444 rfl 3 rfl ?_
  refine l_iconst (pc := 445) C (v := 2) dL_law_445 (by decide) ?_
  refine l_iadd (pc := 446) C dL_law_446 ?_
  refine l_sld (pc := 447) C (hv 2 (by decide)) dL_law_447 ?_
  refine l_callXi (pc := 448) C (As := [.int (xs (v3 + 1).toNatClampNeg), .int (xs (v3 + 2).toNatClampNeg)]) (n := 2) (st := []) (nX7_purse l ZX ea) gw_X7_purse rfl rfl rfl (by decide +kernel) ⟨Nat.le_of_ble_eq_true rfl, Nat.le_of_ble_eq_true rfl⟩ rfl rfl (Nat.le_of_ble_eq_true rfl) hc1 hc2 dL_law_448 ?_
  refine l_aload_n (pc := 451) C dL_law_451 rfl 2 rfl ?_
  refine l_aload_n (pc := 452) C dL_law_452 rfl 0 rfl ?_
  refine l_iload_n (pc := 453) C dL_law_453 rfl 3 rfl ?_
  refine l_iconst (pc := 454) C (v := 1) dL_law_454 (by decide) ?_
  refine l_iadd (pc := 455) C dL_law_455 ?_
  refine l_sld (pc := 456) C (hv 1 (by decide)) dL_law_456 ?_
  refine l_aload_n (pc := 457) C dL_law_457 rfl 0 rfl ?_
  refine l_iload_n (pc := 458) C dL_law_458 rfl 3 rfl ?_
  refine l_iconst (pc := 459) C (v := 2) dL_law_459 (by decide) ?_
  refine l_iadd (pc := 460) C dL_law_460 ?_
  refine l_sld (pc := 461) C (hv 2 (by decide)) dL_law_461 ?_
  refine l_callMi (pc := 462) C (As := [.int (xs (v3 + 1).toNatClampNeg), .int (xs (v3 + 2).toNatClampNeg)]) (n := 2) (st := [.int r]) (nX8_purse l ZM eb) gw_X8_purse rfl rfl rfl (by decide +kernel) ⟨Nat.le_of_ble_eq_true rfl, Nat.le_of_ble_eq_true rfl⟩ rfl rfl (Nat.le_of_ble_eq_true rfl) hc1 hc2 dL_law_462 ?_
  refine l_icmp_eq (pc := 465) C (tgt := 1334) dL_law_465 (by decide) (fun _ => ?_) (fun h => absurd rfl h)
  exact kk _ _ hI2
set_option maxHeartbeats 1000000 in
theorem case_10 {p : Program} {l : Launch} {e : Env} {s : State} {m : MethodId} {below : List Frame} {meth : Method} {c : Code} {b L : Nat} {xs : Nat → Int32} {ZX ZM : Sh} {kc ks : Nat} {Inv : Sg → Sg → Prop} (hS : Steps Inv) (C : CL p s m meth c b L xs ZX ZM) {σX σM : Sg} {v3 : Int32} (hI : Inv σX σM) (hv : ∀ k, k < 5 → vp_in (v3 + nI k) L) (hc1 : kc ≤ 600000) (hc2 : ks ≤ 7302250) (kk : ∀ sx sm, Inv sx sm → GL p l e s m below meth c b ZX ZM kc ks sx sm 1334 [(0, .ref b), (1, .ref (ad ZX 0)), (2, .ref (ad ZM 0)), (3, .int v3)] []) : GL p l e s m below meth c b ZX ZM kc ks σX σM 470 [(0, .ref b), (1, .ref (ad ZX 0)), (2, .ref (ad ZM 0)), (3, .int v3)] [] := by
  obtain ⟨sx, sm, r, ea, eb, hI2⟩ := hS.2.2.2.2.2.2.2.2.2.2.1 σX σM (xs (v3 + 1).toNatClampNeg) hI
  refine l_aload_n (pc := 470) C dL_law_470 rfl 1 rfl ?_
  refine l_aload_n (pc := 471) C dL_law_471 rfl 0 rfl ?_
  refine l_iload_n (pc := 472) C dL_law_472 rfl 3 rfl ?_
  refine l_iconst (pc := 473) C (v := 1) dL_law_473 (by decide) ?_
  refine l_iadd (pc := 474) C dL_law_474 ?_
  refine l_sld (pc := 475) C (hv 1 (by decide)) dL_law_475 ?_
  refine l_callXi (pc := 476) C (As := [.int (xs (v3 + 1).toNatClampNeg)]) (n := 1) (st := []) (nX7_price l ZX ea) gw_X7_price rfl rfl rfl (by decide +kernel) ⟨Nat.le_of_ble_eq_true rfl, Nat.le_of_ble_eq_true rfl⟩ rfl rfl (Nat.le_of_ble_eq_true rfl) hc1 hc2 dL_law_476 ?_
  refine l_aload_n (pc := 479) C dL_law_479 rfl 2 rfl ?_
  refine l_aload_n (pc := 480) C dL_law_480 rfl 0 rfl ?_
  refine l_iload_n (pc := 481) C dL_law_481 rfl 3 rfl ?_
  refine l_iconst (pc := 482) C (v := 1) dL_law_482 (by decide) ?_
  refine l_iadd (pc := 483) C dL_law_483 ?_
  refine l_sld (pc := 484) C (hv 1 (by decide)) dL_law_484 ?_
  refine l_callMi (pc := 485) C (As := [.int (xs (v3 + 1).toNatClampNeg)]) (n := 1) (st := [.int r]) (nX8_price l ZM eb) gw_X8_price rfl rfl rfl (by decide +kernel) ⟨Nat.le_of_ble_eq_true rfl, Nat.le_of_ble_eq_true rfl⟩ rfl rfl (Nat.le_of_ble_eq_true rfl) hc1 hc2 dL_law_485 ?_
  refine l_icmp_eq (pc := 488) C (tgt := 1334) dL_law_488 (by decide) (fun _ => ?_) (fun h => absurd rfl h)
  exact kk _ _ hI2
set_option maxHeartbeats 1000000 in
theorem case_11 {p : Program} {l : Launch} {e : Env} {s : State} {m : MethodId} {below : List Frame} {meth : Method} {c : Code} {b L : Nat} {xs : Nat → Int32} {ZX ZM : Sh} {kc ks : Nat} {Inv : Sg → Sg → Prop} (hS : Steps Inv) (C : CL p s m meth c b L xs ZX ZM) {σX σM : Sg} {v3 : Int32} (hI : Inv σX σM) (hv : ∀ k, k < 5 → vp_in (v3 + nI k) L) (hc1 : kc ≤ 600000) (hc2 : ks ≤ 7302250) (kk : ∀ sx sm, Inv sx sm → GL p l e s m below meth c b ZX ZM kc ks sx sm 1334 [(0, .ref b), (1, .ref (ad ZX 0)), (2, .ref (ad ZM 0)), (3, .int v3)] []) : GL p l e s m below meth c b ZX ZM kc ks σX σM 493 [(0, .ref b), (1, .ref (ad ZX 0)), (2, .ref (ad ZM 0)), (3, .int v3)] [] := by
  obtain ⟨sx, sm, r, ea, eb, hI2⟩ := hS.2.2.2.2.2.2.2.2.2.2.2.1 σX σM (xs (v3 + 1).toNatClampNeg) (xs (v3 + 2).toNatClampNeg) hI
  refine l_aload_n (pc := 493) C dL_law_493 rfl 1 rfl ?_
  refine l_aload_n (pc := 494) C dL_law_494 rfl 0 rfl ?_
  refine l_iload_n (pc := 495) C dL_law_495 rfl 3 rfl ?_
  refine l_iconst (pc := 496) C (v := 1) dL_law_496 (by decide) ?_
  refine l_iadd (pc := 497) C dL_law_497 ?_
  refine l_sld (pc := 498) C (hv 1 (by decide)) dL_law_498 ?_
  refine l_aload_n (pc := 499) C dL_law_499 rfl 0 rfl ?_
  refine l_iload_n (pc := 500) C dL_law_500 rfl 3 rfl ?_
  refine l_iconst (pc := 501) C (v := 2) dL_law_501 (by decide) ?_
  refine l_iadd (pc := 502) C dL_law_502 ?_
  refine l_sld (pc := 503) C (hv 2 (by decide)) dL_law_503 ?_
  refine l_callXi (pc := 504) C (As := [.int (xs (v3 + 1).toNatClampNeg), .int (xs (v3 + 2).toNatClampNeg)]) (n := 2) (st := []) (nX7_buy l ZX ea) gw_X7_buy rfl rfl rfl (by decide +kernel) ⟨Nat.le_of_ble_eq_true rfl, Nat.le_of_ble_eq_true rfl⟩ rfl rfl (Nat.le_of_ble_eq_true rfl) hc1 hc2 dL_law_504 ?_
  refine l_aload_n (pc := 507) C dL_law_507 rfl 2 rfl ?_
  refine l_aload_n (pc := 508) C dL_law_508 rfl 0 rfl ?_
  refine l_iload_n (pc := 509) C dL_law_509 rfl 3 rfl ?_
  refine l_iconst (pc := 510) C (v := 1) dL_law_510 (by decide) ?_
  refine l_iadd (pc := 511) C dL_law_511 ?_
  refine l_sld (pc := 512) C (hv 1 (by decide)) dL_law_512 ?_
  refine l_aload_n (pc := 513) C dL_law_513 rfl 0 rfl ?_
  refine l_iload_n (pc := 514) C dL_law_514 rfl 3 rfl ?_
  refine l_iconst (pc := 515) C (v := 2) dL_law_515 (by decide) ?_
  refine l_iadd (pc := 516) C dL_law_516 ?_
  refine l_sld (pc := 517) C (hv 2 (by decide)) dL_law_517 ?_
  refine l_callMi (pc := 518) C (As := [.int (xs (v3 + 1).toNatClampNeg), .int (xs (v3 + 2).toNatClampNeg)]) (n := 2) (st := [.int r]) (nX8_buy l ZM eb) gw_X8_buy rfl rfl rfl (by decide +kernel) ⟨Nat.le_of_ble_eq_true rfl, Nat.le_of_ble_eq_true rfl⟩ rfl rfl (Nat.le_of_ble_eq_true rfl) hc1 hc2 dL_law_518 ?_
  refine l_icmp_eq (pc := 521) C (tgt := 1334) dL_law_521 (by decide) (fun _ => ?_) (fun h => absurd rfl h)
  exact kk _ _ hI2
set_option maxHeartbeats 1000000 in
theorem case_12 {p : Program} {l : Launch} {e : Env} {s : State} {m : MethodId} {below : List Frame} {meth : Method} {c : Code} {b L : Nat} {xs : Nat → Int32} {ZX ZM : Sh} {kc ks : Nat} {Inv : Sg → Sg → Prop} (hS : Steps Inv) (C : CL p s m meth c b L xs ZX ZM) {σX σM : Sg} {v3 : Int32} (hI : Inv σX σM) (hv : ∀ k, k < 5 → vp_in (v3 + nI k) L) (hc1 : kc ≤ 600000) (hc2 : ks ≤ 7302250) (kk : ∀ sx sm, Inv sx sm → GL p l e s m below meth c b ZX ZM kc ks sx sm 1334 [(0, .ref b), (1, .ref (ad ZX 0)), (2, .ref (ad ZM 0)), (3, .int v3)] []) : GL p l e s m below meth c b ZX ZM kc ks σX σM 526 [(0, .ref b), (1, .ref (ad ZX 0)), (2, .ref (ad ZM 0)), (3, .int v3)] [] := by
  obtain ⟨sx, sm, r, ea, eb, hI2⟩ := hS.2.2.2.2.2.2.2.2.2.2.2.2.1 σX σM (xs (v3 + 1).toNatClampNeg) hI
  refine l_aload_n (pc := 526) C dL_law_526 rfl 1 rfl ?_
  refine l_aload_n (pc := 527) C dL_law_527 rfl 0 rfl ?_
  refine l_iload_n (pc := 528) C dL_law_528 rfl 3 rfl ?_
  refine l_iconst (pc := 529) C (v := 1) dL_law_529 (by decide) ?_
  refine l_iadd (pc := 530) C dL_law_530 ?_
  refine l_sld (pc := 531) C (hv 1 (by decide)) dL_law_531 ?_
  refine l_callXi (pc := 532) C (As := [.int (xs (v3 + 1).toNatClampNeg)]) (n := 1) (st := []) (nX7_take l ZX ea) gw_X7_take rfl rfl rfl (by decide +kernel) ⟨Nat.le_of_ble_eq_true rfl, Nat.le_of_ble_eq_true rfl⟩ rfl rfl (Nat.le_of_ble_eq_true rfl) hc1 hc2 dL_law_532 ?_
  refine l_aload_n (pc := 535) C dL_law_535 rfl 2 rfl ?_
  refine l_aload_n (pc := 536) C dL_law_536 rfl 0 rfl ?_
  refine l_iload_n (pc := 537) C dL_law_537 rfl 3 rfl ?_
  refine l_iconst (pc := 538) C (v := 1) dL_law_538 (by decide) ?_
  refine l_iadd (pc := 539) C dL_law_539 ?_
  refine l_sld (pc := 540) C (hv 1 (by decide)) dL_law_540 ?_
  refine l_callMi (pc := 541) C (As := [.int (xs (v3 + 1).toNatClampNeg)]) (n := 1) (st := [.int r]) (nX8_take l ZM eb) gw_X8_take rfl rfl rfl (by decide +kernel) ⟨Nat.le_of_ble_eq_true rfl, Nat.le_of_ble_eq_true rfl⟩ rfl rfl (Nat.le_of_ble_eq_true rfl) hc1 hc2 dL_law_541 ?_
  refine l_icmp_eq (pc := 544) C (tgt := 1334) dL_law_544 (by decide) (fun _ => ?_) (fun h => absurd rfl h)
  exact kk _ _ hI2
set_option maxHeartbeats 1000000 in
theorem case_13 {p : Program} {l : Launch} {e : Env} {s : State} {m : MethodId} {below : List Frame} {meth : Method} {c : Code} {b L : Nat} {xs : Nat → Int32} {ZX ZM : Sh} {kc ks : Nat} {Inv : Sg → Sg → Prop} (hS : Steps Inv) (C : CL p s m meth c b L xs ZX ZM) {σX σM : Sg} {v3 : Int32} (hI : Inv σX σM) (hv : ∀ k, k < 5 → vp_in (v3 + nI k) L) (hc1 : kc ≤ 600000) (hc2 : ks ≤ 7302250) (kk : ∀ sx sm, Inv sx sm → GL p l e s m below meth c b ZX ZM kc ks sx sm 1334 [(0, .ref b), (1, .ref (ad ZX 0)), (2, .ref (ad ZM 0)), (3, .int v3)] []) : GL p l e s m below meth c b ZX ZM kc ks σX σM 549 [(0, .ref b), (1, .ref (ad ZX 0)), (2, .ref (ad ZM 0)), (3, .int v3)] [] := by
  obtain ⟨sx, sm, r, ea, eb, hI2⟩ := hS.2.2.2.2.2.2.2.2.2.2.2.2.2.1 σX σM (xs (v3 + 1).toNatClampNeg) (xs (v3 + 2).toNatClampNeg) hI
  refine l_aload_n (pc := 549) C dL_law_549 rfl 1 rfl ?_
  refine l_aload_n (pc := 550) C dL_law_550 rfl 0 rfl ?_
  refine l_iload_n (pc := 551) C dL_law_551 rfl 3 rfl ?_
  refine l_iconst (pc := 552) C (v := 1) dL_law_552 (by decide) ?_
  refine l_iadd (pc := 553) C dL_law_553 ?_
  refine l_sld (pc := 554) C (hv 1 (by decide)) dL_law_554 ?_
  refine l_aload_n (pc := 555) C dL_law_555 rfl 0 rfl ?_
  refine l_iload_n (pc := 556) C dL_law_556 rfl 3 rfl ?_
  refine l_iconst (pc := 557) C (v := 2) dL_law_557 (by decide) ?_
  refine l_iadd (pc := 558) C dL_law_558 ?_
  refine l_sld (pc := 559) C (hv 2 (by decide)) dL_law_559 ?_
  refine l_callXi (pc := 560) C (As := [.int (xs (v3 + 1).toNatClampNeg), .int (xs (v3 + 2).toNatClampNeg)]) (n := 2) (st := []) (nX7_carry l ZX ea) gw_X7_carry rfl rfl rfl (by decide +kernel) ⟨Nat.le_of_ble_eq_true rfl, Nat.le_of_ble_eq_true rfl⟩ rfl rfl (Nat.le_of_ble_eq_true rfl) hc1 hc2 dL_law_560 ?_
  refine l_aload_n (pc := 563) C dL_law_563 rfl 2 rfl ?_
  refine l_aload_n (pc := 564) C dL_law_564 rfl 0 rfl ?_
  refine l_iload_n (pc := 565) C dL_law_565 rfl 3 rfl ?_
  refine l_iconst (pc := 566) C (v := 1) dL_law_566 (by decide) ?_
  refine l_iadd (pc := 567) C dL_law_567 ?_
  refine l_sld (pc := 568) C (hv 1 (by decide)) dL_law_568 ?_
  refine l_aload_n (pc := 569) C dL_law_569 rfl 0 rfl ?_
  refine l_iload_n (pc := 570) C dL_law_570 rfl 3 rfl ?_
  refine l_iconst (pc := 571) C (v := 2) dL_law_571 (by decide) ?_
  refine l_iadd (pc := 572) C dL_law_572 ?_
  refine l_sld (pc := 573) C (hv 2 (by decide)) dL_law_573 ?_
  refine l_callMi (pc := 574) C (As := [.int (xs (v3 + 1).toNatClampNeg), .int (xs (v3 + 2).toNatClampNeg)]) (n := 2) (st := [.int r]) (nX8_carry l ZM eb) gw_X8_carry rfl rfl rfl (by decide +kernel) ⟨Nat.le_of_ble_eq_true rfl, Nat.le_of_ble_eq_true rfl⟩ rfl rfl (Nat.le_of_ble_eq_true rfl) hc1 hc2 dL_law_574 ?_
  refine l_icmp_eq (pc := 577) C (tgt := 1334) dL_law_577 (by decide) (fun _ => ?_) (fun h => absurd rfl h)
  exact kk _ _ hI2
set_option maxHeartbeats 1000000 in
theorem case_14 {p : Program} {l : Launch} {e : Env} {s : State} {m : MethodId} {below : List Frame} {meth : Method} {c : Code} {b L : Nat} {xs : Nat → Int32} {ZX ZM : Sh} {kc ks : Nat} {Inv : Sg → Sg → Prop} (hS : Steps Inv) (C : CL p s m meth c b L xs ZX ZM) {σX σM : Sg} {v3 : Int32} (hI : Inv σX σM) (hv : ∀ k, k < 5 → vp_in (v3 + nI k) L) (hc1 : kc ≤ 600000) (hc2 : ks ≤ 7302250) (kk : ∀ sx sm, Inv sx sm → GL p l e s m below meth c b ZX ZM kc ks sx sm 1334 [(0, .ref b), (1, .ref (ad ZX 0)), (2, .ref (ad ZM 0)), (3, .int v3)] []) : GL p l e s m below meth c b ZX ZM kc ks σX σM 582 [(0, .ref b), (1, .ref (ad ZX 0)), (2, .ref (ad ZM 0)), (3, .int v3)] [] := by
  obtain ⟨sx, sm, r, ea, eb, hI2⟩ := hS.2.2.2.2.2.2.2.2.2.2.2.2.2.2.1 σX σM (xs (v3 + 1).toNatClampNeg) hI
  refine l_aload_n (pc := 582) C dL_law_582 rfl 1 rfl ?_
  refine l_aload_n (pc := 583) C dL_law_583 rfl 0 rfl ?_
  refine l_iload_n (pc := 584) C dL_law_584 rfl 3 rfl ?_
  refine l_iconst (pc := 585) C (v := 1) dL_law_585 (by decide) ?_
  refine l_iadd (pc := 586) C dL_law_586 ?_
  refine l_sld (pc := 587) C (hv 1 (by decide)) dL_law_587 ?_
  refine l_callXi (pc := 588) C (As := [.int (xs (v3 + 1).toNatClampNeg)]) (n := 1) (st := []) (nX7_swings l ZX ea) gw_X7_swings rfl rfl rfl (by decide +kernel) ⟨Nat.le_of_ble_eq_true rfl, Nat.le_of_ble_eq_true rfl⟩ rfl rfl (Nat.le_of_ble_eq_true rfl) hc1 hc2 dL_law_588 ?_
  refine l_aload_n (pc := 591) C dL_law_591 rfl 2 rfl ?_
  refine l_aload_n (pc := 592) C dL_law_592 rfl 0 rfl ?_
  refine l_iload_n (pc := 593) C dL_law_593 rfl 3 rfl ?_
  refine l_iconst (pc := 594) C (v := 1) dL_law_594 (by decide) ?_
  refine l_iadd (pc := 595) C dL_law_595 ?_
  refine l_sld (pc := 596) C (hv 1 (by decide)) dL_law_596 ?_
  refine l_callMi (pc := 597) C (As := [.int (xs (v3 + 1).toNatClampNeg)]) (n := 1) (st := [.int r]) (nX8_swings l ZM eb) gw_X8_swings rfl rfl rfl (by decide +kernel) ⟨Nat.le_of_ble_eq_true rfl, Nat.le_of_ble_eq_true rfl⟩ rfl rfl (Nat.le_of_ble_eq_true rfl) hc1 hc2 dL_law_597 ?_
  refine l_icmp_eq (pc := 600) C (tgt := 1334) dL_law_600 (by decide) (fun _ => ?_) (fun h => absurd rfl h)
  exact kk _ _ hI2
set_option maxHeartbeats 1000000 in
theorem case_15 {p : Program} {l : Launch} {e : Env} {s : State} {m : MethodId} {below : List Frame} {meth : Method} {c : Code} {b L : Nat} {xs : Nat → Int32} {ZX ZM : Sh} {kc ks : Nat} {Inv : Sg → Sg → Prop} (hS : Steps Inv) (C : CL p s m meth c b L xs ZX ZM) {σX σM : Sg} {v3 : Int32} (hI : Inv σX σM) (hv : ∀ k, k < 5 → vp_in (v3 + nI k) L) (hc1 : kc ≤ 600000) (hc2 : ks ≤ 7302250) (kk : ∀ sx sm, Inv sx sm → GL p l e s m below meth c b ZX ZM kc ks sx sm 1334 [(0, .ref b), (1, .ref (ad ZX 0)), (2, .ref (ad ZM 0)), (3, .int v3)] []) : GL p l e s m below meth c b ZX ZM kc ks σX σM 605 [(0, .ref b), (1, .ref (ad ZX 0)), (2, .ref (ad ZM 0)), (3, .int v3)] [] := by
  obtain ⟨sx, sm, r, ea, eb, hI2⟩ := hS.2.2.2.2.2.2.2.2.2.2.2.2.2.2.2.1 σX σM (xs (v3 + 1).toNatClampNeg) (xs (v3 + 2).toNatClampNeg) hI
  refine l_aload_n (pc := 605) C dL_law_605 rfl 1 rfl ?_
  refine l_aload_n (pc := 606) C dL_law_606 rfl 0 rfl ?_
  refine l_iload_n (pc := 607) C dL_law_607 rfl 3 rfl ?_
  refine l_iconst (pc := 608) C (v := 1) dL_law_608 (by decide) ?_
  refine l_iadd (pc := 609) C dL_law_609 ?_
  refine l_sld (pc := 610) C (hv 1 (by decide)) dL_law_610 ?_
  refine l_aload_n (pc := 611) C dL_law_611 rfl 0 rfl ?_
  refine l_iload_n (pc := 612) C dL_law_612 rfl 3 rfl ?_
  refine l_iconst (pc := 613) C (v := 2) dL_law_613 (by decide) ?_
  refine l_iadd (pc := 614) C dL_law_614 ?_
  refine l_sld (pc := 615) C (hv 2 (by decide)) dL_law_615 ?_
  refine l_callXl (pc := 616) C (As := [.int (xs (v3 + 1).toNatClampNeg), .int (xs (v3 + 2).toNatClampNeg)]) (n := 2) (st := []) (nX7_share l ZX ea) gw_X7_share rfl rfl rfl (by decide +kernel) ⟨Nat.le_of_ble_eq_true rfl, Nat.le_of_ble_eq_true rfl⟩ rfl rfl (Nat.le_of_ble_eq_true rfl) hc1 hc2 dL_law_616 ?_
  refine l_aload_n (pc := 619) C dL_law_619 rfl 2 rfl ?_
  refine l_aload_n (pc := 620) C dL_law_620 rfl 0 rfl ?_
  refine l_iload_n (pc := 621) C dL_law_621 rfl 3 rfl ?_
  refine l_iconst (pc := 622) C (v := 1) dL_law_622 (by decide) ?_
  refine l_iadd (pc := 623) C dL_law_623 ?_
  refine l_sld (pc := 624) C (hv 1 (by decide)) dL_law_624 ?_
  refine l_aload_n (pc := 625) C dL_law_625 rfl 0 rfl ?_
  refine l_iload_n (pc := 626) C dL_law_626 rfl 3 rfl ?_
  refine l_iconst (pc := 627) C (v := 2) dL_law_627 (by decide) ?_
  refine l_iadd (pc := 628) C dL_law_628 ?_
  refine l_sld (pc := 629) C (hv 2 (by decide)) dL_law_629 ?_
  refine l_callMl (pc := 630) C (As := [.int (xs (v3 + 1).toNatClampNeg), .int (xs (v3 + 2).toNatClampNeg)]) (n := 2) (st := [.long r]) (nX8_share l ZM eb) gw_X8_share rfl rfl rfl (by decide +kernel) ⟨Nat.le_of_ble_eq_true rfl, Nat.le_of_ble_eq_true rfl⟩ rfl rfl (Nat.le_of_ble_eq_true rfl) hc1 hc2 dL_law_630 ?_
  refine l_lcmp (pc := 633) C dL_law_633 ?_
  rw [lgc r]
  refine l_if_eq (pc := 634) C (tgt := 1334) dL_law_634 (by decide) (fun _ => ?_) (fun h => absurd rfl h)
  exact kk _ _ hI2
set_option maxHeartbeats 1000000 in
theorem case_16 {p : Program} {l : Launch} {e : Env} {s : State} {m : MethodId} {below : List Frame} {meth : Method} {c : Code} {b L : Nat} {xs : Nat → Int32} {ZX ZM : Sh} {kc ks : Nat} {Inv : Sg → Sg → Prop} (hS : Steps Inv) (C : CL p s m meth c b L xs ZX ZM) {σX σM : Sg} {v3 : Int32} (hI : Inv σX σM) (hv : ∀ k, k < 5 → vp_in (v3 + nI k) L) (hc1 : kc ≤ 600000) (hc2 : ks ≤ 7302250) (kk : ∀ sx sm, Inv sx sm → GL p l e s m below meth c b ZX ZM kc ks sx sm 1334 [(0, .ref b), (1, .ref (ad ZX 0)), (2, .ref (ad ZM 0)), (3, .int v3)] []) : GL p l e s m below meth c b ZX ZM kc ks σX σM 639 [(0, .ref b), (1, .ref (ad ZX 0)), (2, .ref (ad ZM 0)), (3, .int v3)] [] := by
  obtain ⟨sx, sm, r, ea, eb, hI2⟩ := hS.2.2.2.2.2.2.2.2.2.2.2.2.2.2.2.2.1 σX σM (xs (v3 + 1).toNatClampNeg) (xs (v3 + 2).toNatClampNeg) hI
  refine l_aload_n (pc := 639) C dL_law_639 rfl 1 rfl ?_
  refine l_aload_n (pc := 640) C dL_law_640 rfl 0 rfl ?_
  refine l_iload_n (pc := 641) C dL_law_641 rfl 3 rfl ?_
  refine l_iconst (pc := 642) C (v := 1) dL_law_642 (by decide) ?_
  refine l_iadd (pc := 643) C dL_law_643 ?_
  refine l_sld (pc := 644) C (hv 1 (by decide)) dL_law_644 ?_
  refine l_aload_n (pc := 645) C dL_law_645 rfl 0 rfl ?_
  refine l_iload_n (pc := 646) C dL_law_646 rfl 3 rfl ?_
  refine l_iconst (pc := 647) C (v := 2) dL_law_647 (by decide) ?_
  refine l_iadd (pc := 648) C dL_law_648 ?_
  refine l_sld (pc := 649) C (hv 2 (by decide)) dL_law_649 ?_
  refine l_callXl (pc := 650) C (As := [.int (xs (v3 + 1).toNatClampNeg), .int (xs (v3 + 2).toNatClampNeg)]) (n := 2) (st := []) (nX7_alone l ZX ea) gw_X7_alone rfl rfl rfl (by decide +kernel) ⟨Nat.le_of_ble_eq_true rfl, Nat.le_of_ble_eq_true rfl⟩ rfl rfl (Nat.le_of_ble_eq_true rfl) hc1 hc2 dL_law_650 ?_
  refine l_aload_n (pc := 653) C dL_law_653 rfl 2 rfl ?_
  refine l_aload_n (pc := 654) C dL_law_654 rfl 0 rfl ?_
  refine l_iload_n (pc := 655) C dL_law_655 rfl 3 rfl ?_
  refine l_iconst (pc := 656) C (v := 1) dL_law_656 (by decide) ?_
  refine l_iadd (pc := 657) C dL_law_657 ?_
  refine l_sld (pc := 658) C (hv 1 (by decide)) dL_law_658 ?_
  refine l_aload_n (pc := 659) C dL_law_659 rfl 0 rfl ?_
  refine l_iload_n (pc := 660) C dL_law_660 rfl 3 rfl ?_
  refine l_iconst (pc := 661) C (v := 2) dL_law_661 (by decide) ?_
  refine l_iadd (pc := 662) C dL_law_662 ?_
  refine l_sld (pc := 663) C (hv 2 (by decide)) dL_law_663 ?_
  refine l_callMl (pc := 664) C (As := [.int (xs (v3 + 1).toNatClampNeg), .int (xs (v3 + 2).toNatClampNeg)]) (n := 2) (st := [.long r]) (nX8_alone l ZM eb) gw_X8_alone rfl rfl rfl (by decide +kernel) ⟨Nat.le_of_ble_eq_true rfl, Nat.le_of_ble_eq_true rfl⟩ rfl rfl (Nat.le_of_ble_eq_true rfl) hc1 hc2 dL_law_664 ?_
  refine l_lcmp (pc := 667) C dL_law_667 ?_
  rw [lgc r]
  refine l_if_eq (pc := 668) C (tgt := 1334) dL_law_668 (by decide) (fun _ => ?_) (fun h => absurd rfl h)
  exact kk _ _ hI2
set_option maxHeartbeats 1000000 in
theorem case_17 {p : Program} {l : Launch} {e : Env} {s : State} {m : MethodId} {below : List Frame} {meth : Method} {c : Code} {b L : Nat} {xs : Nat → Int32} {ZX ZM : Sh} {kc ks : Nat} {Inv : Sg → Sg → Prop} (hS : Steps Inv) (C : CL p s m meth c b L xs ZX ZM) {σX σM : Sg} {v3 : Int32} (hI : Inv σX σM) (hv : ∀ k, k < 5 → vp_in (v3 + nI k) L) (hc1 : kc ≤ 600000) (hc2 : ks ≤ 7302250) (kk : ∀ sx sm, Inv sx sm → GL p l e s m below meth c b ZX ZM kc ks sx sm 1334 [(0, .ref b), (1, .ref (ad ZX 0)), (2, .ref (ad ZM 0)), (3, .int v3)] []) : GL p l e s m below meth c b ZX ZM kc ks σX σM 673 [(0, .ref b), (1, .ref (ad ZX 0)), (2, .ref (ad ZM 0)), (3, .int v3)] [] := by
  obtain ⟨sx, sm, r, ea, eb, hI2⟩ := hS.2.2.2.2.2.2.2.2.2.2.2.2.2.2.2.2.2.1 σX σM (xs (v3 + 1).toNatClampNeg) (xs (v3 + 2).toNatClampNeg) hI
  refine l_aload_n (pc := 673) C dL_law_673 rfl 1 rfl ?_
  refine l_aload_n (pc := 674) C dL_law_674 rfl 0 rfl ?_
  refine l_iload_n (pc := 675) C dL_law_675 rfl 3 rfl ?_
  refine l_iconst (pc := 676) C (v := 1) dL_law_676 (by decide) ?_
  refine l_iadd (pc := 677) C dL_law_677 ?_
  refine l_sld (pc := 678) C (hv 1 (by decide)) dL_law_678 ?_
  refine l_aload_n (pc := 679) C dL_law_679 rfl 0 rfl ?_
  refine l_iload_n (pc := 680) C dL_law_680 rfl 3 rfl ?_
  refine l_iconst (pc := 681) C (v := 2) dL_law_681 (by decide) ?_
  refine l_iadd (pc := 682) C dL_law_682 ?_
  refine l_sld (pc := 683) C (hv 2 (by decide)) dL_law_683 ?_
  refine l_callXi (pc := 684) C (As := [.int (xs (v3 + 1).toNatClampNeg), .int (xs (v3 + 2).toNatClampNeg)]) (n := 2) (st := []) (nX7_cheap l ZX ea) gw_X7_cheap rfl rfl rfl (by decide +kernel) ⟨Nat.le_of_ble_eq_true rfl, Nat.le_of_ble_eq_true rfl⟩ rfl rfl (Nat.le_of_ble_eq_true rfl) hc1 hc2 dL_law_684 ?_
  refine l_aload_n (pc := 687) C dL_law_687 rfl 2 rfl ?_
  refine l_aload_n (pc := 688) C dL_law_688 rfl 0 rfl ?_
  refine l_iload_n (pc := 689) C dL_law_689 rfl 3 rfl ?_
  refine l_iconst (pc := 690) C (v := 1) dL_law_690 (by decide) ?_
  refine l_iadd (pc := 691) C dL_law_691 ?_
  refine l_sld (pc := 692) C (hv 1 (by decide)) dL_law_692 ?_
  refine l_aload_n (pc := 693) C dL_law_693 rfl 0 rfl ?_
  refine l_iload_n (pc := 694) C dL_law_694 rfl 3 rfl ?_
  refine l_iconst (pc := 695) C (v := 2) dL_law_695 (by decide) ?_
  refine l_iadd (pc := 696) C dL_law_696 ?_
  refine l_sld (pc := 697) C (hv 2 (by decide)) dL_law_697 ?_
  refine l_callMi (pc := 698) C (As := [.int (xs (v3 + 1).toNatClampNeg), .int (xs (v3 + 2).toNatClampNeg)]) (n := 2) (st := [.int r]) (nX8_cheap l ZM eb) gw_X8_cheap rfl rfl rfl (by decide +kernel) ⟨Nat.le_of_ble_eq_true rfl, Nat.le_of_ble_eq_true rfl⟩ rfl rfl (Nat.le_of_ble_eq_true rfl) hc1 hc2 dL_law_698 ?_
  refine l_icmp_eq (pc := 701) C (tgt := 1334) dL_law_701 (by decide) (fun _ => ?_) (fun h => absurd rfl h)
  exact kk _ _ hI2
set_option maxHeartbeats 1000000 in
theorem case_18 {p : Program} {l : Launch} {e : Env} {s : State} {m : MethodId} {below : List Frame} {meth : Method} {c : Code} {b L : Nat} {xs : Nat → Int32} {ZX ZM : Sh} {kc ks : Nat} {Inv : Sg → Sg → Prop} (hS : Steps Inv) (C : CL p s m meth c b L xs ZX ZM) {σX σM : Sg} {v3 : Int32} (hI : Inv σX σM) (hv : ∀ k, k < 5 → vp_in (v3 + nI k) L) (hc1 : kc ≤ 600000) (hc2 : ks ≤ 7302250) (kk : ∀ sx sm, Inv sx sm → GL p l e s m below meth c b ZX ZM kc ks sx sm 1334 [(0, .ref b), (1, .ref (ad ZX 0)), (2, .ref (ad ZM 0)), (3, .int v3)] []) : GL p l e s m below meth c b ZX ZM kc ks σX σM 706 [(0, .ref b), (1, .ref (ad ZX 0)), (2, .ref (ad ZM 0)), (3, .int v3)] [] := by
  obtain ⟨sx, sm, r, ea, eb, hI2⟩ := hS.2.2.2.2.2.2.2.2.2.2.2.2.2.2.2.2.2.2.1 σX σM (xs (v3 + 1).toNatClampNeg) hI
  refine l_aload_n (pc := 706) C dL_law_706 rfl 1 rfl ?_
  refine l_aload_n (pc := 707) C dL_law_707 rfl 0 rfl ?_
  refine l_iload_n (pc := 708) C dL_law_708 rfl 3 rfl ?_
  refine l_iconst (pc := 709) C (v := 1) dL_law_709 (by decide) ?_
  refine l_iadd (pc := 710) C dL_law_710 ?_
  refine l_sld (pc := 711) C (hv 1 (by decide)) dL_law_711 ?_
  refine l_callXi (pc := 712) C (As := [.int (xs (v3 + 1).toNatClampNeg)]) (n := 1) (st := []) (nX7_able l ZX ea) gw_X7_able rfl rfl rfl (by decide +kernel) ⟨Nat.le_of_ble_eq_true rfl, Nat.le_of_ble_eq_true rfl⟩ rfl rfl (Nat.le_of_ble_eq_true rfl) hc1 hc2 dL_law_712 ?_
  refine l_aload_n (pc := 715) C dL_law_715 rfl 2 rfl ?_
  refine l_aload_n (pc := 716) C dL_law_716 rfl 0 rfl ?_
  refine l_iload_n (pc := 717) C dL_law_717 rfl 3 rfl ?_
  refine l_iconst (pc := 718) C (v := 1) dL_law_718 (by decide) ?_
  refine l_iadd (pc := 719) C dL_law_719 ?_
  refine l_sld (pc := 720) C (hv 1 (by decide)) dL_law_720 ?_
  refine l_callMi (pc := 721) C (As := [.int (xs (v3 + 1).toNatClampNeg)]) (n := 1) (st := [.int r]) (nX8_able l ZM eb) gw_X8_able rfl rfl rfl (by decide +kernel) ⟨Nat.le_of_ble_eq_true rfl, Nat.le_of_ble_eq_true rfl⟩ rfl rfl (Nat.le_of_ble_eq_true rfl) hc1 hc2 dL_law_721 ?_
  refine l_icmp_eq (pc := 724) C (tgt := 1334) dL_law_724 (by decide) (fun _ => ?_) (fun h => absurd rfl h)
  exact kk _ _ hI2
set_option maxHeartbeats 1000000 in
theorem case_19 {p : Program} {l : Launch} {e : Env} {s : State} {m : MethodId} {below : List Frame} {meth : Method} {c : Code} {b L : Nat} {xs : Nat → Int32} {ZX ZM : Sh} {kc ks : Nat} {Inv : Sg → Sg → Prop} (hS : Steps Inv) (C : CL p s m meth c b L xs ZX ZM) {σX σM : Sg} {v3 : Int32} (hI : Inv σX σM) (hv : ∀ k, k < 5 → vp_in (v3 + nI k) L) (hc1 : kc ≤ 600000) (hc2 : ks ≤ 7302250) (kk : ∀ sx sm, Inv sx sm → GL p l e s m below meth c b ZX ZM kc ks sx sm 1334 [(0, .ref b), (1, .ref (ad ZX 0)), (2, .ref (ad ZM 0)), (3, .int v3)] []) : GL p l e s m below meth c b ZX ZM kc ks σX σM 729 [(0, .ref b), (1, .ref (ad ZX 0)), (2, .ref (ad ZM 0)), (3, .int v3)] [] := by
  obtain ⟨sx, sm, r, ea, eb, hI2⟩ := hS.2.2.2.2.2.2.2.2.2.2.2.2.2.2.2.2.2.2.2.1 σX σM (xs (v3 + 1).toNatClampNeg) hI
  refine l_aload_n (pc := 729) C dL_law_729 rfl 1 rfl ?_
  refine l_aload_n (pc := 730) C dL_law_730 rfl 0 rfl ?_
  refine l_iload_n (pc := 731) C dL_law_731 rfl 3 rfl ?_
  refine l_iconst (pc := 732) C (v := 1) dL_law_732 (by decide) ?_
  refine l_iadd (pc := 733) C dL_law_733 ?_
  refine l_sld (pc := 734) C (hv 1 (by decide)) dL_law_734 ?_
  refine l_callXi (pc := 735) C (As := [.int (xs (v3 + 1).toNatClampNeg)]) (n := 1) (st := []) (nX7_climb l ZX ea) gw_X7_climb rfl rfl rfl (by decide +kernel) ⟨Nat.le_of_ble_eq_true rfl, Nat.le_of_ble_eq_true rfl⟩ rfl rfl (Nat.le_of_ble_eq_true rfl) hc1 hc2 dL_law_735 ?_
  refine l_aload_n (pc := 738) C dL_law_738 rfl 2 rfl ?_
  refine l_aload_n (pc := 739) C dL_law_739 rfl 0 rfl ?_
  refine l_iload_n (pc := 740) C dL_law_740 rfl 3 rfl ?_
  refine l_iconst (pc := 741) C (v := 1) dL_law_741 (by decide) ?_
  refine l_iadd (pc := 742) C dL_law_742 ?_
  refine l_sld (pc := 743) C (hv 1 (by decide)) dL_law_743 ?_
  refine l_callMi (pc := 744) C (As := [.int (xs (v3 + 1).toNatClampNeg)]) (n := 1) (st := [.int r]) (nX8_climb l ZM eb) gw_X8_climb rfl rfl rfl (by decide +kernel) ⟨Nat.le_of_ble_eq_true rfl, Nat.le_of_ble_eq_true rfl⟩ rfl rfl (Nat.le_of_ble_eq_true rfl) hc1 hc2 dL_law_744 ?_
  refine l_icmp_eq (pc := 747) C (tgt := 1334) dL_law_747 (by decide) (fun _ => ?_) (fun h => absurd rfl h)
  exact kk _ _ hI2
set_option maxHeartbeats 1000000 in
theorem case_20 {p : Program} {l : Launch} {e : Env} {s : State} {m : MethodId} {below : List Frame} {meth : Method} {c : Code} {b L : Nat} {xs : Nat → Int32} {ZX ZM : Sh} {kc ks : Nat} {Inv : Sg → Sg → Prop} (hS : Steps Inv) (C : CL p s m meth c b L xs ZX ZM) {σX σM : Sg} {v3 : Int32} (hI : Inv σX σM) (hv : ∀ k, k < 5 → vp_in (v3 + nI k) L) (hc1 : kc ≤ 600000) (hc2 : ks ≤ 7302250) (kk : ∀ sx sm, Inv sx sm → GL p l e s m below meth c b ZX ZM kc ks sx sm 1334 [(0, .ref b), (1, .ref (ad ZX 0)), (2, .ref (ad ZM 0)), (3, .int v3)] []) : GL p l e s m below meth c b ZX ZM kc ks σX σM 752 [(0, .ref b), (1, .ref (ad ZX 0)), (2, .ref (ad ZM 0)), (3, .int v3)] [] := by
  obtain ⟨sx, sm, r, ea, eb, hI2⟩ := hS.2.2.2.2.2.2.2.2.2.2.2.2.2.2.2.2.2.2.2.2.1 σX σM (xs (v3 + 1).toNatClampNeg) hI
  refine l_aload_n (pc := 752) C dL_law_752 rfl 1 rfl ?_
  refine l_aload_n (pc := 753) C dL_law_753 rfl 0 rfl ?_
  refine l_iload_n (pc := 754) C dL_law_754 rfl 3 rfl ?_
  refine l_iconst (pc := 755) C (v := 1) dL_law_755 (by decide) ?_
  refine l_iadd (pc := 756) C dL_law_756 ?_
  refine l_sld (pc := 757) C (hv 1 (by decide)) dL_law_757 ?_
  refine l_callXi (pc := 758) C (As := [.int (xs (v3 + 1).toNatClampNeg)]) (n := 1) (st := []) (nX7_small l ZX ea) gw_X7_small rfl rfl rfl (by decide +kernel) ⟨Nat.le_of_ble_eq_true rfl, Nat.le_of_ble_eq_true rfl⟩ rfl rfl (Nat.le_of_ble_eq_true rfl) hc1 hc2 dL_law_758 ?_
  refine l_aload_n (pc := 761) C dL_law_761 rfl 2 rfl ?_
  refine l_aload_n (pc := 762) C dL_law_762 rfl 0 rfl ?_
  refine l_iload_n (pc := 763) C dL_law_763 rfl 3 rfl ?_
  refine l_iconst (pc := 764) C (v := 1) dL_law_764 (by decide) ?_
  refine l_iadd (pc := 765) C dL_law_765 ?_
  refine l_sld (pc := 766) C (hv 1 (by decide)) dL_law_766 ?_
  refine l_callMi (pc := 767) C (As := [.int (xs (v3 + 1).toNatClampNeg)]) (n := 1) (st := [.int r]) (nX8_small l ZM eb) gw_X8_small rfl rfl rfl (by decide +kernel) ⟨Nat.le_of_ble_eq_true rfl, Nat.le_of_ble_eq_true rfl⟩ rfl rfl (Nat.le_of_ble_eq_true rfl) hc1 hc2 dL_law_767 ?_
  refine l_icmp_eq (pc := 770) C (tgt := 1334) dL_law_770 (by decide) (fun _ => ?_) (fun h => absurd rfl h)
  exact kk _ _ hI2
set_option maxHeartbeats 1000000 in
theorem case_21 {p : Program} {l : Launch} {e : Env} {s : State} {m : MethodId} {below : List Frame} {meth : Method} {c : Code} {b L : Nat} {xs : Nat → Int32} {ZX ZM : Sh} {kc ks : Nat} {Inv : Sg → Sg → Prop} (hS : Steps Inv) (C : CL p s m meth c b L xs ZX ZM) {σX σM : Sg} {v3 : Int32} (hI : Inv σX σM) (hv : ∀ k, k < 5 → vp_in (v3 + nI k) L) (hc1 : kc ≤ 600000) (hc2 : ks ≤ 7302250) (kk : ∀ sx sm, Inv sx sm → GL p l e s m below meth c b ZX ZM kc ks sx sm 1334 [(0, .ref b), (1, .ref (ad ZX 0)), (2, .ref (ad ZM 0)), (3, .int v3)] []) : GL p l e s m below meth c b ZX ZM kc ks σX σM 775 [(0, .ref b), (1, .ref (ad ZX 0)), (2, .ref (ad ZM 0)), (3, .int v3)] [] := by
  obtain ⟨sx, sm, r, ea, eb, hI2⟩ := hS.2.2.2.2.2.2.2.2.2.2.2.2.2.2.2.2.2.2.2.2.2.1 σX σM (xs (v3 + 1).toNatClampNeg) hI
  refine l_aload_n (pc := 775) C dL_law_775 rfl 1 rfl ?_
  refine l_aload_n (pc := 776) C dL_law_776 rfl 0 rfl ?_
  refine l_iload_n (pc := 777) C dL_law_777 rfl 3 rfl ?_
  refine l_iconst (pc := 778) C (v := 1) dL_law_778 (by decide) ?_
  refine l_iadd (pc := 779) C dL_law_779 ?_
  refine l_sld (pc := 780) C (hv 1 (by decide)) dL_law_780 ?_
  refine l_callXi (pc := 781) C (As := [.int (xs (v3 + 1).toNatClampNeg)]) (n := 1) (st := []) (nX7_line l ZX ea) gw_X7_line rfl rfl rfl (by decide +kernel) ⟨Nat.le_of_ble_eq_true rfl, Nat.le_of_ble_eq_true rfl⟩ rfl rfl (Nat.le_of_ble_eq_true rfl) hc1 hc2 dL_law_781 ?_
  refine l_aload_n (pc := 784) C dL_law_784 rfl 2 rfl ?_
  refine l_aload_n (pc := 785) C dL_law_785 rfl 0 rfl ?_
  refine l_iload_n (pc := 786) C dL_law_786 rfl 3 rfl ?_
  refine l_iconst (pc := 787) C (v := 1) dL_law_787 (by decide) ?_
  refine l_iadd (pc := 788) C dL_law_788 ?_
  refine l_sld (pc := 789) C (hv 1 (by decide)) dL_law_789 ?_
  refine l_callMi (pc := 790) C (As := [.int (xs (v3 + 1).toNatClampNeg)]) (n := 1) (st := [.int r]) (nX8_line l ZM eb) gw_X8_line rfl rfl rfl (by decide +kernel) ⟨Nat.le_of_ble_eq_true rfl, Nat.le_of_ble_eq_true rfl⟩ rfl rfl (Nat.le_of_ble_eq_true rfl) hc1 hc2 dL_law_790 ?_
  refine l_icmp_eq (pc := 793) C (tgt := 1334) dL_law_793 (by decide) (fun _ => ?_) (fun h => absurd rfl h)
  exact kk _ _ hI2
set_option maxHeartbeats 1000000 in
theorem case_22 {p : Program} {l : Launch} {e : Env} {s : State} {m : MethodId} {below : List Frame} {meth : Method} {c : Code} {b L : Nat} {xs : Nat → Int32} {ZX ZM : Sh} {kc ks : Nat} {Inv : Sg → Sg → Prop} (hS : Steps Inv) (C : CL p s m meth c b L xs ZX ZM) {σX σM : Sg} {v3 : Int32} (hI : Inv σX σM) (hv : ∀ k, k < 5 → vp_in (v3 + nI k) L) (hc1 : kc ≤ 600000) (hc2 : ks ≤ 7302250) (kk : ∀ sx sm, Inv sx sm → GL p l e s m below meth c b ZX ZM kc ks sx sm 1334 [(0, .ref b), (1, .ref (ad ZX 0)), (2, .ref (ad ZM 0)), (3, .int v3)] []) : GL p l e s m below meth c b ZX ZM kc ks σX σM 798 [(0, .ref b), (1, .ref (ad ZX 0)), (2, .ref (ad ZM 0)), (3, .int v3)] [] := by
  obtain ⟨sx, sm, r, ea, eb, hI2⟩ := hS.2.2.2.2.2.2.2.2.2.2.2.2.2.2.2.2.2.2.2.2.2.2.1 σX σM (xs (v3 + 1).toNatClampNeg) (xs (v3 + 2).toNatClampNeg) hI
  refine l_aload_n (pc := 798) C dL_law_798 rfl 1 rfl ?_
  refine l_aload_n (pc := 799) C dL_law_799 rfl 0 rfl ?_
  refine l_iload_n (pc := 800) C dL_law_800 rfl 3 rfl ?_
  refine l_iconst (pc := 801) C (v := 1) dL_law_801 (by decide) ?_
  refine l_iadd (pc := 802) C dL_law_802 ?_
  refine l_sld (pc := 803) C (hv 1 (by decide)) dL_law_803 ?_
  refine l_aload_n (pc := 804) C dL_law_804 rfl 0 rfl ?_
  refine l_iload_n (pc := 805) C dL_law_805 rfl 3 rfl ?_
  refine l_iconst (pc := 806) C (v := 2) dL_law_806 (by decide) ?_
  refine l_iadd (pc := 807) C dL_law_807 ?_
  refine l_sld (pc := 808) C (hv 2 (by decide)) dL_law_808 ?_
  refine l_callXi (pc := 809) C (As := [.int (xs (v3 + 1).toNatClampNeg), .int (xs (v3 + 2).toNatClampNeg)]) (n := 2) (st := []) (nX7_bribe l ZX ea) gw_X7_bribe rfl rfl rfl (by decide +kernel) ⟨Nat.le_of_ble_eq_true rfl, Nat.le_of_ble_eq_true rfl⟩ rfl rfl (Nat.le_of_ble_eq_true rfl) hc1 hc2 dL_law_809 ?_
  refine l_aload_n (pc := 812) C dL_law_812 rfl 2 rfl ?_
  refine l_aload_n (pc := 813) C dL_law_813 rfl 0 rfl ?_
  refine l_iload_n (pc := 814) C dL_law_814 rfl 3 rfl ?_
  refine l_iconst (pc := 815) C (v := 1) dL_law_815 (by decide) ?_
  refine l_iadd (pc := 816) C dL_law_816 ?_
  refine l_sld (pc := 817) C (hv 1 (by decide)) dL_law_817 ?_
  refine l_aload_n (pc := 818) C dL_law_818 rfl 0 rfl ?_
  refine l_iload_n (pc := 819) C dL_law_819 rfl 3 rfl ?_
  refine l_iconst (pc := 820) C (v := 2) dL_law_820 (by decide) ?_
  refine l_iadd (pc := 821) C dL_law_821 ?_
  refine l_sld (pc := 822) C (hv 2 (by decide)) dL_law_822 ?_
  refine l_callMi (pc := 823) C (As := [.int (xs (v3 + 1).toNatClampNeg), .int (xs (v3 + 2).toNatClampNeg)]) (n := 2) (st := [.int r]) (nX8_bribe l ZM eb) gw_X8_bribe rfl rfl rfl (by decide +kernel) ⟨Nat.le_of_ble_eq_true rfl, Nat.le_of_ble_eq_true rfl⟩ rfl rfl (Nat.le_of_ble_eq_true rfl) hc1 hc2 dL_law_823 ?_
  refine l_icmp_eq (pc := 826) C (tgt := 1334) dL_law_826 (by decide) (fun _ => ?_) (fun h => absurd rfl h)
  exact kk _ _ hI2
set_option maxHeartbeats 1000000 in
theorem case_23 {p : Program} {l : Launch} {e : Env} {s : State} {m : MethodId} {below : List Frame} {meth : Method} {c : Code} {b L : Nat} {xs : Nat → Int32} {ZX ZM : Sh} {kc ks : Nat} {Inv : Sg → Sg → Prop} (hS : Steps Inv) (C : CL p s m meth c b L xs ZX ZM) {σX σM : Sg} {v3 : Int32} (hI : Inv σX σM) (hv : ∀ k, k < 5 → vp_in (v3 + nI k) L) (hc1 : kc ≤ 600000) (hc2 : ks ≤ 7302250) (kk : ∀ sx sm, Inv sx sm → GL p l e s m below meth c b ZX ZM kc ks sx sm 1334 [(0, .ref b), (1, .ref (ad ZX 0)), (2, .ref (ad ZM 0)), (3, .int v3)] []) : GL p l e s m below meth c b ZX ZM kc ks σX σM 831 [(0, .ref b), (1, .ref (ad ZX 0)), (2, .ref (ad ZM 0)), (3, .int v3)] [] := by
  obtain ⟨sx, sm, r, ea, eb, hI2⟩ := hS.2.2.2.2.2.2.2.2.2.2.2.2.2.2.2.2.2.2.2.2.2.2.2.1 σX σM (xs (v3 + 1).toNatClampNeg) (xs (v3 + 2).toNatClampNeg) (xs (v3 + 3).toNatClampNeg) hI
  refine l_aload_n (pc := 831) C dL_law_831 rfl 1 rfl ?_
  refine l_aload_n (pc := 832) C dL_law_832 rfl 0 rfl ?_
  refine l_iload_n (pc := 833) C dL_law_833 rfl 3 rfl ?_
  refine l_iconst (pc := 834) C (v := 1) dL_law_834 (by decide) ?_
  refine l_iadd (pc := 835) C dL_law_835 ?_
  refine l_sld (pc := 836) C (hv 1 (by decide)) dL_law_836 ?_
  refine l_aload_n (pc := 837) C dL_law_837 rfl 0 rfl ?_
  refine l_iload_n (pc := 838) C dL_law_838 rfl 3 rfl ?_
  refine l_iconst (pc := 839) C (v := 2) dL_law_839 (by decide) ?_
  refine l_iadd (pc := 840) C dL_law_840 ?_
  refine l_sld (pc := 841) C (hv 2 (by decide)) dL_law_841 ?_
  refine l_aload_n (pc := 842) C dL_law_842 rfl 0 rfl ?_
  refine l_iload_n (pc := 843) C dL_law_843 rfl 3 rfl ?_
  refine l_iconst (pc := 844) C (v := 3) dL_law_844 (by decide) ?_
  refine l_iadd (pc := 845) C dL_law_845 ?_
  refine l_sld (pc := 846) C (hv 3 (by decide)) dL_law_846 ?_
  refine l_callXl (pc := 847) C (As := [.int (xs (v3 + 1).toNatClampNeg), .int (xs (v3 + 2).toNatClampNeg), .int (xs (v3 + 3).toNatClampNeg)]) (n := 3) (st := []) (nX7_luck l ZX ea) gw_X7_luck rfl rfl rfl (by decide +kernel) ⟨Nat.le_of_ble_eq_true rfl, Nat.le_of_ble_eq_true rfl⟩ rfl rfl (Nat.le_of_ble_eq_true rfl) hc1 hc2 dL_law_847 ?_
  refine l_aload_n (pc := 850) C dL_law_850 rfl 2 rfl ?_
  refine l_aload_n (pc := 851) C dL_law_851 rfl 0 rfl ?_
  refine l_iload_n (pc := 852) C dL_law_852 rfl 3 rfl ?_
  refine l_iconst (pc := 853) C (v := 1) dL_law_853 (by decide) ?_
  refine l_iadd (pc := 854) C dL_law_854 ?_
  refine l_sld (pc := 855) C (hv 1 (by decide)) dL_law_855 ?_
  refine l_aload_n (pc := 856) C dL_law_856 rfl 0 rfl ?_
  refine l_iload_n (pc := 857) C dL_law_857 rfl 3 rfl ?_
  refine l_iconst (pc := 858) C (v := 2) dL_law_858 (by decide) ?_
  refine l_iadd (pc := 859) C dL_law_859 ?_
  refine l_sld (pc := 860) C (hv 2 (by decide)) dL_law_860 ?_
  refine l_aload_n (pc := 861) C dL_law_861 rfl 0 rfl ?_
  refine l_iload_n (pc := 862) C dL_law_862 rfl 3 rfl ?_
  refine l_iconst (pc := 863) C (v := 3) dL_law_863 (by decide) ?_
  refine l_iadd (pc := 864) C dL_law_864 ?_
  refine l_sld (pc := 865) C (hv 3 (by decide)) dL_law_865 ?_
  refine l_callMl (pc := 866) C (As := [.int (xs (v3 + 1).toNatClampNeg), .int (xs (v3 + 2).toNatClampNeg), .int (xs (v3 + 3).toNatClampNeg)]) (n := 3) (st := [.long r]) (nX8_luck l ZM eb) gw_X8_luck rfl rfl rfl (by decide +kernel) ⟨Nat.le_of_ble_eq_true rfl, Nat.le_of_ble_eq_true rfl⟩ rfl rfl (Nat.le_of_ble_eq_true rfl) hc1 hc2 dL_law_866 ?_
  refine l_lcmp (pc := 869) C dL_law_869 ?_
  rw [lgc r]
  refine l_if_eq (pc := 870) C (tgt := 1334) dL_law_870 (by decide) (fun _ => ?_) (fun h => absurd rfl h)
  exact kk _ _ hI2
set_option maxHeartbeats 1000000 in
theorem case_24 {p : Program} {l : Launch} {e : Env} {s : State} {m : MethodId} {below : List Frame} {meth : Method} {c : Code} {b L : Nat} {xs : Nat → Int32} {ZX ZM : Sh} {kc ks : Nat} {Inv : Sg → Sg → Prop} (hS : Steps Inv) (C : CL p s m meth c b L xs ZX ZM) {σX σM : Sg} {v3 : Int32} (hI : Inv σX σM) (hv : ∀ k, k < 5 → vp_in (v3 + nI k) L) (hc1 : kc ≤ 600000) (hc2 : ks ≤ 7302250) (kk : ∀ sx sm, Inv sx sm → GL p l e s m below meth c b ZX ZM kc ks sx sm 1334 [(0, .ref b), (1, .ref (ad ZX 0)), (2, .ref (ad ZM 0)), (3, .int v3)] []) : GL p l e s m below meth c b ZX ZM kc ks σX σM 875 [(0, .ref b), (1, .ref (ad ZX 0)), (2, .ref (ad ZM 0)), (3, .int v3)] [] := by
  obtain ⟨sx, sm, r, ea, eb, hI2⟩ := hS.2.2.2.2.2.2.2.2.2.2.2.2.2.2.2.2.2.2.2.2.2.2.2.2.1 σX σM (xs (v3 + 1).toNatClampNeg) (xs (v3 + 2).toNatClampNeg) (xs (v3 + 3).toNatClampNeg) hI
  refine l_aload_n (pc := 875) C dL_law_875 rfl 1 rfl ?_
  refine l_aload_n (pc := 876) C dL_law_876 rfl 0 rfl ?_
  refine l_iload_n (pc := 877) C dL_law_877 rfl 3 rfl ?_
  refine l_iconst (pc := 878) C (v := 1) dL_law_878 (by decide) ?_
  refine l_iadd (pc := 879) C dL_law_879 ?_
  refine l_sld (pc := 880) C (hv 1 (by decide)) dL_law_880 ?_
  refine l_aload_n (pc := 881) C dL_law_881 rfl 0 rfl ?_
  refine l_iload_n (pc := 882) C dL_law_882 rfl 3 rfl ?_
  refine l_iconst (pc := 883) C (v := 2) dL_law_883 (by decide) ?_
  refine l_iadd (pc := 884) C dL_law_884 ?_
  refine l_sld (pc := 885) C (hv 2 (by decide)) dL_law_885 ?_
  refine l_aload_n (pc := 886) C dL_law_886 rfl 0 rfl ?_
  refine l_iload_n (pc := 887) C dL_law_887 rfl 3 rfl ?_
  refine l_iconst (pc := 888) C (v := 3) dL_law_888 (by decide) ?_
  refine l_iadd (pc := 889) C dL_law_889 ?_
  refine l_sld (pc := 890) C (hv 3 (by decide)) dL_law_890 ?_
  refine l_callXl (pc := 891) C (As := [.int (xs (v3 + 1).toNatClampNeg), .int (xs (v3 + 2).toNatClampNeg), .int (xs (v3 + 3).toNatClampNeg)]) (n := 3) (st := []) (nX7_mean l ZX ea) gw_X7_mean rfl rfl rfl (by decide +kernel) ⟨Nat.le_of_ble_eq_true rfl, Nat.le_of_ble_eq_true rfl⟩ rfl rfl (Nat.le_of_ble_eq_true rfl) hc1 hc2 dL_law_891 ?_
  refine l_aload_n (pc := 894) C dL_law_894 rfl 2 rfl ?_
  refine l_aload_n (pc := 895) C dL_law_895 rfl 0 rfl ?_
  refine l_iload_n (pc := 896) C dL_law_896 rfl 3 rfl ?_
  refine l_iconst (pc := 897) C (v := 1) dL_law_897 (by decide) ?_
  refine l_iadd (pc := 898) C dL_law_898 ?_
  refine l_sld (pc := 899) C (hv 1 (by decide)) dL_law_899 ?_
  refine l_aload_n (pc := 900) C dL_law_900 rfl 0 rfl ?_
  refine l_iload_n (pc := 901) C dL_law_901 rfl 3 rfl ?_
  refine l_iconst (pc := 902) C (v := 2) dL_law_902 (by decide) ?_
  refine l_iadd (pc := 903) C dL_law_903 ?_
  refine l_sld (pc := 904) C (hv 2 (by decide)) dL_law_904 ?_
  refine l_aload_n (pc := 905) C dL_law_905 rfl 0 rfl ?_
  refine l_iload_n (pc := 906) C dL_law_906 rfl 3 rfl ?_
  refine l_iconst (pc := 907) C (v := 3) dL_law_907 (by decide) ?_
  refine l_iadd (pc := 908) C dL_law_908 ?_
  refine l_sld (pc := 909) C (hv 3 (by decide)) dL_law_909 ?_
  refine l_callMl (pc := 910) C (As := [.int (xs (v3 + 1).toNatClampNeg), .int (xs (v3 + 2).toNatClampNeg), .int (xs (v3 + 3).toNatClampNeg)]) (n := 3) (st := [.long r]) (nX8_mean l ZM eb) gw_X8_mean rfl rfl rfl (by decide +kernel) ⟨Nat.le_of_ble_eq_true rfl, Nat.le_of_ble_eq_true rfl⟩ rfl rfl (Nat.le_of_ble_eq_true rfl) hc1 hc2 dL_law_910 ?_
  refine l_lcmp (pc := 913) C dL_law_913 ?_
  rw [lgc r]
  refine l_if_eq (pc := 914) C (tgt := 1334) dL_law_914 (by decide) (fun _ => ?_) (fun h => absurd rfl h)
  exact kk _ _ hI2
set_option maxHeartbeats 1000000 in
theorem case_25 {p : Program} {l : Launch} {e : Env} {s : State} {m : MethodId} {below : List Frame} {meth : Method} {c : Code} {b L : Nat} {xs : Nat → Int32} {ZX ZM : Sh} {kc ks : Nat} {Inv : Sg → Sg → Prop} (hS : Steps Inv) (C : CL p s m meth c b L xs ZX ZM) {σX σM : Sg} {v3 : Int32} (hI : Inv σX σM) (hv : ∀ k, k < 5 → vp_in (v3 + nI k) L) (hc1 : kc ≤ 600000) (hc2 : ks ≤ 7302250) (kk : ∀ sx sm, Inv sx sm → GL p l e s m below meth c b ZX ZM kc ks sx sm 1334 [(0, .ref b), (1, .ref (ad ZX 0)), (2, .ref (ad ZM 0)), (3, .int v3)] []) : GL p l e s m below meth c b ZX ZM kc ks σX σM 919 [(0, .ref b), (1, .ref (ad ZX 0)), (2, .ref (ad ZM 0)), (3, .int v3)] [] := by
  by_cases hz : (xs (v3 + 2).toNatClampNeg) = 0
  · obtain ⟨sx, sm, r, ea, eb, hI2⟩ := hS.2.2.2.2.2.2.2.2.2.2.2.2.2.2.2.2.2.2.2.2.2.2.2.2.2.1 σX σM (xs (v3 + 1).toNatClampNeg) 0 hI (by decide)
    refine l_aload_n (pc := 919) C dL_law_919 rfl 1 rfl ?_
    refine l_aload_n (pc := 920) C dL_law_920 rfl 0 rfl ?_
    refine l_iload_n (pc := 921) C dL_law_921 rfl 3 rfl ?_
    refine l_iconst (pc := 922) C (v := 1) dL_law_922 (by decide) ?_
    refine l_iadd (pc := 923) C dL_law_923 ?_
    refine l_sld (pc := 924) C (hv 1 (by decide)) dL_law_924 ?_
    refine l_aload_n (pc := 925) C dL_law_925 rfl 0 rfl ?_
    refine l_iload_n (pc := 926) C dL_law_926 rfl 3 rfl ?_
    refine l_iconst (pc := 927) C (v := 2) dL_law_927 (by decide) ?_
    refine l_iadd (pc := 928) C dL_law_928 ?_
    refine l_sld (pc := 929) C (hv 2 (by decide)) dL_law_929 ?_
    refine l_if_eq (pc := 930) C (tgt := 937) dL_law_930 (by decide) (fun _ => ?_) (fun h => absurd hz h)
    refine l_iconst (pc := 937) C (v := 0) dL_law_937 (by decide) ?_
    refine l_callXi (pc := 938) C (As := [.int (xs (v3 + 1).toNatClampNeg), .int 0]) (n := 2) (st := []) (nX7_see l ZX ea) gw_X7_see rfl rfl rfl (by decide +kernel) ⟨Nat.le_of_ble_eq_true rfl, Nat.le_of_ble_eq_true rfl⟩ rfl rfl (Nat.le_of_ble_eq_true rfl) hc1 hc2 dL_law_938 ?_
    refine l_aload_n (pc := 941) C dL_law_941 rfl 2 rfl ?_
    refine l_aload_n (pc := 942) C dL_law_942 rfl 0 rfl ?_
    refine l_iload_n (pc := 943) C dL_law_943 rfl 3 rfl ?_
    refine l_iconst (pc := 944) C (v := 1) dL_law_944 (by decide) ?_
    refine l_iadd (pc := 945) C dL_law_945 ?_
    refine l_sld (pc := 946) C (hv 1 (by decide)) dL_law_946 ?_
    refine l_aload_n (pc := 947) C dL_law_947 rfl 0 rfl ?_
    refine l_iload_n (pc := 948) C dL_law_948 rfl 3 rfl ?_
    refine l_iconst (pc := 949) C (v := 2) dL_law_949 (by decide) ?_
    refine l_iadd (pc := 950) C dL_law_950 ?_
    refine l_sld (pc := 951) C (hv 2 (by decide)) dL_law_951 ?_
    refine l_if_eq (pc := 952) C (tgt := 959) dL_law_952 (by decide) (fun _ => ?_) (fun h => absurd hz h)
    refine l_iconst (pc := 959) C (v := 0) dL_law_959 (by decide) ?_
    refine l_callMi (pc := 960) C (As := [.int (xs (v3 + 1).toNatClampNeg), .int 0]) (n := 2) (st := [.int r]) (nX8_see l ZM eb) gw_X8_see rfl rfl rfl (by decide +kernel) ⟨Nat.le_of_ble_eq_true rfl, Nat.le_of_ble_eq_true rfl⟩ rfl rfl (Nat.le_of_ble_eq_true rfl) hc1 hc2 dL_law_960 ?_
    refine l_icmp_eq (pc := 963) C (tgt := 1334) dL_law_963 (by decide) (fun _ => ?_) (fun h => absurd rfl h)
    exact kk _ _ hI2
  · obtain ⟨sx, sm, r, ea, eb, hI2⟩ := hS.2.2.2.2.2.2.2.2.2.2.2.2.2.2.2.2.2.2.2.2.2.2.2.2.2.1 σX σM (xs (v3 + 1).toNatClampNeg) 1 hI (by decide)
    refine l_aload_n (pc := 919) C dL_law_919 rfl 1 rfl ?_
    refine l_aload_n (pc := 920) C dL_law_920 rfl 0 rfl ?_
    refine l_iload_n (pc := 921) C dL_law_921 rfl 3 rfl ?_
    refine l_iconst (pc := 922) C (v := 1) dL_law_922 (by decide) ?_
    refine l_iadd (pc := 923) C dL_law_923 ?_
    refine l_sld (pc := 924) C (hv 1 (by decide)) dL_law_924 ?_
    refine l_aload_n (pc := 925) C dL_law_925 rfl 0 rfl ?_
    refine l_iload_n (pc := 926) C dL_law_926 rfl 3 rfl ?_
    refine l_iconst (pc := 927) C (v := 2) dL_law_927 (by decide) ?_
    refine l_iadd (pc := 928) C dL_law_928 ?_
    refine l_sld (pc := 929) C (hv 2 (by decide)) dL_law_929 ?_
    refine l_if_eq (pc := 930) C (tgt := 937) dL_law_930 (by decide) (fun h => absurd h hz) (fun _ => ?_)
    refine l_iconst (pc := 933) C (v := 1) dL_law_933 (by decide) ?_
    refine l_goto (pc := 934) C (tgt := 938) dL_law_934 (by decide) ?_
    refine l_callXi (pc := 938) C (As := [.int (xs (v3 + 1).toNatClampNeg), .int 1]) (n := 2) (st := []) (nX7_see l ZX ea) gw_X7_see rfl rfl rfl (by decide +kernel) ⟨Nat.le_of_ble_eq_true rfl, Nat.le_of_ble_eq_true rfl⟩ rfl rfl (Nat.le_of_ble_eq_true rfl) hc1 hc2 dL_law_938 ?_
    refine l_aload_n (pc := 941) C dL_law_941 rfl 2 rfl ?_
    refine l_aload_n (pc := 942) C dL_law_942 rfl 0 rfl ?_
    refine l_iload_n (pc := 943) C dL_law_943 rfl 3 rfl ?_
    refine l_iconst (pc := 944) C (v := 1) dL_law_944 (by decide) ?_
    refine l_iadd (pc := 945) C dL_law_945 ?_
    refine l_sld (pc := 946) C (hv 1 (by decide)) dL_law_946 ?_
    refine l_aload_n (pc := 947) C dL_law_947 rfl 0 rfl ?_
    refine l_iload_n (pc := 948) C dL_law_948 rfl 3 rfl ?_
    refine l_iconst (pc := 949) C (v := 2) dL_law_949 (by decide) ?_
    refine l_iadd (pc := 950) C dL_law_950 ?_
    refine l_sld (pc := 951) C (hv 2 (by decide)) dL_law_951 ?_
    refine l_if_eq (pc := 952) C (tgt := 959) dL_law_952 (by decide) (fun h => absurd h hz) (fun _ => ?_)
    refine l_iconst (pc := 955) C (v := 1) dL_law_955 (by decide) ?_
    refine l_goto (pc := 956) C (tgt := 960) dL_law_956 (by decide) ?_
    refine l_callMi (pc := 960) C (As := [.int (xs (v3 + 1).toNatClampNeg), .int 1]) (n := 2) (st := [.int r]) (nX8_see l ZM eb) gw_X8_see rfl rfl rfl (by decide +kernel) ⟨Nat.le_of_ble_eq_true rfl, Nat.le_of_ble_eq_true rfl⟩ rfl rfl (Nat.le_of_ble_eq_true rfl) hc1 hc2 dL_law_960 ?_
    refine l_icmp_eq (pc := 963) C (tgt := 1334) dL_law_963 (by decide) (fun _ => ?_) (fun h => absurd rfl h)
    exact kk _ _ hI2
set_option maxHeartbeats 1000000 in
theorem case_26 {p : Program} {l : Launch} {e : Env} {s : State} {m : MethodId} {below : List Frame} {meth : Method} {c : Code} {b L : Nat} {xs : Nat → Int32} {ZX ZM : Sh} {kc ks : Nat} {Inv : Sg → Sg → Prop} (hS : Steps Inv) (C : CL p s m meth c b L xs ZX ZM) {σX σM : Sg} {v3 : Int32} (hI : Inv σX σM) (hv : ∀ k, k < 5 → vp_in (v3 + nI k) L) (hc1 : kc ≤ 600000) (hc2 : ks ≤ 7302250) (kk : ∀ sx sm, Inv sx sm → GL p l e s m below meth c b ZX ZM kc ks sx sm 1334 [(0, .ref b), (1, .ref (ad ZX 0)), (2, .ref (ad ZM 0)), (3, .int v3)] []) : GL p l e s m below meth c b ZX ZM kc ks σX σM 968 [(0, .ref b), (1, .ref (ad ZX 0)), (2, .ref (ad ZM 0)), (3, .int v3)] [] := by
  obtain ⟨sx, sm, r, ea, eb, hI2⟩ := hS.2.2.2.2.2.2.2.2.2.2.2.2.2.2.2.2.2.2.2.2.2.2.2.2.2.2.1 σX σM (xs (v3 + 1).toNatClampNeg) hI
  refine l_aload_n (pc := 968) C dL_law_968 rfl 1 rfl ?_
  refine l_aload_n (pc := 969) C dL_law_969 rfl 0 rfl ?_
  refine l_iload_n (pc := 970) C dL_law_970 rfl 3 rfl ?_
  refine l_iconst (pc := 971) C (v := 1) dL_law_971 (by decide) ?_
  refine l_iadd (pc := 972) C dL_law_972 ?_
  refine l_sld (pc := 973) C (hv 1 (by decide)) dL_law_973 ?_
  refine l_callXi (pc := 974) C (As := [.int (xs (v3 + 1).toNatClampNeg)]) (n := 1) (st := []) (nX7_forget l ZX ea) gw_X7_forget rfl rfl rfl (by decide +kernel) ⟨Nat.le_of_ble_eq_true rfl, Nat.le_of_ble_eq_true rfl⟩ rfl rfl (Nat.le_of_ble_eq_true rfl) hc1 hc2 dL_law_974 ?_
  refine l_aload_n (pc := 977) C dL_law_977 rfl 2 rfl ?_
  refine l_aload_n (pc := 978) C dL_law_978 rfl 0 rfl ?_
  refine l_iload_n (pc := 979) C dL_law_979 rfl 3 rfl ?_
  refine l_iconst (pc := 980) C (v := 1) dL_law_980 (by decide) ?_
  refine l_iadd (pc := 981) C dL_law_981 ?_
  refine l_sld (pc := 982) C (hv 1 (by decide)) dL_law_982 ?_
  refine l_callMi (pc := 983) C (As := [.int (xs (v3 + 1).toNatClampNeg)]) (n := 1) (st := [.int r]) (nX8_forget l ZM eb) gw_X8_forget rfl rfl rfl (by decide +kernel) ⟨Nat.le_of_ble_eq_true rfl, Nat.le_of_ble_eq_true rfl⟩ rfl rfl (Nat.le_of_ble_eq_true rfl) hc1 hc2 dL_law_983 ?_
  refine l_icmp_eq (pc := 986) C (tgt := 1334) dL_law_986 (by decide) (fun _ => ?_) (fun h => absurd rfl h)
  exact kk _ _ hI2
set_option maxHeartbeats 1000000 in
theorem case_27 {p : Program} {l : Launch} {e : Env} {s : State} {m : MethodId} {below : List Frame} {meth : Method} {c : Code} {b L : Nat} {xs : Nat → Int32} {ZX ZM : Sh} {kc ks : Nat} {Inv : Sg → Sg → Prop} (hS : Steps Inv) (C : CL p s m meth c b L xs ZX ZM) {σX σM : Sg} {v3 : Int32} (hI : Inv σX σM) (hv : ∀ k, k < 5 → vp_in (v3 + nI k) L) (hc1 : kc ≤ 600000) (hc2 : ks ≤ 7302250) (kk : ∀ sx sm, Inv sx sm → GL p l e s m below meth c b ZX ZM kc ks sx sm 1334 [(0, .ref b), (1, .ref (ad ZX 0)), (2, .ref (ad ZM 0)), (3, .int v3)] []) : GL p l e s m below meth c b ZX ZM kc ks σX σM 991 [(0, .ref b), (1, .ref (ad ZX 0)), (2, .ref (ad ZM 0)), (3, .int v3)] [] := by
  obtain ⟨sx, sm, r, ea, eb, hI2⟩ := hS.2.2.2.2.2.2.2.2.2.2.2.2.2.2.2.2.2.2.2.2.2.2.2.2.2.2.2.1 σX σM (xs (v3 + 1).toNatClampNeg) hI
  refine l_aload_n (pc := 991) C dL_law_991 rfl 1 rfl ?_
  refine l_aload_n (pc := 992) C dL_law_992 rfl 0 rfl ?_
  refine l_iload_n (pc := 993) C dL_law_993 rfl 3 rfl ?_
  refine l_iconst (pc := 994) C (v := 1) dL_law_994 (by decide) ?_
  refine l_iadd (pc := 995) C dL_law_995 ?_
  refine l_sld (pc := 996) C (hv 1 (by decide)) dL_law_996 ?_
  refine l_callXi (pc := 997) C (As := [.int (xs (v3 + 1).toNatClampNeg)]) (n := 1) (st := []) (nX7_owners l ZX ea) gw_X7_owners rfl rfl rfl (by decide +kernel) ⟨Nat.le_of_ble_eq_true rfl, Nat.le_of_ble_eq_true rfl⟩ rfl rfl (Nat.le_of_ble_eq_true rfl) hc1 hc2 dL_law_997 ?_
  refine l_aload_n (pc := 1000) C dL_law_1000 rfl 2 rfl ?_
  refine l_aload_n (pc := 1001) C dL_law_1001 rfl 0 rfl ?_
  refine l_iload_n (pc := 1002) C dL_law_1002 rfl 3 rfl ?_
  refine l_iconst (pc := 1003) C (v := 1) dL_law_1003 (by decide) ?_
  refine l_iadd (pc := 1004) C dL_law_1004 ?_
  refine l_sld (pc := 1005) C (hv 1 (by decide)) dL_law_1005 ?_
  refine l_callMi (pc := 1006) C (As := [.int (xs (v3 + 1).toNatClampNeg)]) (n := 1) (st := [.int r]) (nX8_owners l ZM eb) gw_X8_owners rfl rfl rfl (by decide +kernel) ⟨Nat.le_of_ble_eq_true rfl, Nat.le_of_ble_eq_true rfl⟩ rfl rfl (Nat.le_of_ble_eq_true rfl) hc1 hc2 dL_law_1006 ?_
  refine l_icmp_eq (pc := 1009) C (tgt := 1334) dL_law_1009 (by decide) (fun _ => ?_) (fun h => absurd rfl h)
  exact kk _ _ hI2
set_option maxHeartbeats 1000000 in
theorem case_28 {p : Program} {l : Launch} {e : Env} {s : State} {m : MethodId} {below : List Frame} {meth : Method} {c : Code} {b L : Nat} {xs : Nat → Int32} {ZX ZM : Sh} {kc ks : Nat} {Inv : Sg → Sg → Prop} (hS : Steps Inv) (C : CL p s m meth c b L xs ZX ZM) {σX σM : Sg} {v3 : Int32} (hI : Inv σX σM) (hv : ∀ k, k < 5 → vp_in (v3 + nI k) L) (hc1 : kc ≤ 600000) (hc2 : ks ≤ 7302250) (kk : ∀ sx sm, Inv sx sm → GL p l e s m below meth c b ZX ZM kc ks sx sm 1334 [(0, .ref b), (1, .ref (ad ZX 0)), (2, .ref (ad ZM 0)), (3, .int v3)] []) : GL p l e s m below meth c b ZX ZM kc ks σX σM 1014 [(0, .ref b), (1, .ref (ad ZX 0)), (2, .ref (ad ZM 0)), (3, .int v3)] [] := by
  obtain ⟨sx, sm, r, ea, eb, hI2⟩ := hS.2.2.2.2.2.2.2.2.2.2.2.2.2.2.2.2.2.2.2.2.2.2.2.2.2.2.2.2.1 σX σM (xs (v3 + 1).toNatClampNeg) hI
  refine l_aload_n (pc := 1014) C dL_law_1014 rfl 1 rfl ?_
  refine l_aload_n (pc := 1015) C dL_law_1015 rfl 0 rfl ?_
  refine l_iload_n (pc := 1016) C dL_law_1016 rfl 3 rfl ?_
  refine l_iconst (pc := 1017) C (v := 1) dL_law_1017 (by decide) ?_
  refine l_iadd (pc := 1018) C dL_law_1018 ?_
  refine l_sld (pc := 1019) C (hv 1 (by decide)) dL_law_1019 ?_
  refine l_callXi (pc := 1020) C (As := [.int (xs (v3 + 1).toNatClampNeg)]) (n := 1) (st := []) (nX7_seats l ZX ea) gw_X7_seats rfl rfl rfl (by decide +kernel) ⟨Nat.le_of_ble_eq_true rfl, Nat.le_of_ble_eq_true rfl⟩ rfl rfl (Nat.le_of_ble_eq_true rfl) hc1 hc2 dL_law_1020 ?_
  refine l_aload_n (pc := 1023) C dL_law_1023 rfl 2 rfl ?_
  refine l_aload_n (pc := 1024) C dL_law_1024 rfl 0 rfl ?_
  refine l_iload_n (pc := 1025) C dL_law_1025 rfl 3 rfl ?_
  refine l_iconst (pc := 1026) C (v := 1) dL_law_1026 (by decide) ?_
  refine l_iadd (pc := 1027) C dL_law_1027 ?_
  refine l_sld (pc := 1028) C (hv 1 (by decide)) dL_law_1028 ?_
  refine l_callMi (pc := 1029) C (As := [.int (xs (v3 + 1).toNatClampNeg)]) (n := 1) (st := [.int r]) (nX8_seats l ZM eb) gw_X8_seats rfl rfl rfl (by decide +kernel) ⟨Nat.le_of_ble_eq_true rfl, Nat.le_of_ble_eq_true rfl⟩ rfl rfl (Nat.le_of_ble_eq_true rfl) hc1 hc2 dL_law_1029 ?_
  refine l_icmp_eq (pc := 1032) C (tgt := 1334) dL_law_1032 (by decide) (fun _ => ?_) (fun h => absurd rfl h)
  exact kk _ _ hI2
set_option maxHeartbeats 1000000 in
theorem case_29 {p : Program} {l : Launch} {e : Env} {s : State} {m : MethodId} {below : List Frame} {meth : Method} {c : Code} {b L : Nat} {xs : Nat → Int32} {ZX ZM : Sh} {kc ks : Nat} {Inv : Sg → Sg → Prop} (hS : Steps Inv) (C : CL p s m meth c b L xs ZX ZM) {σX σM : Sg} {v3 : Int32} (hI : Inv σX σM) (hv : ∀ k, k < 5 → vp_in (v3 + nI k) L) (hc1 : kc ≤ 600000) (hc2 : ks ≤ 7302250) (kk : ∀ sx sm, Inv sx sm → GL p l e s m below meth c b ZX ZM kc ks sx sm 1334 [(0, .ref b), (1, .ref (ad ZX 0)), (2, .ref (ad ZM 0)), (3, .int v3)] []) : GL p l e s m below meth c b ZX ZM kc ks σX σM 1037 [(0, .ref b), (1, .ref (ad ZX 0)), (2, .ref (ad ZM 0)), (3, .int v3)] [] := by
  obtain ⟨sx, sm, r, ea, eb, hI2⟩ := hS.2.2.2.2.2.2.2.2.2.2.2.2.2.2.2.2.2.2.2.2.2.2.2.2.2.2.2.2.2.1 σX σM (xs (v3 + 1).toNatClampNeg) (xs (v3 + 2).toNatClampNeg) hI
  refine l_aload_n (pc := 1037) C dL_law_1037 rfl 1 rfl ?_
  refine l_aload_n (pc := 1038) C dL_law_1038 rfl 0 rfl ?_
  refine l_iload_n (pc := 1039) C dL_law_1039 rfl 3 rfl ?_
  refine l_iconst (pc := 1040) C (v := 1) dL_law_1040 (by decide) ?_
  refine l_iadd (pc := 1041) C dL_law_1041 ?_
  refine l_sld (pc := 1042) C (hv 1 (by decide)) dL_law_1042 ?_
  refine l_aload_n (pc := 1043) C dL_law_1043 rfl 0 rfl ?_
  refine l_iload_n (pc := 1044) C dL_law_1044 rfl 3 rfl ?_
  refine l_iconst (pc := 1045) C (v := 2) dL_law_1045 (by decide) ?_
  refine l_iadd (pc := 1046) C dL_law_1046 ?_
  refine l_sld (pc := 1047) C (hv 2 (by decide)) dL_law_1047 ?_
  refine l_callXi (pc := 1048) C (As := [.int (xs (v3 + 1).toNatClampNeg), .int (xs (v3 + 2).toNatClampNeg)]) (n := 2) (st := []) (nX7_ask l ZX ea) gw_X7_ask rfl rfl rfl (by decide +kernel) ⟨Nat.le_of_ble_eq_true rfl, Nat.le_of_ble_eq_true rfl⟩ rfl rfl (Nat.le_of_ble_eq_true rfl) hc1 hc2 dL_law_1048 ?_
  refine l_aload_n (pc := 1051) C dL_law_1051 rfl 2 rfl ?_
  refine l_aload_n (pc := 1052) C dL_law_1052 rfl 0 rfl ?_
  refine l_iload_n (pc := 1053) C dL_law_1053 rfl 3 rfl ?_
  refine l_iconst (pc := 1054) C (v := 1) dL_law_1054 (by decide) ?_
  refine l_iadd (pc := 1055) C dL_law_1055 ?_
  refine l_sld (pc := 1056) C (hv 1 (by decide)) dL_law_1056 ?_
  refine l_aload_n (pc := 1057) C dL_law_1057 rfl 0 rfl ?_
  refine l_iload_n (pc := 1058) C dL_law_1058 rfl 3 rfl ?_
  refine l_iconst (pc := 1059) C (v := 2) dL_law_1059 (by decide) ?_
  refine l_iadd (pc := 1060) C dL_law_1060 ?_
  refine l_sld (pc := 1061) C (hv 2 (by decide)) dL_law_1061 ?_
  refine l_callMi (pc := 1062) C (As := [.int (xs (v3 + 1).toNatClampNeg), .int (xs (v3 + 2).toNatClampNeg)]) (n := 2) (st := [.int r]) (nX8_ask l ZM eb) gw_X8_ask rfl rfl rfl (by decide +kernel) ⟨Nat.le_of_ble_eq_true rfl, Nat.le_of_ble_eq_true rfl⟩ rfl rfl (Nat.le_of_ble_eq_true rfl) hc1 hc2 dL_law_1062 ?_
  refine l_icmp_eq (pc := 1065) C (tgt := 1334) dL_law_1065 (by decide) (fun _ => ?_) (fun h => absurd rfl h)
  exact kk _ _ hI2
set_option maxHeartbeats 1000000 in
theorem case_30 {p : Program} {l : Launch} {e : Env} {s : State} {m : MethodId} {below : List Frame} {meth : Method} {c : Code} {b L : Nat} {xs : Nat → Int32} {ZX ZM : Sh} {kc ks : Nat} {Inv : Sg → Sg → Prop} (hS : Steps Inv) (C : CL p s m meth c b L xs ZX ZM) {σX σM : Sg} {v3 : Int32} (hI : Inv σX σM) (hv : ∀ k, k < 5 → vp_in (v3 + nI k) L) (hc1 : kc ≤ 600000) (hc2 : ks ≤ 7302250) (kk : ∀ sx sm, Inv sx sm → GL p l e s m below meth c b ZX ZM kc ks sx sm 1334 [(0, .ref b), (1, .ref (ad ZX 0)), (2, .ref (ad ZM 0)), (3, .int v3)] []) : GL p l e s m below meth c b ZX ZM kc ks σX σM 1070 [(0, .ref b), (1, .ref (ad ZX 0)), (2, .ref (ad ZM 0)), (3, .int v3)] [] := by
  obtain ⟨sx, sm, r, ea, eb, hI2⟩ := hS.2.2.2.2.2.2.2.2.2.2.2.2.2.2.2.2.2.2.2.2.2.2.2.2.2.2.2.2.2.2.1 σX σM (xs (v3 + 1).toNatClampNeg) (xs (v3 + 2).toNatClampNeg) (xs (v3 + 3).toNatClampNeg) hI
  refine l_aload_n (pc := 1070) C dL_law_1070 rfl 1 rfl ?_
  refine l_aload_n (pc := 1071) C dL_law_1071 rfl 0 rfl ?_
  refine l_iload_n (pc := 1072) C dL_law_1072 rfl 3 rfl ?_
  refine l_iconst (pc := 1073) C (v := 1) dL_law_1073 (by decide) ?_
  refine l_iadd (pc := 1074) C dL_law_1074 ?_
  refine l_sld (pc := 1075) C (hv 1 (by decide)) dL_law_1075 ?_
  refine l_aload_n (pc := 1076) C dL_law_1076 rfl 0 rfl ?_
  refine l_iload_n (pc := 1077) C dL_law_1077 rfl 3 rfl ?_
  refine l_iconst (pc := 1078) C (v := 2) dL_law_1078 (by decide) ?_
  refine l_iadd (pc := 1079) C dL_law_1079 ?_
  refine l_sld (pc := 1080) C (hv 2 (by decide)) dL_law_1080 ?_
  refine l_aload_n (pc := 1081) C dL_law_1081 rfl 0 rfl ?_
  refine l_iload_n (pc := 1082) C dL_law_1082 rfl 3 rfl ?_
  refine l_iconst (pc := 1083) C (v := 3) dL_law_1083 (by decide) ?_
  refine l_iadd (pc := 1084) C dL_law_1084 ?_
  refine l_sld (pc := 1085) C (hv 3 (by decide)) dL_law_1085 ?_
  refine l_callXi (pc := 1086) C (As := [.int (xs (v3 + 1).toNatClampNeg), .int (xs (v3 + 2).toNatClampNeg), .int (xs (v3 + 3).toNatClampNeg)]) (n := 3) (st := []) (nX7_drift l ZX ea) gw_X7_drift rfl rfl rfl (by decide +kernel) ⟨Nat.le_of_ble_eq_true rfl, Nat.le_of_ble_eq_true rfl⟩ rfl rfl (Nat.le_of_ble_eq_true rfl) hc1 hc2 dL_law_1086 ?_
  refine l_aload_n (pc := 1089) C dL_law_1089 rfl 2 rfl ?_
  refine l_aload_n (pc := 1090) C dL_law_1090 rfl 0 rfl ?_
  refine l_iload_n (pc := 1091) C dL_law_1091 rfl 3 rfl ?_
  refine l_iconst (pc := 1092) C (v := 1) dL_law_1092 (by decide) ?_
  refine l_iadd (pc := 1093) C dL_law_1093 ?_
  refine l_sld (pc := 1094) C (hv 1 (by decide)) dL_law_1094 ?_
  refine l_aload_n (pc := 1095) C dL_law_1095 rfl 0 rfl ?_
  refine l_iload_n (pc := 1096) C dL_law_1096 rfl 3 rfl ?_
  refine l_iconst (pc := 1097) C (v := 2) dL_law_1097 (by decide) ?_
  refine l_iadd (pc := 1098) C dL_law_1098 ?_
  refine l_sld (pc := 1099) C (hv 2 (by decide)) dL_law_1099 ?_
  refine l_aload_n (pc := 1100) C dL_law_1100 rfl 0 rfl ?_
  refine l_iload_n (pc := 1101) C dL_law_1101 rfl 3 rfl ?_
  refine l_iconst (pc := 1102) C (v := 3) dL_law_1102 (by decide) ?_
  refine l_iadd (pc := 1103) C dL_law_1103 ?_
  refine l_sld (pc := 1104) C (hv 3 (by decide)) dL_law_1104 ?_
  refine l_callMi (pc := 1105) C (As := [.int (xs (v3 + 1).toNatClampNeg), .int (xs (v3 + 2).toNatClampNeg), .int (xs (v3 + 3).toNatClampNeg)]) (n := 3) (st := [.int r]) (nX8_drift l ZM eb) gw_X8_drift rfl rfl rfl (by decide +kernel) ⟨Nat.le_of_ble_eq_true rfl, Nat.le_of_ble_eq_true rfl⟩ rfl rfl (Nat.le_of_ble_eq_true rfl) hc1 hc2 dL_law_1105 ?_
  refine l_icmp_eq (pc := 1108) C (tgt := 1334) dL_law_1108 (by decide) (fun _ => ?_) (fun h => absurd rfl h)
  exact kk _ _ hI2
set_option maxHeartbeats 1000000 in
theorem case_31 {p : Program} {l : Launch} {e : Env} {s : State} {m : MethodId} {below : List Frame} {meth : Method} {c : Code} {b L : Nat} {xs : Nat → Int32} {ZX ZM : Sh} {kc ks : Nat} {Inv : Sg → Sg → Prop} (hS : Steps Inv) (C : CL p s m meth c b L xs ZX ZM) {σX σM : Sg} {v3 : Int32} (hI : Inv σX σM) (hv : ∀ k, k < 5 → vp_in (v3 + nI k) L) (hc1 : kc ≤ 600000) (hc2 : ks ≤ 7302250) (kk : ∀ sx sm, Inv sx sm → GL p l e s m below meth c b ZX ZM kc ks sx sm 1334 [(0, .ref b), (1, .ref (ad ZX 0)), (2, .ref (ad ZM 0)), (3, .int v3)] []) : GL p l e s m below meth c b ZX ZM kc ks σX σM 1113 [(0, .ref b), (1, .ref (ad ZX 0)), (2, .ref (ad ZM 0)), (3, .int v3)] [] := by
  obtain ⟨sx, sm, r, ea, eb, hI2⟩ := hS.2.2.2.2.2.2.2.2.2.2.2.2.2.2.2.2.2.2.2.2.2.2.2.2.2.2.2.2.2.2.2.1 σX σM (xs (v3 + 1).toNatClampNeg) hI
  refine l_aload_n (pc := 1113) C dL_law_1113 rfl 1 rfl ?_
  refine l_aload_n (pc := 1114) C dL_law_1114 rfl 0 rfl ?_
  refine l_iload_n (pc := 1115) C dL_law_1115 rfl 3 rfl ?_
  refine l_iconst (pc := 1116) C (v := 1) dL_law_1116 (by decide) ?_
  refine l_iadd (pc := 1117) C dL_law_1117 ?_
  refine l_sld (pc := 1118) C (hv 1 (by decide)) dL_law_1118 ?_
  refine l_callXi (pc := 1119) C (As := [.int (xs (v3 + 1).toNatClampNeg)]) (n := 1) (st := []) (nX7_keep l ZX ea) gw_X7_keep rfl rfl rfl (by decide +kernel) ⟨Nat.le_of_ble_eq_true rfl, Nat.le_of_ble_eq_true rfl⟩ rfl rfl (Nat.le_of_ble_eq_true rfl) hc1 hc2 dL_law_1119 ?_
  refine l_aload_n (pc := 1122) C dL_law_1122 rfl 2 rfl ?_
  refine l_aload_n (pc := 1123) C dL_law_1123 rfl 0 rfl ?_
  refine l_iload_n (pc := 1124) C dL_law_1124 rfl 3 rfl ?_
  refine l_iconst (pc := 1125) C (v := 1) dL_law_1125 (by decide) ?_
  refine l_iadd (pc := 1126) C dL_law_1126 ?_
  refine l_sld (pc := 1127) C (hv 1 (by decide)) dL_law_1127 ?_
  refine l_callMi (pc := 1128) C (As := [.int (xs (v3 + 1).toNatClampNeg)]) (n := 1) (st := [.int r]) (nX8_keep l ZM eb) gw_X8_keep rfl rfl rfl (by decide +kernel) ⟨Nat.le_of_ble_eq_true rfl, Nat.le_of_ble_eq_true rfl⟩ rfl rfl (Nat.le_of_ble_eq_true rfl) hc1 hc2 dL_law_1128 ?_
  refine l_icmp_eq (pc := 1131) C (tgt := 1334) dL_law_1131 (by decide) (fun _ => ?_) (fun h => absurd rfl h)
  exact kk _ _ hI2
set_option maxHeartbeats 1000000 in
theorem case_32 {p : Program} {l : Launch} {e : Env} {s : State} {m : MethodId} {below : List Frame} {meth : Method} {c : Code} {b L : Nat} {xs : Nat → Int32} {ZX ZM : Sh} {kc ks : Nat} {Inv : Sg → Sg → Prop} (hS : Steps Inv) (C : CL p s m meth c b L xs ZX ZM) {σX σM : Sg} {v3 : Int32} (hI : Inv σX σM) (hv : ∀ k, k < 5 → vp_in (v3 + nI k) L) (hc1 : kc ≤ 600000) (hc2 : ks ≤ 7302250) (kk : ∀ sx sm, Inv sx sm → GL p l e s m below meth c b ZX ZM kc ks sx sm 1334 [(0, .ref b), (1, .ref (ad ZX 0)), (2, .ref (ad ZM 0)), (3, .int v3)] []) : GL p l e s m below meth c b ZX ZM kc ks σX σM 1136 [(0, .ref b), (1, .ref (ad ZX 0)), (2, .ref (ad ZM 0)), (3, .int v3)] [] := by
  obtain ⟨sx, sm, r, ea, eb, hI2⟩ := hS.2.2.2.2.2.2.2.2.2.2.2.2.2.2.2.2.2.2.2.2.2.2.2.2.2.2.2.2.2.2.2.2.1 σX σM (xs (v3 + 1).toNatClampNeg) hI
  refine l_aload_n (pc := 1136) C dL_law_1136 rfl 1 rfl ?_
  refine l_aload_n (pc := 1137) C dL_law_1137 rfl 0 rfl ?_
  refine l_iload_n (pc := 1138) C dL_law_1138 rfl 3 rfl ?_
  refine l_iconst (pc := 1139) C (v := 1) dL_law_1139 (by decide) ?_
  refine l_iadd (pc := 1140) C dL_law_1140 ?_
  refine l_sld (pc := 1141) C (hv 1 (by decide)) dL_law_1141 ?_
  refine l_callXi (pc := 1142) C (As := [.int (xs (v3 + 1).toNatClampNeg)]) (n := 1) (st := []) (nX7_back l ZX ea) gw_X7_back rfl rfl rfl (by decide +kernel) ⟨Nat.le_of_ble_eq_true rfl, Nat.le_of_ble_eq_true rfl⟩ rfl rfl (Nat.le_of_ble_eq_true rfl) hc1 hc2 dL_law_1142 ?_
  refine l_aload_n (pc := 1145) C dL_law_1145 rfl 2 rfl ?_
  refine l_aload_n (pc := 1146) C dL_law_1146 rfl 0 rfl ?_
  refine l_iload_n (pc := 1147) C dL_law_1147 rfl 3 rfl ?_
  refine l_iconst (pc := 1148) C (v := 1) dL_law_1148 (by decide) ?_
  refine l_iadd (pc := 1149) C dL_law_1149 ?_
  refine l_sld (pc := 1150) C (hv 1 (by decide)) dL_law_1150 ?_
  refine l_callMi (pc := 1151) C (As := [.int (xs (v3 + 1).toNatClampNeg)]) (n := 1) (st := [.int r]) (nX8_back l ZM eb) gw_X8_back rfl rfl rfl (by decide +kernel) ⟨Nat.le_of_ble_eq_true rfl, Nat.le_of_ble_eq_true rfl⟩ rfl rfl (Nat.le_of_ble_eq_true rfl) hc1 hc2 dL_law_1151 ?_
  refine l_icmp_eq (pc := 1154) C (tgt := 1334) dL_law_1154 (by decide) (fun _ => ?_) (fun h => absurd rfl h)
  exact kk _ _ hI2
set_option maxHeartbeats 1000000 in
theorem case_33 {p : Program} {l : Launch} {e : Env} {s : State} {m : MethodId} {below : List Frame} {meth : Method} {c : Code} {b L : Nat} {xs : Nat → Int32} {ZX ZM : Sh} {kc ks : Nat} {Inv : Sg → Sg → Prop} (hS : Steps Inv) (C : CL p s m meth c b L xs ZX ZM) {σX σM : Sg} {v3 : Int32} (hI : Inv σX σM) (hv : ∀ k, k < 5 → vp_in (v3 + nI k) L) (hc1 : kc ≤ 600000) (hc2 : ks ≤ 7302250) (kk : ∀ sx sm, Inv sx sm → GL p l e s m below meth c b ZX ZM kc ks sx sm 1334 [(0, .ref b), (1, .ref (ad ZX 0)), (2, .ref (ad ZM 0)), (3, .int v3)] []) : GL p l e s m below meth c b ZX ZM kc ks σX σM 1159 [(0, .ref b), (1, .ref (ad ZX 0)), (2, .ref (ad ZM 0)), (3, .int v3)] [] := by
  obtain ⟨sx, sm, r, ea, eb, hI2⟩ := hS.2.2.2.2.2.2.2.2.2.2.2.2.2.2.2.2.2.2.2.2.2.2.2.2.2.2.2.2.2.2.2.2.2.1 σX σM (xs (v3 + 1).toNatClampNeg) (xs (v3 + 2).toNatClampNeg) (xs (v3 + 3).toNatClampNeg) hI
  refine l_aload_n (pc := 1159) C dL_law_1159 rfl 1 rfl ?_
  refine l_aload_n (pc := 1160) C dL_law_1160 rfl 0 rfl ?_
  refine l_iload_n (pc := 1161) C dL_law_1161 rfl 3 rfl ?_
  refine l_iconst (pc := 1162) C (v := 1) dL_law_1162 (by decide) ?_
  refine l_iadd (pc := 1163) C dL_law_1163 ?_
  refine l_sld (pc := 1164) C (hv 1 (by decide)) dL_law_1164 ?_
  refine l_aload_n (pc := 1165) C dL_law_1165 rfl 0 rfl ?_
  refine l_iload_n (pc := 1166) C dL_law_1166 rfl 3 rfl ?_
  refine l_iconst (pc := 1167) C (v := 2) dL_law_1167 (by decide) ?_
  refine l_iadd (pc := 1168) C dL_law_1168 ?_
  refine l_sld (pc := 1169) C (hv 2 (by decide)) dL_law_1169 ?_
  refine l_aload_n (pc := 1170) C dL_law_1170 rfl 0 rfl ?_
  refine l_iload_n (pc := 1171) C dL_law_1171 rfl 3 rfl ?_
  refine l_iconst (pc := 1172) C (v := 3) dL_law_1172 (by decide) ?_
  refine l_iadd (pc := 1173) C dL_law_1173 ?_
  refine l_sld (pc := 1174) C (hv 3 (by decide)) dL_law_1174 ?_
  refine l_callXi (pc := 1175) C (As := [.int (xs (v3 + 1).toNatClampNeg), .int (xs (v3 + 2).toNatClampNeg), .int (xs (v3 + 3).toNatClampNeg)]) (n := 3) (st := []) (nX7_sheet l ZX ea) gw_X7_sheet rfl rfl rfl (by decide +kernel) ⟨Nat.le_of_ble_eq_true rfl, Nat.le_of_ble_eq_true rfl⟩ rfl rfl (Nat.le_of_ble_eq_true rfl) hc1 hc2 dL_law_1175 ?_
  refine l_aload_n (pc := 1178) C dL_law_1178 rfl 2 rfl ?_
  refine l_aload_n (pc := 1179) C dL_law_1179 rfl 0 rfl ?_
  refine l_iload_n (pc := 1180) C dL_law_1180 rfl 3 rfl ?_
  refine l_iconst (pc := 1181) C (v := 1) dL_law_1181 (by decide) ?_
  refine l_iadd (pc := 1182) C dL_law_1182 ?_
  refine l_sld (pc := 1183) C (hv 1 (by decide)) dL_law_1183 ?_
  refine l_aload_n (pc := 1184) C dL_law_1184 rfl 0 rfl ?_
  refine l_iload_n (pc := 1185) C dL_law_1185 rfl 3 rfl ?_
  refine l_iconst (pc := 1186) C (v := 2) dL_law_1186 (by decide) ?_
  refine l_iadd (pc := 1187) C dL_law_1187 ?_
  refine l_sld (pc := 1188) C (hv 2 (by decide)) dL_law_1188 ?_
  refine l_aload_n (pc := 1189) C dL_law_1189 rfl 0 rfl ?_
  refine l_iload_n (pc := 1190) C dL_law_1190 rfl 3 rfl ?_
  refine l_iconst (pc := 1191) C (v := 3) dL_law_1191 (by decide) ?_
  refine l_iadd (pc := 1192) C dL_law_1192 ?_
  refine l_sld (pc := 1193) C (hv 3 (by decide)) dL_law_1193 ?_
  refine l_callMi (pc := 1194) C (As := [.int (xs (v3 + 1).toNatClampNeg), .int (xs (v3 + 2).toNatClampNeg), .int (xs (v3 + 3).toNatClampNeg)]) (n := 3) (st := [.int r]) (nX8_sheet l ZM eb) gw_X8_sheet rfl rfl rfl (by decide +kernel) ⟨Nat.le_of_ble_eq_true rfl, Nat.le_of_ble_eq_true rfl⟩ rfl rfl (Nat.le_of_ble_eq_true rfl) hc1 hc2 dL_law_1194 ?_
  refine l_icmp_eq (pc := 1197) C (tgt := 1334) dL_law_1197 (by decide) (fun _ => ?_) (fun h => absurd rfl h)
  exact kk _ _ hI2
set_option maxHeartbeats 1000000 in
theorem case_34 {p : Program} {l : Launch} {e : Env} {s : State} {m : MethodId} {below : List Frame} {meth : Method} {c : Code} {b L : Nat} {xs : Nat → Int32} {ZX ZM : Sh} {kc ks : Nat} {Inv : Sg → Sg → Prop} (hS : Steps Inv) (C : CL p s m meth c b L xs ZX ZM) {σX σM : Sg} {v3 : Int32} (hI : Inv σX σM) (hv : ∀ k, k < 5 → vp_in (v3 + nI k) L) (hc1 : kc ≤ 600000) (hc2 : ks ≤ 7302250) (kk : ∀ sx sm, Inv sx sm → GL p l e s m below meth c b ZX ZM kc ks sx sm 1334 [(0, .ref b), (1, .ref (ad ZX 0)), (2, .ref (ad ZM 0)), (3, .int v3)] []) : GL p l e s m below meth c b ZX ZM kc ks σX σM 1202 [(0, .ref b), (1, .ref (ad ZX 0)), (2, .ref (ad ZM 0)), (3, .int v3)] [] := by
  obtain ⟨sx, sm, r, ea, eb, hI2⟩ := hS.2.2.2.2.2.2.2.2.2.2.2.2.2.2.2.2.2.2.2.2.2.2.2.2.2.2.2.2.2.2.2.2.2.2.1 σX σM (xs (v3 + 1).toNatClampNeg) (xs (v3 + 2).toNatClampNeg) (xs (v3 + 3).toNatClampNeg) hI
  refine l_aload_n (pc := 1202) C dL_law_1202 rfl 1 rfl ?_
  refine l_aload_n (pc := 1203) C dL_law_1203 rfl 0 rfl ?_
  refine l_iload_n (pc := 1204) C dL_law_1204 rfl 3 rfl ?_
  refine l_iconst (pc := 1205) C (v := 1) dL_law_1205 (by decide) ?_
  refine l_iadd (pc := 1206) C dL_law_1206 ?_
  refine l_sld (pc := 1207) C (hv 1 (by decide)) dL_law_1207 ?_
  refine l_aload_n (pc := 1208) C dL_law_1208 rfl 0 rfl ?_
  refine l_iload_n (pc := 1209) C dL_law_1209 rfl 3 rfl ?_
  refine l_iconst (pc := 1210) C (v := 2) dL_law_1210 (by decide) ?_
  refine l_iadd (pc := 1211) C dL_law_1211 ?_
  refine l_sld (pc := 1212) C (hv 2 (by decide)) dL_law_1212 ?_
  refine l_aload_n (pc := 1213) C dL_law_1213 rfl 0 rfl ?_
  refine l_iload_n (pc := 1214) C dL_law_1214 rfl 3 rfl ?_
  refine l_iconst (pc := 1215) C (v := 3) dL_law_1215 (by decide) ?_
  refine l_iadd (pc := 1216) C dL_law_1216 ?_
  refine l_sld (pc := 1217) C (hv 3 (by decide)) dL_law_1217 ?_
  refine l_callXi (pc := 1218) C (As := [.int (xs (v3 + 1).toNatClampNeg), .int (xs (v3 + 2).toNatClampNeg), .int (xs (v3 + 3).toNatClampNeg)]) (n := 3) (st := []) (nX7_lay l ZX ea) gw_X7_lay rfl rfl rfl (by decide +kernel) ⟨Nat.le_of_ble_eq_true rfl, Nat.le_of_ble_eq_true rfl⟩ rfl rfl (Nat.le_of_ble_eq_true rfl) hc1 hc2 dL_law_1218 ?_
  refine l_aload_n (pc := 1221) C dL_law_1221 rfl 2 rfl ?_
  refine l_aload_n (pc := 1222) C dL_law_1222 rfl 0 rfl ?_
  refine l_iload_n (pc := 1223) C dL_law_1223 rfl 3 rfl ?_
  refine l_iconst (pc := 1224) C (v := 1) dL_law_1224 (by decide) ?_
  refine l_iadd (pc := 1225) C dL_law_1225 ?_
  refine l_sld (pc := 1226) C (hv 1 (by decide)) dL_law_1226 ?_
  refine l_aload_n (pc := 1227) C dL_law_1227 rfl 0 rfl ?_
  refine l_iload_n (pc := 1228) C dL_law_1228 rfl 3 rfl ?_
  refine l_iconst (pc := 1229) C (v := 2) dL_law_1229 (by decide) ?_
  refine l_iadd (pc := 1230) C dL_law_1230 ?_
  refine l_sld (pc := 1231) C (hv 2 (by decide)) dL_law_1231 ?_
  refine l_aload_n (pc := 1232) C dL_law_1232 rfl 0 rfl ?_
  refine l_iload_n (pc := 1233) C dL_law_1233 rfl 3 rfl ?_
  refine l_iconst (pc := 1234) C (v := 3) dL_law_1234 (by decide) ?_
  refine l_iadd (pc := 1235) C dL_law_1235 ?_
  refine l_sld (pc := 1236) C (hv 3 (by decide)) dL_law_1236 ?_
  refine l_callMi (pc := 1237) C (As := [.int (xs (v3 + 1).toNatClampNeg), .int (xs (v3 + 2).toNatClampNeg), .int (xs (v3 + 3).toNatClampNeg)]) (n := 3) (st := [.int r]) (nX8_lay l ZM eb) gw_X8_lay rfl rfl rfl (by decide +kernel) ⟨Nat.le_of_ble_eq_true rfl, Nat.le_of_ble_eq_true rfl⟩ rfl rfl (Nat.le_of_ble_eq_true rfl) hc1 hc2 dL_law_1237 ?_
  refine l_icmp_eq (pc := 1240) C (tgt := 1334) dL_law_1240 (by decide) (fun _ => ?_) (fun h => absurd rfl h)
  exact kk _ _ hI2
set_option maxHeartbeats 1000000 in
theorem case_35 {p : Program} {l : Launch} {e : Env} {s : State} {m : MethodId} {below : List Frame} {meth : Method} {c : Code} {b L : Nat} {xs : Nat → Int32} {ZX ZM : Sh} {kc ks : Nat} {Inv : Sg → Sg → Prop} (hS : Steps Inv) (C : CL p s m meth c b L xs ZX ZM) {σX σM : Sg} {v3 : Int32} (hI : Inv σX σM) (hv : ∀ k, k < 5 → vp_in (v3 + nI k) L) (hc1 : kc ≤ 600000) (hc2 : ks ≤ 7302250) (kk : ∀ sx sm, Inv sx sm → GL p l e s m below meth c b ZX ZM kc ks sx sm 1334 [(0, .ref b), (1, .ref (ad ZX 0)), (2, .ref (ad ZM 0)), (3, .int v3)] []) : GL p l e s m below meth c b ZX ZM kc ks σX σM 1245 [(0, .ref b), (1, .ref (ad ZX 0)), (2, .ref (ad ZM 0)), (3, .int v3)] [] := by
  obtain ⟨sx, sm, r, ea, eb, hI2⟩ := hS.2.2.2.2.2.2.2.2.2.2.2.2.2.2.2.2.2.2.2.2.2.2.2.2.2.2.2.2.2.2.2.2.2.2.2.1 σX σM (xs (v3 + 1).toNatClampNeg) (xs (v3 + 2).toNatClampNeg) (xs (v3 + 3).toNatClampNeg) (xs (v3 + 4).toNatClampNeg) hI
  refine l_aload_n (pc := 1245) C dL_law_1245 rfl 1 rfl ?_
  refine l_aload_n (pc := 1246) C dL_law_1246 rfl 0 rfl ?_
  refine l_iload_n (pc := 1247) C dL_law_1247 rfl 3 rfl ?_
  refine l_iconst (pc := 1248) C (v := 1) dL_law_1248 (by decide) ?_
  refine l_iadd (pc := 1249) C dL_law_1249 ?_
  refine l_sld (pc := 1250) C (hv 1 (by decide)) dL_law_1250 ?_
  refine l_aload_n (pc := 1251) C dL_law_1251 rfl 0 rfl ?_
  refine l_iload_n (pc := 1252) C dL_law_1252 rfl 3 rfl ?_
  refine l_iconst (pc := 1253) C (v := 2) dL_law_1253 (by decide) ?_
  refine l_iadd (pc := 1254) C dL_law_1254 ?_
  refine l_sld (pc := 1255) C (hv 2 (by decide)) dL_law_1255 ?_
  refine l_aload_n (pc := 1256) C dL_law_1256 rfl 0 rfl ?_
  refine l_iload_n (pc := 1257) C dL_law_1257 rfl 3 rfl ?_
  refine l_iconst (pc := 1258) C (v := 3) dL_law_1258 (by decide) ?_
  refine l_iadd (pc := 1259) C dL_law_1259 ?_
  refine l_sld (pc := 1260) C (hv 3 (by decide)) dL_law_1260 ?_
  refine l_aload_n (pc := 1261) C dL_law_1261 rfl 0 rfl ?_
  refine l_iload_n (pc := 1262) C dL_law_1262 rfl 3 rfl ?_
  refine l_iconst (pc := 1263) C (v := 4) dL_law_1263 (by decide) ?_
  refine l_iadd (pc := 1264) C dL_law_1264 ?_
  refine l_sld (pc := 1265) C (hv 4 (by decide)) dL_law_1265 ?_
  refine l_callXi (pc := 1266) C (As := [.int (xs (v3 + 1).toNatClampNeg), .int (xs (v3 + 2).toNatClampNeg), .int (xs (v3 + 3).toNatClampNeg), .int (xs (v3 + 4).toNatClampNeg)]) (n := 4) (st := []) (nX7_read l ZX ea) gw_X7_read rfl rfl rfl (by decide +kernel) ⟨Nat.le_of_ble_eq_true rfl, Nat.le_of_ble_eq_true rfl⟩ rfl rfl (Nat.le_of_ble_eq_true rfl) hc1 hc2 dL_law_1266 ?_
  refine l_aload_n (pc := 1269) C dL_law_1269 rfl 2 rfl ?_
  refine l_aload_n (pc := 1270) C dL_law_1270 rfl 0 rfl ?_
  refine l_iload_n (pc := 1271) C dL_law_1271 rfl 3 rfl ?_
  refine l_iconst (pc := 1272) C (v := 1) dL_law_1272 (by decide) ?_
  refine l_iadd (pc := 1273) C dL_law_1273 ?_
  refine l_sld (pc := 1274) C (hv 1 (by decide)) dL_law_1274 ?_
  refine l_aload_n (pc := 1275) C dL_law_1275 rfl 0 rfl ?_
  refine l_iload_n (pc := 1276) C dL_law_1276 rfl 3 rfl ?_
  refine l_iconst (pc := 1277) C (v := 2) dL_law_1277 (by decide) ?_
  refine l_iadd (pc := 1278) C dL_law_1278 ?_
  refine l_sld (pc := 1279) C (hv 2 (by decide)) dL_law_1279 ?_
  refine l_aload_n (pc := 1280) C dL_law_1280 rfl 0 rfl ?_
  refine l_iload_n (pc := 1281) C dL_law_1281 rfl 3 rfl ?_
  refine l_iconst (pc := 1282) C (v := 3) dL_law_1282 (by decide) ?_
  refine l_iadd (pc := 1283) C dL_law_1283 ?_
  refine l_sld (pc := 1284) C (hv 3 (by decide)) dL_law_1284 ?_
  refine l_aload_n (pc := 1285) C dL_law_1285 rfl 0 rfl ?_
  refine l_iload_n (pc := 1286) C dL_law_1286 rfl 3 rfl ?_
  refine l_iconst (pc := 1287) C (v := 4) dL_law_1287 (by decide) ?_
  refine l_iadd (pc := 1288) C dL_law_1288 ?_
  refine l_sld (pc := 1289) C (hv 4 (by decide)) dL_law_1289 ?_
  refine l_callMi (pc := 1290) C (As := [.int (xs (v3 + 1).toNatClampNeg), .int (xs (v3 + 2).toNatClampNeg), .int (xs (v3 + 3).toNatClampNeg), .int (xs (v3 + 4).toNatClampNeg)]) (n := 4) (st := [.int r]) (nX8_read l ZM eb) gw_X8_read rfl rfl rfl (by decide +kernel) ⟨Nat.le_of_ble_eq_true rfl, Nat.le_of_ble_eq_true rfl⟩ rfl rfl (Nat.le_of_ble_eq_true rfl) hc1 hc2 dL_law_1290 ?_
  refine l_icmp_eq (pc := 1293) C (tgt := 1334) dL_law_1293 (by decide) (fun _ => ?_) (fun h => absurd rfl h)
  exact kk _ _ hI2
set_option maxHeartbeats 1000000 in
theorem case_36 {p : Program} {l : Launch} {e : Env} {s : State} {m : MethodId} {below : List Frame} {meth : Method} {c : Code} {b L : Nat} {xs : Nat → Int32} {ZX ZM : Sh} {kc ks : Nat} {Inv : Sg → Sg → Prop} (hS : Steps Inv) (C : CL p s m meth c b L xs ZX ZM) {σX σM : Sg} {v3 : Int32} (hI : Inv σX σM) (hv : ∀ k, k < 5 → vp_in (v3 + nI k) L) (hc1 : kc ≤ 600000) (hc2 : ks ≤ 7302250) (kk : ∀ sx sm, Inv sx sm → GL p l e s m below meth c b ZX ZM kc ks sx sm 1334 [(0, .ref b), (1, .ref (ad ZX 0)), (2, .ref (ad ZM 0)), (3, .int v3)] []) : GL p l e s m below meth c b ZX ZM kc ks σX σM 1298 [(0, .ref b), (1, .ref (ad ZX 0)), (2, .ref (ad ZM 0)), (3, .int v3)] [] := by
  obtain ⟨sx, sm, r, ea, eb, hI2⟩ := hS.2.2.2.2.2.2.2.2.2.2.2.2.2.2.2.2.2.2.2.2.2.2.2.2.2.2.2.2.2.2.2.2.2.2.2.2.1 σX σM  hI
  refine l_aload_n (pc := 1298) C dL_law_1298 rfl 1 rfl ?_
  refine l_callXi (pc := 1299) C (As := []) (n := 0) (st := []) (nX7_torn l ZX ea) gw_X7_torn rfl rfl rfl (by decide +kernel) ⟨Nat.le_of_ble_eq_true rfl, Nat.le_of_ble_eq_true rfl⟩ rfl rfl (Nat.le_of_ble_eq_true rfl) hc1 hc2 dL_law_1299 ?_
  refine l_aload_n (pc := 1302) C dL_law_1302 rfl 2 rfl ?_
  refine l_callMi (pc := 1303) C (As := []) (n := 0) (st := [.int r]) (nX8_torn l ZM eb) gw_X8_torn rfl rfl rfl (by decide +kernel) ⟨Nat.le_of_ble_eq_true rfl, Nat.le_of_ble_eq_true rfl⟩ rfl rfl (Nat.le_of_ble_eq_true rfl) hc1 hc2 dL_law_1303 ?_
  refine l_icmp_eq (pc := 1306) C (tgt := 1334) dL_law_1306 (by decide) (fun _ => ?_) (fun h => absurd rfl h)
  exact kk _ _ hI2
set_option maxHeartbeats 1000000 in
theorem case_37 {p : Program} {l : Launch} {e : Env} {s : State} {m : MethodId} {below : List Frame} {meth : Method} {c : Code} {b L : Nat} {xs : Nat → Int32} {ZX ZM : Sh} {kc ks : Nat} {Inv : Sg → Sg → Prop} (hS : Steps Inv) (C : CL p s m meth c b L xs ZX ZM) {σX σM : Sg} {v3 : Int32} (hI : Inv σX σM) (hv : ∀ k, k < 5 → vp_in (v3 + nI k) L) (hc1 : kc ≤ 600000) (hc2 : ks ≤ 7302250) (kk : ∀ sx sm, Inv sx sm → GL p l e s m below meth c b ZX ZM kc ks sx sm 1334 [(0, .ref b), (1, .ref (ad ZX 0)), (2, .ref (ad ZM 0)), (3, .int v3)] []) : GL p l e s m below meth c b ZX ZM kc ks σX σM 1311 [(0, .ref b), (1, .ref (ad ZX 0)), (2, .ref (ad ZM 0)), (3, .int v3)] [] := by
  obtain ⟨sx, sm, r, ea, eb, hI2⟩ := hS.2.2.2.2.2.2.2.2.2.2.2.2.2.2.2.2.2.2.2.2.2.2.2.2.2.2.2.2.2.2.2.2.2.2.2.2.2 σX σM (xs (v3 + 1).toNatClampNeg) hI
  refine l_aload_n (pc := 1311) C dL_law_1311 rfl 1 rfl ?_
  refine l_aload_n (pc := 1312) C dL_law_1312 rfl 0 rfl ?_
  refine l_iload_n (pc := 1313) C dL_law_1313 rfl 3 rfl ?_
  refine l_iconst (pc := 1314) C (v := 1) dL_law_1314 (by decide) ?_
  refine l_iadd (pc := 1315) C dL_law_1315 ?_
  refine l_sld (pc := 1316) C (hv 1 (by decide)) dL_law_1316 ?_
  refine l_callXi (pc := 1317) C (As := [.int (xs (v3 + 1).toNatClampNeg)]) (n := 1) (st := []) (nX7_count l ZX ea) gw_X7_count rfl rfl rfl (by decide +kernel) ⟨Nat.le_of_ble_eq_true rfl, Nat.le_of_ble_eq_true rfl⟩ rfl rfl (Nat.le_of_ble_eq_true rfl) hc1 hc2 dL_law_1317 ?_
  refine l_aload_n (pc := 1320) C dL_law_1320 rfl 2 rfl ?_
  refine l_aload_n (pc := 1321) C dL_law_1321 rfl 0 rfl ?_
  refine l_iload_n (pc := 1322) C dL_law_1322 rfl 3 rfl ?_
  refine l_iconst (pc := 1323) C (v := 1) dL_law_1323 (by decide) ?_
  refine l_iadd (pc := 1324) C dL_law_1324 ?_
  refine l_sld (pc := 1325) C (hv 1 (by decide)) dL_law_1325 ?_
  refine l_callMi (pc := 1326) C (As := [.int (xs (v3 + 1).toNatClampNeg)]) (n := 1) (st := [.int r]) (nX8_count l ZM eb) gw_X8_count rfl rfl rfl (by decide +kernel) ⟨Nat.le_of_ble_eq_true rfl, Nat.le_of_ble_eq_true rfl⟩ rfl rfl (Nat.le_of_ble_eq_true rfl) hc1 hc2 dL_law_1326 ?_
  refine l_icmp_eq (pc := 1329) C (tgt := 1334) dL_law_1329 (by decide) (fun _ => ?_) (fun h => absurd rfl h)
  exact kk _ _ hI2
set_option maxHeartbeats 1000000 in
theorem law_loop {p : Program} {l : Launch} {e : Env} {s : State} {m : MethodId} {below : List Frame} {meth : Method} {c : Code} {b L : Nat} {xs : Nat → Int32} {ZX ZM : Sh} {kc ks : Nat} {Inv : Sg → Sg → Prop} (hS : Steps Inv) (hL : L ≤ 2560) (C : CL p s m meth c b L xs ZX ZM) (hc1 : kc ≤ 600000) (hc2 : ks ≤ 7302250) : ∀ (n i : Nat) (σX σM : Sg), i ≤ 2565 → L + 6 ≤ i + n → Inv σX σM → GL p l e s m below meth c b ZX ZM kc ks σX σM 18 [(0, .ref b), (1, .ref (ad ZX 0)), (2, .ref (ad ZM 0)), (3, .int (nI i))] [] := by
  intro n
  induction n with
  | zero => intro i σX σM h1 h2 hI
            have hb : L < i := by omega
            refine l_iload_n (pc := 18) C dL_law_18 rfl 3 rfl ?_
            refine l_aload_n (pc := 19) C dL_law_19 rfl 0 rfl ?_
            refine l_slen (pc := 20) C dL_law_20 ?_
            refine l_iconst (pc := 21) C (v := 5) dL_law_21 (by decide) ?_
            refine l_isub (pc := 22) C dL_law_22 ?_
            refine l_icmp_gt (pc := 23) C (tgt := 1340) dL_law_23 (by decide) (fun _ => ?_) (fun hc => absurd (lim_le hL h1 hc) (by omega))
            refine l_iconst (pc := 1340) C (v := 1) dL_law_1340 (by decide) ?_
            exact l_ret C hc1 hc2 dL_law_1341
  | succ n ih =>
    intro i σX σM h1 h2 hI
    refine l_iload_n (pc := 18) C dL_law_18 rfl 3 rfl ?_
    refine l_aload_n (pc := 19) C dL_law_19 rfl 0 rfl ?_
    refine l_slen (pc := 20) C dL_law_20 ?_
    refine l_iconst (pc := 21) C (v := 5) dL_law_21 (by decide) ?_
    refine l_isub (pc := 22) C dL_law_22 ?_
    refine l_icmp_gt (pc := 23) C (tgt := 1340) dL_law_23 (by decide) (fun _ => ?_) (fun hc => ?_)
    · refine l_iconst (pc := 1340) C (v := 1) dL_law_1340 (by decide) ?_
      exact l_ret C hc1 hc2 dL_law_1341
    · have h5 := lim_le hL h1 hc
      have hv : ∀ k, k < 5 → vp_in (nI i + nI k) L := fun k hk => vin_k hL h5 k hk
      have hv0 : vp_in (nI i) L := by
        have := hv 0 (by decide)
        rwa [nI_add, Nat.add_zero] at this
      refine l_aload_n (pc := 26) C dL_law_26 rfl 0 rfl ?_
      refine l_iload_n (pc := 27) C dL_law_27 rfl 3 rfl ?_
      refine l_sld (pc := 28) C hv0 dL_law_28 ?_
      refine l_bipush (pc := 29) C (v := 63) dL_law_29 (by decide) ?_
      refine l_iand (pc := 31) C dL_law_31 ?_
      have kk : ∀ sx sm, Inv sx sm → GL p l e s m below meth c b ZX ZM kc ks sx sm 1334 [(0, .ref b), (1, .ref (ad ZX 0)), (2, .ref (ad ZM 0)), (3, .int (nI i))] [] := by
        intro sx sm hI2
        refine l_iinc (pc := 1334) C (j := 3) (v := nI (i + 5)) (lv2 := [(3, .int (nI (i + 5))), (0, .ref b), (1, .ref (ad ZX 0)), (2, .ref (ad ZM 0))]) dL_law_1334 rfl (nI_add i 5) (by decide) rfl ?_
        refine l_goto (pc := 1337) C (tgt := 18) dL_law_1337 (by decide) ?_
        exact l_sub [1, 2, 3, 0] rfl (ih (i + 5) sx sm (by omega) (by omega) hI2)
      rcases sw_in (xs (nI i).toNatClampNeg &&& 63) with ⟨j, hj, hx⟩ | ho
      · rcases (show j = 0 ∨ j = 1 ∨ j = 2 ∨ j = 3 ∨ j = 4 ∨ j = 5 ∨ j = 6 ∨ j = 7 ∨ j = 8 ∨ j = 9 ∨ j = 10 ∨ j = 11 ∨ j = 12 ∨ j = 13 ∨ j = 14 ∨ j = 15 ∨ j = 16 ∨ j = 17 ∨ j = 18 ∨ j = 19 ∨ j = 20 ∨ j = 21 ∨ j = 22 ∨ j = 23 ∨ j = 24 ∨ j = 25 ∨ j = 26 ∨ j = 27 ∨ j = 28 ∨ j = 29 ∨ j = 30 ∨ j = 31 ∨ j = 32 ∨ j = 33 ∨ j = 34 ∨ j = 35 ∨ j = 36 ∨ j = 37 by omega) with rfl | rfl | rfl | rfl | rfl | rfl | rfl | rfl | rfl | rfl | rfl | rfl | rfl | rfl | rfl | rfl | rfl | rfl | rfl | rfl | rfl | rfl | rfl | rfl | rfl | rfl | rfl | rfl | rfl | rfl | rfl | rfl | rfl | rfl | rfl | rfl | rfl | rfl
        · exact l_sw (pc := 32) C (off := 168) (tgt := 200) (nI 0) dL_law_32 (by decide) (by decide) (by decide) (by decide) hx (case_0 hS C hI hv hc1 hc2 kk)
        · exact l_sw (pc := 32) C (off := 191) (tgt := 223) (nI 1) dL_law_32 (by decide) (by decide) (by decide) (by decide) hx (case_1 hS C hI hv hc1 hc2 kk)
        · exact l_sw (pc := 32) C (off := 214) (tgt := 246) (nI 2) dL_law_32 (by decide) (by decide) (by decide) (by decide) hx (case_2 hS C hI hv hc1 hc2 kk)
        · exact l_sw (pc := 32) C (off := 227) (tgt := 259) (nI 3) dL_law_32 (by decide) (by decide) (by decide) (by decide) hx (case_3 hS C hI hv hc1 hc2 kk)
        · exact l_sw (pc := 32) C (off := 240) (tgt := 272) (nI 4) dL_law_32 (by decide) (by decide) (by decide) (by decide) hx (case_4 hS C hI hv hc1 hc2 kk)
        · exact l_sw (pc := 32) C (off := 263) (tgt := 295) (nI 5) dL_law_32 (by decide) (by decide) (by decide) (by decide) hx (case_5 hS C hI hv hc1 hc2 kk)
        · exact l_sw (pc := 32) C (off := 296) (tgt := 328) (nI 6) dL_law_32 (by decide) (by decide) (by decide) (by decide) hx (case_6 hS C hI hv hc1 hc2 kk)
        · exact l_sw (pc := 32) C (off := 329) (tgt := 361) (nI 7) dL_law_32 (by decide) (by decide) (by decide) (by decide) hx (case_7 hS C hI hv hc1 hc2 kk)
        · exact l_sw (pc := 32) C (off := 372) (tgt := 404) (nI 8) dL_law_32 (by decide) (by decide) (by decide) (by decide) hx (case_8 hS C hI hv hc1 hc2 kk)
        · exact l_sw (pc := 32) C (off := 405) (tgt := 437) (nI 9) dL_law_32 (by decide) (by decide) (by decide) (by decide) hx (case_9 hS C hI hv hc1 hc2 kk)
        · exact l_sw (pc := 32) C (off := 438) (tgt := 470) (nI 10) dL_law_32 (by decide) (by decide) (by decide) (by decide) hx (case_10 hS C hI hv hc1 hc2 kk)
        · exact l_sw (pc := 32) C (off := 461) (tgt := 493) (nI 11) dL_law_32 (by decide) (by decide) (by decide) (by decide) hx (case_11 hS C hI hv hc1 hc2 kk)
        · exact l_sw (pc := 32) C (off := 494) (tgt := 526) (nI 12) dL_law_32 (by decide) (by decide) (by decide) (by decide) hx (case_12 hS C hI hv hc1 hc2 kk)
        · exact l_sw (pc := 32) C (off := 517) (tgt := 549) (nI 13) dL_law_32 (by decide) (by decide) (by decide) (by decide) hx (case_13 hS C hI hv hc1 hc2 kk)
        · exact l_sw (pc := 32) C (off := 550) (tgt := 582) (nI 14) dL_law_32 (by decide) (by decide) (by decide) (by decide) hx (case_14 hS C hI hv hc1 hc2 kk)
        · exact l_sw (pc := 32) C (off := 573) (tgt := 605) (nI 15) dL_law_32 (by decide) (by decide) (by decide) (by decide) hx (case_15 hS C hI hv hc1 hc2 kk)
        · exact l_sw (pc := 32) C (off := 607) (tgt := 639) (nI 16) dL_law_32 (by decide) (by decide) (by decide) (by decide) hx (case_16 hS C hI hv hc1 hc2 kk)
        · exact l_sw (pc := 32) C (off := 641) (tgt := 673) (nI 17) dL_law_32 (by decide) (by decide) (by decide) (by decide) hx (case_17 hS C hI hv hc1 hc2 kk)
        · exact l_sw (pc := 32) C (off := 674) (tgt := 706) (nI 18) dL_law_32 (by decide) (by decide) (by decide) (by decide) hx (case_18 hS C hI hv hc1 hc2 kk)
        · exact l_sw (pc := 32) C (off := 697) (tgt := 729) (nI 19) dL_law_32 (by decide) (by decide) (by decide) (by decide) hx (case_19 hS C hI hv hc1 hc2 kk)
        · exact l_sw (pc := 32) C (off := 720) (tgt := 752) (nI 20) dL_law_32 (by decide) (by decide) (by decide) (by decide) hx (case_20 hS C hI hv hc1 hc2 kk)
        · exact l_sw (pc := 32) C (off := 743) (tgt := 775) (nI 21) dL_law_32 (by decide) (by decide) (by decide) (by decide) hx (case_21 hS C hI hv hc1 hc2 kk)
        · exact l_sw (pc := 32) C (off := 766) (tgt := 798) (nI 22) dL_law_32 (by decide) (by decide) (by decide) (by decide) hx (case_22 hS C hI hv hc1 hc2 kk)
        · exact l_sw (pc := 32) C (off := 799) (tgt := 831) (nI 23) dL_law_32 (by decide) (by decide) (by decide) (by decide) hx (case_23 hS C hI hv hc1 hc2 kk)
        · exact l_sw (pc := 32) C (off := 843) (tgt := 875) (nI 24) dL_law_32 (by decide) (by decide) (by decide) (by decide) hx (case_24 hS C hI hv hc1 hc2 kk)
        · exact l_sw (pc := 32) C (off := 887) (tgt := 919) (nI 25) dL_law_32 (by decide) (by decide) (by decide) (by decide) hx (case_25 hS C hI hv hc1 hc2 kk)
        · exact l_sw (pc := 32) C (off := 936) (tgt := 968) (nI 26) dL_law_32 (by decide) (by decide) (by decide) (by decide) hx (case_26 hS C hI hv hc1 hc2 kk)
        · exact l_sw (pc := 32) C (off := 959) (tgt := 991) (nI 27) dL_law_32 (by decide) (by decide) (by decide) (by decide) hx (case_27 hS C hI hv hc1 hc2 kk)
        · exact l_sw (pc := 32) C (off := 982) (tgt := 1014) (nI 28) dL_law_32 (by decide) (by decide) (by decide) (by decide) hx (case_28 hS C hI hv hc1 hc2 kk)
        · exact l_sw (pc := 32) C (off := 1005) (tgt := 1037) (nI 29) dL_law_32 (by decide) (by decide) (by decide) (by decide) hx (case_29 hS C hI hv hc1 hc2 kk)
        · exact l_sw (pc := 32) C (off := 1038) (tgt := 1070) (nI 30) dL_law_32 (by decide) (by decide) (by decide) (by decide) hx (case_30 hS C hI hv hc1 hc2 kk)
        · exact l_sw (pc := 32) C (off := 1081) (tgt := 1113) (nI 31) dL_law_32 (by decide) (by decide) (by decide) (by decide) hx (case_31 hS C hI hv hc1 hc2 kk)
        · exact l_sw (pc := 32) C (off := 1104) (tgt := 1136) (nI 32) dL_law_32 (by decide) (by decide) (by decide) (by decide) hx (case_32 hS C hI hv hc1 hc2 kk)
        · exact l_sw (pc := 32) C (off := 1127) (tgt := 1159) (nI 33) dL_law_32 (by decide) (by decide) (by decide) (by decide) hx (case_33 hS C hI hv hc1 hc2 kk)
        · exact l_sw (pc := 32) C (off := 1170) (tgt := 1202) (nI 34) dL_law_32 (by decide) (by decide) (by decide) (by decide) hx (case_34 hS C hI hv hc1 hc2 kk)
        · exact l_sw (pc := 32) C (off := 1213) (tgt := 1245) (nI 35) dL_law_32 (by decide) (by decide) (by decide) (by decide) hx (case_35 hS C hI hv hc1 hc2 kk)
        · exact l_sw (pc := 32) C (off := 1266) (tgt := 1298) (nI 36) dL_law_32 (by decide) (by decide) (by decide) (by decide) hx (case_36 hS C hI hv hc1 hc2 kk)
        · exact l_sw (pc := 32) C (off := 1279) (tgt := 1311) (nI 37) dL_law_32 (by decide) (by decide) (by decide) (by decide) hx (case_37 hS C hI hv hc1 hc2 kk)
      · exact l_swd (pc := 32) C (tgt := 1334) dL_law_32 ho (by decide) (kk σX σM hI)
