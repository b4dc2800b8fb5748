/-! the constructors (laid by wip/whole/mkctor.py) -/
theorem ga_int : Cond.arrayClass (newarray.typeOf .int) ∈ gw_tbl := gw_mem (List.mem_of_getElem? (i := 155) (by decide +kernel)) (by decide +kernel)
theorem ga_boolean : Cond.arrayClass (newarray.typeOf .boolean) ∈ gw_tbl := gw_mem (List.mem_of_getElem? (i := 196) (by decide +kernel)) (by decide +kernel)
theorem ga_char : Cond.arrayClass (newarray.typeOf .char) ∈ gw_tbl := gw_mem (List.mem_of_getElem? (i := 93) (by decide +kernel)) (by decide +kernel)
theorem ga_long : Cond.arrayClass (newarray.typeOf .long) ∈ gw_tbl := gw_mem (List.mem_of_getElem? (i := 948) (by decide +kernel)) (by decide +kernel)
theorem gc_RL_8 : Cond.classLink RL 8 RX7 ∈ gw_tbl := gw_mem (List.mem_of_getElem? (i := 72) (by decide +kernel)) (by decide +kernel)
theorem gc_RX7_7 : Cond.classLink RX7 7 RX5 ∈ gw_tbl := gw_mem (List.mem_of_getElem? (i := 80) (by decide +kernel)) (by decide +kernel)
theorem gc_RX7_16 : Cond.classLink RX7 16 RX3 ∈ gw_tbl := gw_mem (List.mem_of_getElem? (i := 94) (by decide +kernel)) (by decide +kernel)
theorem gc_RX7_23 : Cond.classLink RX7 23 RX2 ∈ gw_tbl := gw_mem (List.mem_of_getElem? (i := 156) (by decide +kernel)) (by decide +kernel)
theorem gc_RX2_9 : Cond.classLink RX2 9 RX3 ∈ gw_tbl := gw_mem (List.mem_of_getElem? (i := 162) (by decide +kernel)) (by decide +kernel)
theorem gc_RX7_41 : Cond.classLink RX7 41 RX0 ∈ gw_tbl := gw_mem (List.mem_of_getElem? (i := 175) (by decide +kernel)) (by decide +kernel)
theorem gc_RX0_9 : Cond.classLink RX0 9 RX4 ∈ gw_tbl := gw_mem (List.mem_of_getElem? (i := 181) (by decide +kernel)) (by decide +kernel)
theorem gc_RX0_18 : Cond.classLink RX0 18 RX3 ∈ gw_tbl := gw_mem (List.mem_of_getElem? (i := 197) (by decide +kernel)) (by decide +kernel)
theorem gc_RX7_48 : Cond.classLink RX7 48 RX4 ∈ gw_tbl := gw_mem (List.mem_of_getElem? (i := 230) (by decide +kernel)) (by decide +kernel)
theorem gc_RX7_55 : Cond.classLink RX7 55 RX6 ∈ gw_tbl := gw_mem (List.mem_of_getElem? (i := 232) (by decide +kernel)) (by decide +kernel)
theorem gc_RL_88 : Cond.classLink RL 88 RX8 ∈ gw_tbl := gw_mem (List.mem_of_getElem? (i := 866) (by decide +kernel)) (by decide +kernel)
theorem gi_7 : Cond.instantiable RX7 9 ∈ gw_tbl := gw_mem (List.mem_of_getElem? (i := 73) (by decide +kernel)) (by decide +kernel)
theorem gi_5 : Cond.instantiable RX5 2 ∈ gw_tbl := gw_mem (List.mem_of_getElem? (i := 81) (by decide +kernel)) (by decide +kernel)
theorem gi_3 : Cond.instantiable RX3 10 ∈ gw_tbl := gw_mem (List.mem_of_getElem? (i := 95) (by decide +kernel)) (by decide +kernel)
theorem gi_2 : Cond.instantiable RX2 3 ∈ gw_tbl := gw_mem (List.mem_of_getElem? (i := 157) (by decide +kernel)) (by decide +kernel)
theorem gi_0 : Cond.instantiable RX0 9 ∈ gw_tbl := gw_mem (List.mem_of_getElem? (i := 176) (by decide +kernel)) (by decide +kernel)
theorem gi_4 : Cond.instantiable RX4 2 ∈ gw_tbl := gw_mem (List.mem_of_getElem? (i := 182) (by decide +kernel)) (by decide +kernel)
theorem gi_6 : Cond.instantiable RX6 1 ∈ gw_tbl := gw_mem (List.mem_of_getElem? (i := 233) (by decide +kernel)) (by decide +kernel)
theorem gi_8 : Cond.instantiable RX8 25 ∈ gw_tbl := gw_mem (List.mem_of_getElem? (i := 867) (by decide +kernel)) (by decide +kernel)
theorem gj_7 : Cond.initialized RX7 ∈ gw_tbl := gw_mem (List.mem_of_getElem? (i := 54) (by decide +kernel)) (by decide +kernel)
theorem gj_5 : Cond.initialized RX5 ∈ gw_tbl := gw_mem (List.mem_of_getElem? (i := 55) (by decide +kernel)) (by decide +kernel)
theorem gj_3 : Cond.initialized RX3 ∈ gw_tbl := gw_mem (List.mem_of_getElem? (i := 56) (by decide +kernel)) (by decide +kernel)
theorem gj_2 : Cond.initialized RX2 ∈ gw_tbl := gw_mem (List.mem_of_getElem? (i := 57) (by decide +kernel)) (by decide +kernel)
theorem gj_0 : Cond.initialized RX0 ∈ gw_tbl := gw_mem (List.mem_of_getElem? (i := 58) (by decide +kernel)) (by decide +kernel)
theorem gj_4 : Cond.initialized RX4 ∈ gw_tbl := gw_mem (List.mem_of_getElem? (i := 59) (by decide +kernel)) (by decide +kernel)
theorem gj_6 : Cond.initialized RX6 ∈ gw_tbl := gw_mem (List.mem_of_getElem? (i := 60) (by decide +kernel)) (by decide +kernel)
theorem gj_8 : Cond.initialized RX8 ∈ gw_tbl := gw_mem (List.mem_of_getElem? (i := 61) (by decide +kernel)) (by decide +kernel)
theorem fd_0 : ∀ j, j < (gw_cw 0).2.2 → defaultValue (gw_tyf 0 j) = vp_V [.null, .null, .null, .null, .null, .null, .int 0, .int 0, .int 0] j := by
  intro j h
  match j, h with
  | 0, _ => rfl
  | 1, _ => rfl
  | 2, _ => rfl
  | 3, _ => rfl
  | 4, _ => rfl
  | 5, _ => rfl
  | 6, _ => rfl
  | 7, _ => rfl
  | 8, _ => rfl
  | j + 9, h => exact absurd (show j + 9 < 9 from h) (by omega)
theorem fd_2 : ∀ j, j < (gw_cw 1).2.2 → defaultValue (gw_tyf 1 j) = vp_V [.null, .int 0, .int 0] j := by
  intro j h
  match j, h with
  | 0, _ => rfl
  | 1, _ => rfl
  | 2, _ => rfl
  | j + 3, h => exact absurd (show j + 3 < 3 from h) (by omega)
theorem fd_3 : ∀ j, j < (gw_cw 2).2.2 → defaultValue (gw_tyf 2 j) = vp_V [.int 0, .null, .null, .null, .int 0, .null, .null, .null, .null, .null] j := by
  intro j h
  match j, h with
  | 0, _ => rfl
  | 1, _ => rfl
  | 2, _ => rfl
  | 3, _ => rfl
  | 4, _ => rfl
  | 5, _ => rfl
  | 6, _ => rfl
  | 7, _ => rfl
  | 8, _ => rfl
  | 9, _ => rfl
  | j + 10, h => exact absurd (show j + 10 < 10 from h) (by omega)
theorem fd_4 : ∀ j, j < (gw_cw 3).2.2 → defaultValue (gw_tyf 3 j) = vp_V [.null, .int 0] j := by
  intro j h
  match j, h with
  | 0, _ => rfl
  | 1, _ => rfl
  | j + 2, h => exact absurd (show j + 2 < 2 from h) (by omega)
theorem fd_5 : ∀ j, j < (gw_cw 4).2.2 → defaultValue (gw_tyf 4 j) = vp_V [.null, .int 0] j := by
  intro j h
  match j, h with
  | 0, _ => rfl
  | 1, _ => rfl
  | j + 2, h => exact absurd (show j + 2 < 2 from h) (by omega)
theorem fd_6 : ∀ j, j < (gw_cw 5).2.2 → defaultValue (gw_tyf 5 j) = vp_V [.null] j := by
  intro j h
  match j, h with
  | 0, _ => rfl
  | j + 1, h => exact absurd (show j + 1 < 1 from h) (by omega)
theorem fd_7 : ∀ j, j < (gw_cw 6).2.2 → defaultValue (gw_tyf 6 j) = vp_V [.null, .null, .null, .null, .null, .null, .null, .null, .null] j := by
  intro j h
  match j, h with
  | 0, _ => rfl
  | 1, _ => rfl
  | 2, _ => rfl
  | 3, _ => rfl
  | 4, _ => rfl
  | 5, _ => rfl
  | 6, _ => rfl
  | 7, _ => rfl
  | 8, _ => rfl
  | j + 9, h => exact absurd (show j + 9 < 9 from h) (by omega)
theorem fd_8 : ∀ j, j < (gw_cw 7).2.2 → defaultValue (gw_tyf 7 j) = vp_V [.int 0, .null, .int 0, .int 0, .int 0, .int 0, .null, .null, .null, .null, .int 0, .null, .null, .null, .null, .int 0, .null, .null, .null, .null, .int 0, .null, .int 0, .null, .null] j := by
  intro j h
  match j, h with
  | 0, _ => rfl
  | 1, _ => rfl
  | 2, _ => rfl
  | 3, _ => rfl
  | 4, _ => rfl
  | 5, _ => rfl
  | 6, _ => rfl
  | 7, _ => rfl
  | 8, _ => rfl
  | 9, _ => rfl
  | 10, _ => rfl
  | 11, _ => rfl
  | 12, _ => rfl
  | 13, _ => rfl
  | 14, _ => rfl
  | 15, _ => rfl
  | 16, _ => rfl
  | 17, _ => rfl
  | 18, _ => rfl
  | 19, _ => rfl
  | 20, _ => rfl
  | 21, _ => rfl
  | 22, _ => rfl
  | 23, _ => rfl
  | 24, _ => rfl
  | j + 25, h => exact absurd (show j + 25 < 25 from h) (by omega)
theorem ki_0 : gw_CI yX0_init cX0_init 1 := ⟨gm_X0_init, rfl, by decide, by decide, by decide +kernel⟩
theorem ki_2 : gw_CI yX2_init cX2_init 2 := ⟨gm_X2_init, rfl, by decide, by decide, by decide +kernel⟩
theorem ki_3 : gw_CI yX3_init cX3_init 1 := ⟨gm_X3_init, rfl, by decide, by decide, by decide +kernel⟩
theorem ki_4 : gw_CI yX4_init cX4_init 1 := ⟨gm_X4_init, rfl, by decide, by decide, by decide +kernel⟩
theorem ki_5 : gw_CI yX5_init cX5_init 1 := ⟨gm_X5_init, rfl, by decide, by decide, by decide +kernel⟩
theorem ki_6 : gw_CI yX6_init cX6_init 1 := ⟨gm_X6_init, rfl, by decide, by decide, by decide +kernel⟩
theorem ki_7 : gw_CI yX7_init cX7_init 2 := ⟨gm_X7_init, rfl, by decide, by decide, by decide +kernel⟩
theorem ki_8 : gw_CI yX8_init cX8_init 1 := ⟨gm_X8_init, rfl, by decide, by decide, by decide +kernel⟩
section KI
variable {G : gw_G} {o : oE} {N n : Nat} {t : List (Option Nat)}
theorem cE_0 (h0 : o N = none) (h : gw_kd N = (0, n, t)) : cE G o N = .inl (G.2.2.1.1, n, .inl (s0.1 N)) := (cE_no G h0).trans (gw_ct0 h)
theorem cE_1 (h0 : o N = none) (h : gw_kd N = (1, n, t)) : cE G o N = .inl (G.2.2.1.2.1, n, .inl (s0.1 N)) := (cE_no G h0).trans (gw_ct1 h)
theorem cE_2 (h0 : o N = none) (h : gw_kd N = (2, n, t)) : cE G o N = .inl (G.2.2.1.2.2.1, n, .inl (s0.1 N)) := (cE_no G h0).trans (gw_ct2 h)
theorem cE_3 (h0 : o N = none) (h : gw_kd N = (3, n, t)) : cE G o N = .inl (G.2.2.1.2.2.2.1, n, .inr (.inl (s0.2 N))) := (cE_no G h0).trans (gw_ct3 h)
theorem cE_5 {c : Nat} (h0 : o N = none) (h : gw_kd N = (c + 5, n, t)) : cE G o N = .inr (c, gw_fs G.1 (s0.1 N) 0 t) := (cE_no G h0).trans (gw_ct5 h)
theorem ov_mid (o : oE) {k j : Nat} (e d e2 : Option va_E) (h : k ≠ j) : ov (ov (ov o k e) j d) k e2 = ov (ov o k e2) j d := by rw [ov_comm (ov o k e) d e2 (Ne.symm h), ov_ov]
end KI
theorem k_5 {l : Launch} {G : gw_G} {o : oE} (ho : ∀ q, 1 ≤ q → o q = none) : gw_CM l G yX5_init cX5_init 1 1 (1) (ov o (1) (some (.inr (4, [.null, .int 0])))) (2) o (3) 1 120 := by
  have fr : ∀ (e : Option va_E) (q : Nat), 1 < q → ov o (1) e q = none := fun e q hq => (ov_ne _ _ (by omega)).trans (ho q (by omega))
  refine gw_cmet (by decide) rfl (by decide) ?_
  intro x hx X h0 h1
  show CW (xup x 0 0) G _ _ _ _ _ _
  refine cw_aload_n (X.up _ _).1 dX5_init_0 rfl 0 rfl ?_
  refine cx_obj X dX5_init_1 gl_RX5_3 (by decide) ?_
  refine cw_aload_n (X.up _ _).1 dX5_init_4 rfl 0 rfl ?_
  refine cw_bipush (v := nI 120) (X.up _ _).1 dX5_init_5 (by decide) ?_
  refine cx_newa X h0 h1 2 dX5_init_7 ga_char rfl (fun _ _ h => va_nm_char h) (fun _ => rfl) (cE_2 (fr _ _ (by omega)) gk_2.2) (by decide) (by decide) (by decide) ?_
  refine cw_putF (X.up _ _).1 X.2.1 dX5_init_9 gf_RX5_9 rfl rfl rfl rfl (by omega) (show 0 < 2 by decide) ?_
  refine cw_done (cE_5 (ho _ (by omega)) gk_1.2) ?_
  exact cx_ret X h0 h1 dX5_init_12 (by decide)
theorem k_3 {l : Launch} {G : gw_G} {o : oE} {b : Nat} (hp : gw_plan b) (ho : ∀ q, b ≤ q → o q = none) : gw_CM l G yX3_init cX3_init 1 1 (b) (ov o (b) (some (.inr (2, [.int 0, .null, .null, .null, .int 0, .null, .null, .null, .null, .null])))) (b + 1) o (b + 9) 8 94 := by
  have fr : ∀ (e : Option va_E) (q : Nat), b < q → ov o (b) e q = none := fun e q hq => (ov_ne _ _ (by omega)).trans (ho q (by omega))
  refine gw_cmet (by decide) rfl (by decide) ?_
  intro x hx X h0 h1
  show CW (xup x 0 0) G _ _ _ _ _ _
  refine cw_aload_n (X.up _ _).1 dX3_init_0 rfl 0 rfl ?_
  refine cx_obj X dX3_init_1 gl_RX3_3 (by decide) ?_
  refine cw_aload_n (X.up _ _).1 dX3_init_4 rfl 0 rfl ?_
  refine cw_bipush (v := nI 8) (X.up _ _).1 dX3_init_5 (by decide) ?_
  refine cx_newa X h0 h1 0 dX3_init_7 ga_int rfl (fun _ _ h => va_nm_int h) (fun _ => rfl) (cE_0 (fr _ _ (by omega)) hp.2.2.1) (by decide) (by decide) (by decide) ?_
  refine cw_putF (X.up _ _).1 X.2.1 dX3_init_9 gf_RX3_9 rfl rfl rfl rfl (by omega) (show 1 < 10 by decide) ?_
  refine cw_aload_n (X.up _ _).1 dX3_init_12 rfl 0 rfl ?_
  refine cw_bipush (v := nI 8) (X.up _ _).1 dX3_init_13 (by decide) ?_
  refine cx_newa X h0 h1 0 dX3_init_15 ga_int rfl (fun _ _ h => va_nm_int h) (fun _ => rfl) (cE_0 (fr _ _ (by omega)) hp.2.2.2.1) (by decide) (by decide) (by decide) ?_
  refine cw_putF (X.up _ _).1 X.2.1 dX3_init_17 gf_RX3_15 rfl rfl rfl rfl (by omega) (show 2 < 10 by decide) ?_
  refine cw_aload_n (X.up _ _).1 dX3_init_20 rfl 0 rfl ?_
  refine cw_bipush (v := nI 8) (X.up _ _).1 dX3_init_21 (by decide) ?_
  refine cx_newa X h0 h1 0 dX3_init_23 ga_int rfl (fun _ _ h => va_nm_int h) (fun _ => rfl) (cE_0 (fr _ _ (by omega)) hp.2.2.2.2.1) (by decide) (by decide) (by decide) ?_
  refine cw_putF (X.up _ _).1 X.2.1 dX3_init_25 gf_RX3_18 rfl rfl rfl rfl (by omega) (show 3 < 10 by decide) ?_
  refine cw_aload_n (X.up _ _).1 dX3_init_28 rfl 0 rfl ?_
  refine cw_bipush (v := nI 14) (X.up _ _).1 dX3_init_29 (by decide) ?_
  refine cx_newa X h0 h1 0 dX3_init_31 ga_int rfl (fun _ _ h => va_nm_int h) (fun _ => rfl) (cE_0 (fr _ _ (by omega)) hp.2.2.2.2.2.1) (by decide) (by decide) (by decide) ?_
  refine cw_putF (X.up _ _).1 X.2.1 dX3_init_33 gf_RX3_21 rfl rfl rfl rfl (by omega) (show 5 < 10 by decide) ?_
  refine cw_aload_n (X.up _ _).1 dX3_init_36 rfl 0 rfl ?_
  refine cw_bipush (v := nI 14) (X.up _ _).1 dX3_init_37 (by decide) ?_
  refine cx_newa X h0 h1 0 dX3_init_39 ga_int rfl (fun _ _ h => va_nm_int h) (fun _ => rfl) (cE_0 (fr _ _ (by omega)) hp.2.2.2.2.2.2.1) (by decide) (by decide) (by decide) ?_
  refine cw_putF (X.up _ _).1 X.2.1 dX3_init_41 gf_RX3_24 rfl rfl rfl rfl (by omega) (show 6 < 10 by decide) ?_
  refine cw_aload_n (X.up _ _).1 dX3_init_44 rfl 0 rfl ?_
  refine cw_bipush (v := nI 14) (X.up _ _).1 dX3_init_45 (by decide) ?_
  refine cx_newa X h0 h1 0 dX3_init_47 ga_int rfl (fun _ _ h => va_nm_int h) (fun _ => rfl) (cE_0 (fr _ _ (by omega)) hp.2.2.2.2.2.2.2.1) (by decide) (by decide) (by decide) ?_
  refine cw_putF (X.up _ _).1 X.2.1 dX3_init_49 gf_RX3_27 rfl rfl rfl rfl (by omega) (show 7 < 10 by decide) ?_
  refine cw_aload_n (X.up _ _).1 dX3_init_52 rfl 0 rfl ?_
  refine cw_bipush (v := nI 14) (X.up _ _).1 dX3_init_53 (by decide) ?_
  refine cx_newa X h0 h1 0 dX3_init_55 ga_int rfl (fun _ _ h => va_nm_int h) (fun _ => rfl) (cE_0 (fr _ _ (by omega)) hp.2.2.2.2.2.2.2.2.1) (by decide) (by decide) (by decide) ?_
  refine cw_putF (X.up _ _).1 X.2.1 dX3_init_57 gf_RX3_30 rfl rfl rfl rfl (by omega) (show 8 < 10 by decide) ?_
  refine cw_aload_n (X.up _ _).1 dX3_init_60 rfl 0 rfl ?_
  refine cw_bipush (v := nI 14) (X.up _ _).1 dX3_init_61 (by decide) ?_
  refine cx_newa X h0 h1 0 dX3_init_63 ga_int rfl (fun _ _ h => va_nm_int h) (fun _ => rfl) (cE_0 (fr _ _ (by omega)) hp.2.2.2.2.2.2.2.2.2) (by decide) (by decide) (by decide) ?_
  refine cw_putF (X.up _ _).1 X.2.1 dX3_init_65 gf_RX3_33 rfl rfl rfl rfl (by omega) (show 9 < 10 by decide) ?_
  refine cw_done (cE_5 (ho _ (by omega)) hp.2.1) ?_
  exact cx_ret X h0 h1 dX3_init_68 (by decide)
theorem k_4 {l : Launch} {G : gw_G} {o : oE} {r : Nat} (hr : gw_rates r) (ho : ∀ q, r ≤ q → o q = none) : gw_CM l G yX4_init cX4_init 1 1 (r) (ov o (r) (some (.inr (3, [.null, .int 0])))) (r + 1) o (r + 2) 1 8 := by
  have fr : ∀ (e : Option va_E) (q : Nat), r < q → ov o (r) e q = none := fun e q hq => (ov_ne _ _ (by omega)).trans (ho q (by omega))
  refine gw_cmet (by decide) rfl (by decide) ?_
  intro x hx X h0 h1
  show CW (xup x 0 0) G _ _ _ _ _ _
  refine cw_aload_n (X.up _ _).1 dX4_init_0 rfl 0 rfl ?_
  refine cx_obj X dX4_init_1 gl_RX4_3 (by decide) ?_
  refine cw_aload_n (X.up _ _).1 dX4_init_4 rfl 0 rfl ?_
  refine cw_bipush (v := nI 8) (X.up _ _).1 dX4_init_5 (by decide) ?_
  refine cx_newa X h0 h1 0 dX4_init_7 ga_int rfl (fun _ _ h => va_nm_int h) (fun _ => rfl) (cE_0 (fr _ _ (by omega)) hr.2.2) (by decide) (by decide) (by decide) ?_
  refine cw_putF (X.up _ _).1 X.2.1 dX4_init_9 gf_RX4_9 rfl rfl rfl rfl (by omega) (show 0 < 2 by decide) ?_
  refine cw_done (cE_5 (ho _ (by omega)) hr.2.1) ?_
  exact cx_ret X h0 h1 dX4_init_12 (by decide)
theorem k_6 {l : Launch} {G : gw_G} {o : oE} (ho : ∀ q, 169 ≤ q → o q = none) : gw_CM l G yX6_init cX6_init 1 1 (169) (ov o (169) (some (.inr (5, [.null])))) (170) o (171) 1 8 := by
  have fr : ∀ (e : Option va_E) (q : Nat), 169 < q → ov o (169) e q = none := fun e q hq => (ov_ne _ _ (by omega)).trans (ho q (by omega))
  refine gw_cmet (by decide) rfl (by decide) ?_
  intro x hx X h0 h1
  show CW (xup x 0 0) G _ _ _ _ _ _
  refine cw_aload_n (X.up _ _).1 dX6_init_0 rfl 0 rfl ?_
  refine cx_obj X dX6_init_1 gl_RX6_3 (by decide) ?_
  refine cw_aload_n (X.up _ _).1 dX6_init_4 rfl 0 rfl ?_
  refine cw_bipush (v := nI 8) (X.up _ _).1 dX6_init_5 (by decide) ?_
  refine cx_newa X h0 h1 0 dX6_init_7 ga_int rfl (fun _ _ h => va_nm_int h) (fun _ => rfl) (cE_0 (fr _ _ (by omega)) gk_170.2) (by decide) (by decide) (by decide) ?_
  refine cw_putF (X.up _ _).1 X.2.1 dX6_init_9 gf_RX6_9 rfl rfl rfl rfl (by omega) (show 0 < 1 by decide) ?_
  refine cw_done (cE_5 (ho _ (by omega)) gk_169.2) ?_
  exact cx_ret X h0 h1 dX6_init_12 (by decide)
theorem k_8 {l : Launch} {G : gw_G} {o : oE} (ho : ∀ q, 189 ≤ q → o q = none) : gw_CM l G yX8_init cX8_init 1 1 (189) (ov o (189) (some (.inr (7, [.int 0, .null, .int 0, .int 0, .int 0, .int 0, .null, .null, .null, .null, .int 0, .null, .null, .null, .null, .int 0, .null, .null, .null, .null, .int 0, .null, .int 0, .null, .null])))) (190) o (206) 16 2640 := by
  have fr : ∀ (e : Option va_E) (q : Nat), 189 < q → ov o (189) e q = none := fun e q hq => (ov_ne _ _ (by omega)).trans (ho q (by omega))
  refine gw_cmet (by decide) rfl (by decide) ?_
  intro x hx X h0 h1
  show CW (xup x 0 0) G _ _ _ _ _ _
  refine cw_aload_n (X.up _ _).1 dX8_init_0 rfl 0 rfl ?_
  refine cx_obj X dX8_init_1 gl_RX8_1 (by decide) ?_
  refine cw_aload_n (X.up _ _).1 dX8_init_4 rfl 0 rfl ?_
  refine cw_bipush (v := nI 120) (X.up _ _).1 dX8_init_5 (by decide) ?_
  refine cx_newa X h0 h1 0 dX8_init_7 ga_int rfl (fun _ _ h => va_nm_int h) (fun _ => rfl) (cE_0 (fr _ _ (by omega)) gk_190.2) (by decide) (by decide) (by decide) ?_
  refine cw_putF (X.up _ _).1 X.2.1 dX8_init_9 gf_RX8_7 rfl rfl rfl rfl (by omega) (show 1 < 25 by decide) ?_
  show CW (xup x 1 120) G 1 12 [(0, .ref (G.1 + 189))] [] (ov o 189 (some (.inr (7, [.int 0, .ref (G.1 + 190), .int 0, .int 0, .int 0, .int 0, .null, .null, .null, .null, .int 0, .null, .null, .null, .null, .int 0, .null, .null, .null, .null, .int 0, .null, .int 0, .null, .null])))) 191
  refine cw_aload_n (X.up _ _).1 dX8_init_12 rfl 0 rfl ?_
  refine cw_bipush (v := nI 96) (X.up _ _).1 dX8_init_13 (by decide) ?_
  refine cx_newa X h0 h1 0 dX8_init_15 ga_int rfl (fun _ _ h => va_nm_int h) (fun _ => rfl) (cE_0 (fr _ _ (by omega)) gk_191.2) (by decide) (by decide) (by decide) ?_
  refine cw_putF (X.up _ _).1 X.2.1 dX8_init_17 gf_RX8_13 rfl rfl rfl rfl (by omega) (show 6 < 25 by decide) ?_
  show CW (xup x 2 216) G 1 20 [(0, .ref (G.1 + 189))] [] (ov o 189 (some (.inr (7, [.int 0, .ref (G.1 + 190), .int 0, .int 0, .int 0, .int 0, .ref (G.1 + 191), .null, .null, .null, .int 0, .null, .null, .null, .null, .int 0, .null, .null, .null, .null, .int 0, .null, .int 0, .null, .null])))) 192
  refine cw_aload_n (X.up _ _).1 dX8_init_20 rfl 0 rfl ?_
  refine cw_bipush (v := nI 96) (X.up _ _).1 dX8_init_21 (by decide) ?_
  refine cx_newa X h0 h1 0 dX8_init_23 ga_int rfl (fun _ _ h => va_nm_int h) (fun _ => rfl) (cE_0 (fr _ _ (by omega)) gk_192.2) (by decide) (by decide) (by decide) ?_
  refine cw_putF (X.up _ _).1 X.2.1 dX8_init_25 gf_RX8_16 rfl rfl rfl rfl (by omega) (show 7 < 25 by decide) ?_
  show CW (xup x 3 312) G 1 28 [(0, .ref (G.1 + 189))] [] (ov o 189 (some (.inr (7, [.int 0, .ref (G.1 + 190), .int 0, .int 0, .int 0, .int 0, .ref (G.1 + 191), .ref (G.1 + 192), .null, .null, .int 0, .null, .null, .null, .null, .int 0, .null, .null, .null, .null, .int 0, .null, .int 0, .null, .null])))) 193
  refine cw_aload_n (X.up _ _).1 dX8_init_28 rfl 0 rfl ?_
  refine cw_bipush (v := nI 96) (X.up _ _).1 dX8_init_29 (by decide) ?_
  refine cx_newa X h0 h1 0 dX8_init_31 ga_int rfl (fun _ _ h => va_nm_int h) (fun _ => rfl) (cE_0 (fr _ _ (by omega)) gk_193.2) (by decide) (by decide) (by decide) ?_
  refine cw_putF (X.up _ _).1 X.2.1 dX8_init_33 gf_RX8_19 rfl rfl rfl rfl (by omega) (show 8 < 25 by decide) ?_
  show CW (xup x 4 408) G 1 36 [(0, .ref (G.1 + 189))] [] (ov o 189 (some (.inr (7, [.int 0, .ref (G.1 + 190), .int 0, .int 0, .int 0, .int 0, .ref (G.1 + 191), .ref (G.1 + 192), .ref (G.1 + 193), .null, .int 0, .null, .null, .null, .null, .int 0, .null, .null, .null, .null, .int 0, .null, .int 0, .null, .null])))) 194
  refine cw_aload_n (X.up _ _).1 dX8_init_36 rfl 0 rfl ?_
  refine cw_sipush (v := nI 1344) (X.up _ _).1 dX8_init_37 (by decide) ?_
  refine cx_newa X h0 h1 0 dX8_init_40 ga_int rfl (fun _ _ h => va_nm_int h) (fun _ => rfl) (cE_0 (fr _ _ (by omega)) gk_194.2) (by decide) (by decide) (by decide) ?_
  refine cw_putF (X.up _ _).1 X.2.1 dX8_init_42 gf_RX8_22 rfl rfl rfl rfl (by omega) (show 9 < 25 by decide) ?_
  show CW (xup x 5 1752) G 1 45 [(0, .ref (G.1 + 189))] [] (ov o 189 (some (.inr (7, [.int 0, .ref (G.1 + 190), .int 0, .int 0, .int 0, .int 0, .ref (G.1 + 191), .ref (G.1 + 192), .ref (G.1 + 193), .ref (G.1 + 194), .int 0, .null, .null, .null, .null, .int 0, .null, .null, .null, .null, .int 0, .null, .int 0, .null, .null])))) 195
  refine cw_aload_n (X.up _ _).1 dX8_init_45 rfl 0 rfl ?_
  refine cw_sipush (v := nI 192) (X.up _ _).1 dX8_init_46 (by decide) ?_
  refine cx_newa X h0 h1 0 dX8_init_49 ga_int rfl (fun _ _ h => va_nm_int h) (fun _ => rfl) (cE_0 (fr _ _ (by omega)) gk_195.2) (by decide) (by decide) (by decide) ?_
  refine cw_putF (X.up _ _).1 X.2.1 dX8_init_51 gf_RX8_25 rfl rfl rfl rfl (by omega) (show 11 < 25 by decide) ?_
  show CW (xup x 6 1944) G 1 54 [(0, .ref (G.1 + 189))] [] (ov o 189 (some (.inr (7, [.int 0, .ref (G.1 + 190), .int 0, .int 0, .int 0, .int 0, .ref (G.1 + 191), .ref (G.1 + 192), .ref (G.1 + 193), .ref (G.1 + 194), .int 0, .ref (G.1 + 195), .null, .null, .null, .int 0, .null, .null, .null, .null, .int 0, .null, .int 0, .null, .null])))) 196
  refine cw_aload_n (X.up _ _).1 dX8_init_54 rfl 0 rfl ?_
  refine cw_iconst (v := nI 2) (X.up _ _).1 dX8_init_55 (by decide) ?_
  refine cx_newa X h0 h1 1 dX8_init_56 ga_boolean rfl (fun _ _ h => va_nm_boolean h) (fun _ => rfl) (cE_1 (fr _ _ (by omega)) gk_196.2) (by decide) (by decide) (by decide) ?_
  refine cw_putF (X.up _ _).1 X.2.1 dX8_init_58 gf_RX8_28 rfl rfl rfl rfl (by omega) (show 12 < 25 by decide) ?_
  show CW (xup x 7 1946) G 1 61 [(0, .ref (G.1 + 189))] [] (ov o 189 (some (.inr (7, [.int 0, .ref (G.1 + 190), .int 0, .int 0, .int 0, .int 0, .ref (G.1 + 191), .ref (G.1 + 192), .ref (G.1 + 193), .ref (G.1 + 194), .int 0, .ref (G.1 + 195), .ref (G.1 + 196), .null, .null, .int 0, .null, .null, .null, .null, .int 0, .null, .int 0, .null, .null])))) 197
  refine cw_aload_n (X.up _ _).1 dX8_init_61 rfl 0 rfl ?_
  refine cw_bipush (v := nI 8) (X.up _ _).1 dX8_init_62 (by decide) ?_
  refine cx_newa X h0 h1 0 dX8_init_64 ga_int rfl (fun _ _ h => va_nm_int h) (fun _ => rfl) (cE_0 (fr _ _ (by omega)) gk_197.2) (by decide) (by decide) (by decide) ?_
  refine cw_putF (X.up _ _).1 X.2.1 dX8_init_66 gf_RX8_32 rfl rfl rfl rfl (by omega) (show 13 < 25 by decide) ?_
  show CW (xup x 8 1954) G 1 69 [(0, .ref (G.1 + 189))] [] (ov o 189 (some (.inr (7, [.int 0, .ref (G.1 + 190), .int 0, .int 0, .int 0, .int 0, .ref (G.1 + 191), .ref (G.1 + 192), .ref (G.1 + 193), .ref (G.1 + 194), .int 0, .ref (G.1 + 195), .ref (G.1 + 196), .ref (G.1 + 197), .null, .int 0, .null, .null, .null, .null, .int 0, .null, .int 0, .null, .null])))) 198
  refine cw_aload_n (X.up _ _).1 dX8_init_69 rfl 0 rfl ?_
  refine cw_bipush (v := nI 8) (X.up _ _).1 dX8_init_70 (by decide) ?_
  refine cx_newa X h0 h1 0 dX8_init_72 ga_int rfl (fun _ _ h => va_nm_int h) (fun _ => rfl) (cE_0 (fr _ _ (by omega)) gk_198.2) (by decide) (by decide) (by decide) ?_
  refine cw_putF (X.up _ _).1 X.2.1 dX8_init_74 gf_RX8_35 rfl rfl rfl rfl (by omega) (show 14 < 25 by decide) ?_
  show CW (xup x 9 1962) G 1 77 [(0, .ref (G.1 + 189))] [] (ov o 189 (some (.inr (7, [.int 0, .ref (G.1 + 190), .int 0, .int 0, .int 0, .int 0, .ref (G.1 + 191), .ref (G.1 + 192), .ref (G.1 + 193), .ref (G.1 + 194), .int 0, .ref (G.1 + 195), .ref (G.1 + 196), .ref (G.1 + 197), .ref (G.1 + 198), .int 0, .null, .null, .null, .null, .int 0, .null, .int 0, .null, .null])))) 199
  refine cw_aload_n (X.up _ _).1 dX8_init_77 rfl 0 rfl ?_
  refine cw_bipush (v := nI 8) (X.up _ _).1 dX8_init_78 (by decide) ?_
  refine cx_newa X h0 h1 3 dX8_init_80 ga_long rfl (fun _ _ h => va_nm_long h) (fun _ => rfl) (cE_3 (fr _ _ (by omega)) gk_199.2) (by decide) (by decide) (by decide) ?_
  refine cw_putF (X.up _ _).1 X.2.1 dX8_init_82 gf_RX8_38 rfl rfl rfl rfl (by omega) (show 16 < 25 by decide) ?_
  show CW (xup x 10 1970) G 1 85 [(0, .ref (G.1 + 189))] [] (ov o 189 (some (.inr (7, [.int 0, .ref (G.1 + 190), .int 0, .int 0, .int 0, .int 0, .ref (G.1 + 191), .ref (G.1 + 192), .ref (G.1 + 193), .ref (G.1 + 194), .int 0, .ref (G.1 + 195), .ref (G.1 + 196), .ref (G.1 + 197), .ref (G.1 + 198), .int 0, .ref (G.1 + 199), .null, .null, .null, .int 0, .null, .int 0, .null, .null])))) 200
  refine cw_aload_n (X.up _ _).1 dX8_init_85 rfl 0 rfl ?_
  refine cw_bipush (v := nI 8) (X.up _ _).1 dX8_init_86 (by decide) ?_
  refine cx_newa X h0 h1 3 dX8_init_88 ga_long rfl (fun _ _ h => va_nm_long h) (fun _ => rfl) (cE_3 (fr _ _ (by omega)) gk_200.2) (by decide) (by decide) (by decide) ?_
  refine cw_putF (X.up _ _).1 X.2.1 dX8_init_90 gf_RX8_42 rfl rfl rfl rfl (by omega) (show 17 < 25 by decide) ?_
  show CW (xup x 11 1978) G 1 93 [(0, .ref (G.1 + 189))] [] (ov o 189 (some (.inr (7, [.int 0, .ref (G.1 + 190), .int 0, .int 0, .int 0, .int 0, .ref (G.1 + 191), .ref (G.1 + 192), .ref (G.1 + 193), .ref (G.1 + 194), .int 0, .ref (G.1 + 195), .ref (G.1 + 196), .ref (G.1 + 197), .ref (G.1 + 198), .int 0, .ref (G.1 + 199), .ref (G.1 + 200), .null, .null, .int 0, .null, .int 0, .null, .null])))) 201
  refine cw_aload_n (X.up _ _).1 dX8_init_93 rfl 0 rfl ?_
  refine cw_bipush (v := nI 8) (X.up _ _).1 dX8_init_94 (by decide) ?_
  refine cx_newa X h0 h1 0 dX8_init_96 ga_int rfl (fun _ _ h => va_nm_int h) (fun _ => rfl) (cE_0 (fr _ _ (by omega)) gk_201.2) (by decide) (by decide) (by decide) ?_
  refine cw_putF (X.up _ _).1 X.2.1 dX8_init_98 gf_RX8_45 rfl rfl rfl rfl (by omega) (show 18 < 25 by decide) ?_
  show CW (xup x 12 1986) G 1 101 [(0, .ref (G.1 + 189))] [] (ov o 189 (some (.inr (7, [.int 0, .ref (G.1 + 190), .int 0, .int 0, .int 0, .int 0, .ref (G.1 + 191), .ref (G.1 + 192), .ref (G.1 + 193), .ref (G.1 + 194), .int 0, .ref (G.1 + 195), .ref (G.1 + 196), .ref (G.1 + 197), .ref (G.1 + 198), .int 0, .ref (G.1 + 199), .ref (G.1 + 200), .ref (G.1 + 201), .null, .int 0, .null, .int 0, .null, .null])))) 202
  refine cw_aload_n (X.up _ _).1 dX8_init_101 rfl 0 rfl ?_
  refine cw_sipush (v := nI 480) (X.up _ _).1 dX8_init_102 (by decide) ?_
  refine cx_newa X h0 h1 0 dX8_init_105 ga_int rfl (fun _ _ h => va_nm_int h) (fun _ => rfl) (cE_0 (fr _ _ (by omega)) gk_202.2) (by decide) (by decide) (by decide) ?_
  refine cw_putF (X.up _ _).1 X.2.1 dX8_init_107 gf_RX8_48 rfl rfl rfl rfl (by omega) (show 19 < 25 by decide) ?_
  show CW (xup x 13 2466) G 1 110 [(0, .ref (G.1 + 189))] [] (ov o 189 (some (.inr (7, [.int 0, .ref (G.1 + 190), .int 0, .int 0, .int 0, .int 0, .ref (G.1 + 191), .ref (G.1 + 192), .ref (G.1 + 193), .ref (G.1 + 194), .int 0, .ref (G.1 + 195), .ref (G.1 + 196), .ref (G.1 + 197), .ref (G.1 + 198), .int 0, .ref (G.1 + 199), .ref (G.1 + 200), .ref (G.1 + 201), .ref (G.1 + 202), .int 0, .null, .int 0, .null, .null])))) 203
  refine cw_aload_n (X.up _ _).1 dX8_init_110 rfl 0 rfl ?_
  refine cw_bipush (v := nI 14) (X.up _ _).1 dX8_init_111 (by decide) ?_
  refine cx_newa X h0 h1 0 dX8_init_113 ga_int rfl (fun _ _ h => va_nm_int h) (fun _ => rfl) (cE_0 (fr _ _ (by omega)) gk_203.2) (by decide) (by decide) (by decide) ?_
  refine cw_putF (X.up _ _).1 X.2.1 dX8_init_115 gf_RX8_51 rfl rfl rfl rfl (by omega) (show 21 < 25 by decide) ?_
  show CW (xup x 14 2480) G 1 118 [(0, .ref (G.1 + 189))] [] (ov o 189 (some (.inr (7, [.int 0, .ref (G.1 + 190), .int 0, .int 0, .int 0, .int 0, .ref (G.1 + 191), .ref (G.1 + 192), .ref (G.1 + 193), .ref (G.1 + 194), .int 0, .ref (G.1 + 195), .ref (G.1 + 196), .ref (G.1 + 197), .ref (G.1 + 198), .int 0, .ref (G.1 + 199), .ref (G.1 + 200), .ref (G.1 + 201), .ref (G.1 + 202), .int 0, .ref (G.1 + 203), .int 0, .null, .null])))) 204
  refine cw_aload_n (X.up _ _).1 dX8_init_118 rfl 0 rfl ?_
  refine cw_bipush (v := nI 64) (X.up _ _).1 dX8_init_119 (by decide) ?_
  refine cx_newa X h0 h1 0 dX8_init_121 ga_int rfl (fun _ _ h => va_nm_int h) (fun _ => rfl) (cE_0 (fr _ _ (by omega)) gk_204.2) (by decide) (by decide) (by decide) ?_
  refine cw_putF (X.up _ _).1 X.2.1 dX8_init_123 gf_RX8_54 rfl rfl rfl rfl (by omega) (show 23 < 25 by decide) ?_
  show CW (xup x 15 2544) G 1 126 [(0, .ref (G.1 + 189))] [] (ov o 189 (some (.inr (7, [.int 0, .ref (G.1 + 190), .int 0, .int 0, .int 0, .int 0, .ref (G.1 + 191), .ref (G.1 + 192), .ref (G.1 + 193), .ref (G.1 + 194), .int 0, .ref (G.1 + 195), .ref (G.1 + 196), .ref (G.1 + 197), .ref (G.1 + 198), .int 0, .ref (G.1 + 199), .ref (G.1 + 200), .ref (G.1 + 201), .ref (G.1 + 202), .int 0, .ref (G.1 + 203), .int 0, .ref (G.1 + 204), .null])))) 205
  refine cw_aload_n (X.up _ _).1 dX8_init_126 rfl 0 rfl ?_
  refine cw_bipush (v := nI 96) (X.up _ _).1 dX8_init_127 (by decide) ?_
  refine cx_newa X h0 h1 0 dX8_init_129 ga_int rfl (fun _ _ h => va_nm_int h) (fun _ => rfl) (cE_0 (fr _ _ (by omega)) gk_205.2) (by decide) (by decide) (by decide) ?_
  refine cw_putF (X.up _ _).1 X.2.1 dX8_init_131 gf_RX8_57 rfl rfl rfl rfl (by omega) (show 24 < 25 by decide) ?_
  show CW (xup x 16 2640) G 1 134 [(0, .ref (G.1 + 189))] [] (ov o 189 (some (.inr (7, [.int 0, .ref (G.1 + 190), .int 0, .int 0, .int 0, .int 0, .ref (G.1 + 191), .ref (G.1 + 192), .ref (G.1 + 193), .ref (G.1 + 194), .int 0, .ref (G.1 + 195), .ref (G.1 + 196), .ref (G.1 + 197), .ref (G.1 + 198), .int 0, .ref (G.1 + 199), .ref (G.1 + 200), .ref (G.1 + 201), .ref (G.1 + 202), .int 0, .ref (G.1 + 203), .int 0, .ref (G.1 + 204), .ref (G.1 + 205)])))) 206
  refine cw_done (cE_5 (ho _ (by omega)) gk_189.2) ?_
  exact cx_ret X h0 h1 dX8_init_134 (by decide)
theorem k_0 {l : Launch} {G : gw_G} {o : oE} (ho : ∀ q, 151 ≤ q → o q = none) : gw_CM l G yX0_init cX0_init 1 2 151 (ov o 151 (some (.inr (0, [.null, .null, .null, .null, .null, .null, .int 0, .int 0, .int 0])))) 152 o 167 15 624 := by
  have fr : ∀ (e : Option va_E) (q : Nat), 151 < q → ov o 151 e q = none := fun e q hq => (ov_ne _ _ (by omega)).trans (ho q (by omega))
  refine gw_cmet (by decide) rfl (by decide) ?_
  intro x hx X h0 h1
  show CW (xup x 0 0) G _ _ _ _ _ _
  refine cw_aload_n (X.up _ _).1 dX0_init_0 rfl 0 rfl ?_
  refine cx_obj X dX0_init_1 gl_RX0_3 (by decide) ?_
  refine cw_aload_n (X.up _ _).1 dX0_init_4 rfl 0 rfl ?_
  refine cx_new X h0 h1 3 2 rfl dX0_init_5 (by decide) gc_RX0_9 gi_4 gj_4 fd_4 (by decide) ?_
  refine cw_dup (X.up _ _).1 dX0_init_8 rfl ?_
  refine cx_callN X h0 h1 dX0_init_9 (k_4 gr_152 (fun q hq => fr _ q (by omega))) ki_4 gn_RX0_11 (by decide) (by decide) (by decide) (show 2 ≤ 8 by decide) ?_
  refine cw_putF (X.up _ _).1 X.2.1 dX0_init_12 gf_RX0_12 rfl rfl rfl rfl (by omega) (show 0 < 9 by decide) ?_
  refine cw_aload_n (X.up _ _).1 dX0_init_15 rfl 0 rfl ?_
  refine cx_new X h0 h1 2 10 rfl dX0_init_16 (by decide) gc_RX0_18 gi_3 gj_3 fd_3 (by decide) ?_
  refine cw_dup (X.up _ _).1 dX0_init_19 rfl ?_
  refine cx_callN X h0 h1 dX0_init_20 (k_3 gp_154 (fun q hq => fr _ q (by omega))) ki_3 gn_RX0_20 (by decide) (by decide) (by decide) (show 2 ≤ 8 by decide) ?_
  refine cw_putF (X.up _ _).1 X.2.1 dX0_init_23 gf_RX0_21 rfl rfl rfl rfl (by omega) (show 1 < 9 by decide) ?_
  refine cw_aload_n (X.up _ _).1 dX0_init_26 rfl 0 rfl ?_
  refine cw_bipush (v := nI 8) (X.up _ _).1 dX0_init_27 (by decide) ?_
  refine cx_newa X h0 h1 0 dX0_init_29 ga_int rfl (fun _ _ h => va_nm_int h) (fun _ => rfl) (cE_0 (fr _ _ (by omega)) gk_163.2) (by decide) (by decide) (by decide) ?_
  refine cw_putF (X.up _ _).1 X.2.1 dX0_init_31 gf_RX0_25 rfl rfl rfl rfl (by omega) (show 2 < 9 by decide) ?_
  refine cw_aload_n (X.up _ _).1 dX0_init_34 rfl 0 rfl ?_
  refine cw_bipush (v := nI 8) (X.up _ _).1 dX0_init_35 (by decide) ?_
  refine cx_newa X h0 h1 0 dX0_init_37 ga_int rfl (fun _ _ h => va_nm_int h) (fun _ => rfl) (cE_0 (fr _ _ (by omega)) gk_164.2) (by decide) (by decide) (by decide) ?_
  refine cw_putF (X.up _ _).1 X.2.1 dX0_init_39 gf_RX0_29 rfl rfl rfl rfl (by omega) (show 3 < 9 by decide) ?_
  refine cw_aload_n (X.up _ _).1 dX0_init_42 rfl 0 rfl ?_
  refine cw_sipush (v := nI 480) (X.up _ _).1 dX0_init_43 (by decide) ?_
  refine cx_newa X h0 h1 0 dX0_init_46 ga_int rfl (fun _ _ h => va_nm_int h) (fun _ => rfl) (cE_0 (fr _ _ (by omega)) gk_165.2) (by decide) (by decide) (by decide) ?_
  refine cw_putF (X.up _ _).1 X.2.1 dX0_init_48 gf_RX0_32 rfl rfl rfl rfl (by omega) (show 4 < 9 by decide) ?_
  refine cw_aload_n (X.up _ _).1 dX0_init_51 rfl 0 rfl ?_
  refine cw_bipush (v := nI 14) (X.up _ _).1 dX0_init_52 (by decide) ?_
  refine cx_newa X h0 h1 0 dX0_init_54 ga_int rfl (fun _ _ h => va_nm_int h) (fun _ => rfl) (cE_0 (fr _ _ (by omega)) gk_166.2) (by decide) (by decide) (by decide) ?_
  refine cw_putF (X.up _ _).1 X.2.1 dX0_init_56 gf_RX0_35 rfl rfl rfl rfl (by omega) (show 5 < 9 by decide) ?_
  refine cw_done (cE_5 (ho _ (by omega)) gk_151.2) ?_
  exact cx_ret X h0 h1 dX0_init_59 (by decide)
theorem gpl : ∀ i, i < 14 → gw_plan (14 + 9 * i) := by
  intro i h
  match i, h with
  | 0, _ => exact gp_14
  | 1, _ => exact gp_23
  | 2, _ => exact gp_32
  | 3, _ => exact gp_41
  | 4, _ => exact gp_50
  | 5, _ => exact gp_59
  | 6, _ => exact gp_68
  | 7, _ => exact gp_77
  | 8, _ => exact gp_86
  | 9, _ => exact gp_95
  | 10, _ => exact gp_104
  | 11, _ => exact gp_113
  | 12, _ => exact gp_122
  | 13, _ => exact gp_131
  | i + 14, h => exact absurd h (by omega)
def hF (B n : Nat) : Nat → Option Nat := fun j => if j < n then some (B + (14 + 9 * j)) else none
theorem hF_up (B n : Nat) : va_up (hF B n) n (some (B + (14 + 9 * n))) = hF B (n + 1) := by
  funext j
  unfold va_up hF
  by_cases h : j = n
  · subst h; rw [if_pos rfl, if_pos (Nat.lt_succ_self _)]
  · rw [if_neg h]
    by_cases h2 : j < n
    · rw [if_pos h2, if_pos (by omega)]
    · rw [if_neg h2, if_neg (by omega)]
theorem hF_all (G : gw_G) : cE G oN 13 = .inl (G.2.2.1.2.2.2.2, 14, .inr (.inr (.inr (.inr (hF G.1 14))))) := by
  rw [cE_no G (show oN 13 = none from rfl), gw_ct4 gk_13.2]
  have e : (fun j => (([some 14, some 23, some 32, some 41, some 50, some 59, some 68, some 77, some 86, some 95, some 104, some 113, some 122, some 131] : List (Option Nat)).getD j none).map (fun z => G.1 + z)) = hF G.1 14 := by
    funext j
    match j with
    | 0 => rfl
    | 1 => rfl
    | 2 => rfl
    | 3 => rfl
    | 4 => rfl
    | 5 => rfl
    | 6 => rfl
    | 7 => rfl
    | 8 => rfl
    | 9 => rfl
    | 10 => rfl
    | 11 => rfl
    | 12 => rfl
    | 13 => rfl
    | j + 14 => exact (if_neg (by omega)).symm
  rw [e]
theorem hist_loop {G : gw_G} {o : oE} (ho : ∀ q, 12 ≤ q → o q = none) {x : gw_X} (X : CX x G yX2_init.cls cX2_init 2 2 127 1470 o 140) (h0 : xk x = 0) (h1 : xn x = 0) : ∀ (m i : Nat), i + m = 14 → CW (xup x (1 + 9 * i) (14 + 104 * i)) G 2 15 [(1, .int (nI i)), (0, .ref (G.1 + 12))] [] (ov o 13 (some (.inl (G.2.2.1.2.2.2.2, 14, .inr (.inr (.inr (.inr (hF G.1 i)))))))) (14 + 9 * i) := by
  have fr : ∀ (e : Option va_E) (q : Nat), q ≠ 13 → 12 ≤ q → ov o 13 e q = none := fun e q hq hl => (ov_ne _ _ hq).trans (ho q hl)
  intro m
  induction m with
  | zero =>
    intro i hi
    obtain rfl : i = 14 := by omega
    refine cw_iload_n (X.up _ _).1 dX2_init_15 rfl 0 rfl ?_
    refine cw_bipush (v := nI 14) (X.up _ _).1 dX2_init_16 (by decide) ?_
    refine cw_icmp_ge (tgt := 40) (X.up _ _).1 dX2_init_18 (by decide) (fun _ => ?_) (fun z => absurd (Int32.le_refl _) z)
    have e13 : cE G o 13 = .inl (G.2.2.1.2.2.2.2, 14, .inr (.inr (.inr (.inr (hF G.1 14))))) := (cE_no G (ho 13 (by omega))).trans (hF_all G)
    refine cw_done e13 ?_
    exact cx_ret X h0 h1 dX2_init_40 (by decide)
  | succ m ih =>
    intro i hi
    refine cw_iload_n (X.up _ _).1 dX2_init_15 rfl 0 rfl ?_
    refine cw_bipush (v := nI 14) (X.up _ _).1 dX2_init_16 (by decide) ?_
    refine cw_icmp_ge (tgt := 40) (X.up _ _).1 dX2_init_18 (by decide) (fun z => absurd z (by rw [Int32.le_iff_toInt_le, nI_toInt (by omega), nI_toInt (by omega)]; omega)) (fun _ => ?_)
    refine cw_aload_n (X.up _ _).1 dX2_init_21 rfl 1 rfl ?_
    refine cw_getf (X.up _ _).1 dX2_init_22 gf_RX2_11 (by omega) (cE_5 (fr _ 12 (by decide) (by decide)) gk_12.2) rfl ?_
    refine cw_iload_n (X.up _ _).1 dX2_init_25 rfl 0 rfl ?_
    refine cx_new X h0 h1 2 10 rfl dX2_init_26 (by decide) gc_RX2_9 gi_3 gj_3 fd_3 ⟨by omega, by omega⟩ ?_
    refine cw_dup (X.up _ _).1 dX2_init_29 rfl ?_
    refine cx_callN X h0 h1 dX2_init_30 (k_3 (gpl i (by omega)) (fun q hq => fr _ q (by omega) (by omega))) ki_3 gn_RX2_17 (by decide) (by decide) ⟨by omega, by omega⟩ (show 3 ≤ 8 by decide) ?_
    refine cw_astq (n := 14) (f := hF G.1 i) (X.up _ _).1 dX2_init_33 (by omega) (by omega) (cE_ov G o 13 _) (cE_5 (fr _ _ (by omega) (by omega)) (gpl i (by omega)).2.1) (by omega) (by decide) ?_
    rw [ov_ov, hF_up]
    refine cw_iinc (j := 0) (v := nI (i + 1)) (X.up _ _).1 dX2_init_34 rfl (by rw [← nI_add]; rfl) (by decide) rfl ?_
    refine cw_goto (tgt := 15) (X.up _ _).1 dX2_init_37 (by decide) ?_
    have k := ih (i + 1) (by omega)
    rw [show 1 + 9 * (i + 1) = 1 + 9 * i + 1 + 8 by omega, show 14 + 104 * (i + 1) = 14 + 104 * i + 10 + 94 by omega, show 14 + 9 * (i + 1) = 14 + 9 * i + 9 by omega] at k
    exact k
theorem k_2 {l : Launch} {G : gw_G} {o : oE} (ho : ∀ q, 12 ≤ q → o q = none) : gw_CM l G yX2_init cX2_init 2 2 12 (ov o 12 (some (.inr (1, [.null, .int 0, .int 0])))) 13 o 140 127 1470 := by
  refine gw_cmet (by decide) rfl (by decide) ?_
  intro x hx X h0 h1
  show CW (xup x 0 0) G _ _ _ _ _ _
  refine cw_aload_n (X.up _ _).1 dX2_init_0 rfl 0 rfl ?_
  refine cx_obj X dX2_init_1 gl_RX2_3 (by decide) ?_
  refine cw_aload_n (X.up _ _).1 dX2_init_4 rfl 0 rfl ?_
  refine cw_bipush (v := nI 14) (X.up _ _).1 dX2_init_5 (by decide) ?_
  refine cx_newq X h0 h1 dX2_init_7 gc_RX2_9 (by decide) (by decide) (by decide) ?_
  rw [ov_comm o (some (.inr (1, [.null, .int 0, .int 0]))) _ (show 12 ≠ 13 by decide)]
  refine cw_putF (X.up _ _).1 X.2.1 dX2_init_10 gf_RX2_11 rfl rfl rfl rfl (by omega) (show 0 < 3 by decide) ?_
  refine cw_done (cE_5 ((ov_ne _ _ (by decide)).trans (ho 12 (by omega))) gk_12.2) ?_
  refine cw_iconst (v := nI 0) (X.up _ _).1 dX2_init_13 (by decide) ?_
  refine cw_istore_n (X.up _ _).1 dX2_init_14 rfl (by decide) rfl ?_
  exact hist_loop ho X h0 h1 14 0 rfl
theorem ov0 {e : Option va_E} {q : Nat} (h : 0 < q) : ov oN 0 e q = none := ov_ne _ _ (by omega)
theorem ov1 {e a : Option va_E} {q : Nat} (h : 140 < q) : ov (ov oN 140 a) 0 e q = none := (ov_ne _ _ (by omega)).trans (ov_ne _ _ (by omega))
def sF (B n : Nat) : Nat → Option Nat := fun j => if j < n then some (B + (171 + 9 * j)) else none
theorem sF_up (B n : Nat) : va_up (sF B n) n (some (B + (171 + 9 * n))) = sF B (n + 1) := by
  funext j
  unfold va_up sF
  by_cases h : j = n
  · subst h; rw [if_pos rfl, if_pos (Nat.lt_succ_self _)]
  · rw [if_neg h]
    by_cases h2 : j < n
    · rw [if_pos h2, if_pos (by omega)]
    · rw [if_neg h2, if_neg (by omega)]
theorem sF_all (G : gw_G) : cE G oN 140 = .inl (G.2.2.1.2.2.2.2, 2, .inr (.inr (.inr (.inr (sF G.1 2))))) := by
  rw [cE_no G (show oN 140 = none from rfl), gw_ct4 gk_140.2]
  have e : (fun j => (([some 171, some 180] : List (Option Nat)).getD j none).map (fun z => G.1 + z)) = sF G.1 2 := by
    funext j
    match j with
    | 0 => rfl
    | 1 => rfl
    | j + 2 => exact (if_neg (by omega)).symm
  rw [e]
theorem gps : ∀ i, i < 2 → gw_plan (171 + 9 * i) := by
  intro i h
  match i, h with
  | 0, _ => exact gp_171
  | 1, _ => exact gp_180
  | i + 2, h => exact absurd h (by omega)
theorem rw_loop {G : gw_G} {x : gw_X} (X : CX x G yX7_init.cls cX7_init 2 3 188 2667 oN 189) (h0 : xk x = 0) (h1 : xn x = 0) : ∀ (m i : Nat), i + m = 2 → CW (xup x (170 + 9 * i) (2459 + 104 * i)) G 2 98 [(1, .int (nI i)), (0, .ref (G.1 + 0))] [] (ov oN 140 (some (.inl (G.2.2.1.2.2.2.2, 2, .inr (.inr (.inr (.inr (sF G.1 i)))))))) (171 + 9 * i) := by
  have fr : ∀ (e : Option va_E) (q : Nat), q ≠ 140 → ov oN 140 e q = none := fun e q hq => ov_ne _ _ hq
  intro m
  induction m with
  | zero =>
    intro i hi
    obtain rfl : i = 2 := by omega
    refine cw_iload_n (X.up _ _).1 dX7_init_98 rfl 0 rfl ?_
    refine cw_iconst (v := nI 2) (X.up _ _).1 dX7_init_99 (by decide) ?_
    refine cw_icmp_ge (tgt := 122) (X.up _ _).1 dX7_init_100 (by decide) (fun _ => ?_) (fun z => absurd (Int32.le_refl _) z)
    refine cw_done (sF_all G) ?_
    exact cx_ret X h0 h1 dX7_init_122 (by decide)
  | succ m ih =>
    intro i hi
    refine cw_iload_n (X.up _ _).1 dX7_init_98 rfl 0 rfl ?_
    refine cw_iconst (v := nI 2) (X.up _ _).1 dX7_init_99 (by decide) ?_
    refine cw_icmp_ge (tgt := 122) (X.up _ _).1 dX7_init_100 (by decide) (fun z => absurd z (by rw [Int32.le_iff_toInt_le, nI_toInt (by omega), nI_toInt (by omega)]; omega)) (fun _ => ?_)
    refine cw_aload_n (X.up _ _).1 dX7_init_103 rfl 1 rfl ?_
    refine cw_getf (X.up _ _).1 dX7_init_104 gf_RX7_30 (by omega) (cE_5 (fr _ 0 (by decide)) gk_0.2) rfl ?_
    refine cw_iload_n (X.up _ _).1 dX7_init_107 rfl 0 rfl ?_
    refine cx_new X h0 h1 2 10 rfl dX7_init_108 (by decide) gc_RX7_16 gi_3 gj_3 fd_3 ⟨by omega, by omega⟩ ?_
    refine cw_dup (X.up _ _).1 dX7_init_111 rfl ?_
    refine cx_callN X h0 h1 dX7_init_112 (k_3 (gps i (by omega)) (fun q hq => fr _ q (by omega))) ki_3 gn_RX7_18 (by decide) (by decide) ⟨by omega, by omega⟩ (show 3 ≤ 8 by decide) ?_
    refine cw_astq (n := 2) (f := sF G.1 i) (X.up _ _).1 dX7_init_115 (by omega) (by omega) (cE_ov G oN 140 _) (cE_5 (fr _ _ (by omega)) (gps i (by omega)).2.1) (by omega) (by decide) ?_
    rw [ov_ov, sF_up]
    refine cw_iinc (j := 0) (v := nI (i + 1)) (X.up _ _).1 dX7_init_116 rfl (by rw [← nI_add]; rfl) (by decide) rfl ?_
    refine cw_goto (tgt := 98) (X.up _ _).1 dX7_init_119 (by decide) ?_
    have k := ih (i + 1) (by omega)
    rw [show 170 + 9 * (i + 1) = 170 + 9 * i + 1 + 8 by omega, show 2459 + 104 * (i + 1) = 2459 + 104 * i + 10 + 94 by omega, show 171 + 9 * (i + 1) = 171 + 9 * i + 9 by omega] at k
    exact k
theorem k_7 {l : Launch} {G : gw_G} : gw_CM l G yX7_init cX7_init 2 3 0 (ov oN 0 (some (.inr (6, [.null, .null, .null, .null, .null, .null, .null, .null, .null])))) 1 oN 189 188 2667 := by
  refine gw_cmet (by decide) rfl (by decide) ?_
  intro x hx X h0 h1
  show CW (xup x 0 0) G _ _ _ _ _ _
  refine cw_aload_n (X.up _ _).1 dX7_init_0 rfl 0 rfl ?_
  refine cx_obj X dX7_init_1 gl_RX7_1 (by decide) ?_
  refine cw_aload_n (X.up _ _).1 dX7_init_4 rfl 0 rfl ?_
  refine cx_new X h0 h1 4 2 rfl dX7_init_5 (by decide) gc_RX7_7 gi_5 gj_5 fd_5 (by decide) ?_
  refine cw_dup (X.up _ _).1 dX7_init_8 rfl ?_
  refine cx_callN X h0 h1 dX7_init_9 (k_5 (fun q hq => ov0 (by omega))) ki_5 gn_RX7_9 (by decide) (by decide) (by decide) (show 2 ≤ 8 by decide) ?_
  refine cw_putF (X.up _ _).1 X.2.1 dX7_init_12 gf_RX7_10 rfl rfl rfl rfl (by omega) (show 0 < 9 by decide) ?_
  refine cw_aload_n (X.up _ _).1 dX7_init_15 rfl 0 rfl ?_
  refine cx_new X h0 h1 2 10 rfl dX7_init_16 (by decide) gc_RX7_16 gi_3 gj_3 fd_3 (by decide) ?_
  refine cw_dup (X.up _ _).1 dX7_init_19 rfl ?_
  refine cx_callN X h0 h1 dX7_init_20 (k_3 gp_3 (fun q hq => ov0 (by omega))) ki_3 gn_RX7_18 (by decide) (by decide) (by decide) (show 2 ≤ 8 by decide) ?_
  refine cw_putF (X.up _ _).1 X.2.1 dX7_init_23 gf_RX7_19 rfl rfl rfl rfl (by omega) (show 1 < 9 by decide) ?_
  refine cw_aload_n (X.up _ _).1 dX7_init_26 rfl 0 rfl ?_
  refine cx_new X h0 h1 1 3 rfl dX7_init_27 (by decide) gc_RX7_23 gi_2 gj_2 fd_2 (by decide) ?_
  refine cw_dup (X.up _ _).1 dX7_init_30 rfl ?_
  refine cx_callL X h0 h1 dX7_init_31 (k_2 (fun q hq => ov0 (by omega))) ki_2 gl_RX7_25 (by decide) (by decide) (by decide) (show 2 ≤ 8 by decide) ?_
  refine cw_putF (X.up _ _).1 X.2.1 dX7_init_34 gf_RX7_26 rfl rfl rfl rfl (by omega) (show 2 < 9 by decide) ?_
  refine cw_aload_n (X.up _ _).1 dX7_init_37 rfl 0 rfl ?_
  refine cw_iconst (v := nI 2) (X.up _ _).1 dX7_init_38 (by decide) ?_
  refine cx_newq X h0 h1 dX7_init_39 gc_RX7_16 (by decide) (by decide) (by decide) ?_
  rw [ov_comm oN _ _ (show 0 ≠ 140 by decide)]
  refine cw_putF (X.up _ _).1 X.2.1 dX7_init_42 gf_RX7_30 rfl rfl rfl rfl (by omega) (show 3 < 9 by decide) ?_
  refine cw_aload_n (X.up _ _).1 dX7_init_45 rfl 0 rfl ?_
  refine cw_iconst (v := nI 2) (X.up _ _).1 dX7_init_46 (by decide) ?_
  refine cx_newa X h0 h1 1 dX7_init_47 ga_boolean rfl (fun _ _ h => va_nm_boolean h) (fun _ => rfl) (cE_1 (ov1 (by omega)) gk_141.2) (by decide) (by decide) (by decide) ?_
  refine cw_putF (X.up _ _).1 X.2.1 dX7_init_49 gf_RX7_34 rfl rfl rfl rfl (by omega) (show 4 < 9 by decide) ?_
  refine cw_aload_n (X.up _ _).1 dX7_init_52 rfl 0 rfl ?_
  refine cx_new X h0 h1 2 10 rfl dX7_init_53 (by decide) gc_RX7_16 gi_3 gj_3 fd_3 (by decide) ?_
  refine cw_dup (X.up _ _).1 dX7_init_56 rfl ?_
  refine cx_callN X h0 h1 dX7_init_57 (k_3 gp_142 (fun q hq => ov1 (by omega))) ki_3 gn_RX7_18 (by decide) (by decide) (by decide) (show 2 ≤ 8 by decide) ?_
  refine cw_putF (X.up _ _).1 X.2.1 dX7_init_60 gf_RX7_38 rfl rfl rfl rfl (by omega) (show 5 < 9 by decide) ?_
  refine cw_aload_n (X.up _ _).1 dX7_init_63 rfl 0 rfl ?_
  refine cx_new X h0 h1 0 9 rfl dX7_init_64 (by decide) gc_RX7_41 gi_0 gj_0 fd_0 (by decide) ?_
  refine cw_dup (X.up _ _).1 dX7_init_67 rfl ?_
  refine cx_callN X h0 h1 dX7_init_68 (k_0 (fun q hq => ov1 (by omega))) ki_0 gn_RX7_43 (by decide) (by decide) (by decide) (show 2 ≤ 8 by decide) ?_
  refine cw_putF (X.up _ _).1 X.2.1 dX7_init_71 gf_RX7_44 rfl rfl rfl rfl (by omega) (show 6 < 9 by decide) ?_
  refine cw_aload_n (X.up _ _).1 dX7_init_74 rfl 0 rfl ?_
  refine cx_new X h0 h1 3 2 rfl dX7_init_75 (by decide) gc_RX7_48 gi_4 gj_4 fd_4 (by decide) ?_
  refine cw_dup (X.up _ _).1 dX7_init_78 rfl ?_
  refine cx_callN X h0 h1 dX7_init_79 (k_4 gr_167 (fun q hq => ov1 (by omega))) ki_4 gn_RX7_50 (by decide) (by decide) (by decide) (show 2 ≤ 8 by decide) ?_
  refine cw_putF (X.up _ _).1 X.2.1 dX7_init_82 gf_RX7_51 rfl rfl rfl rfl (by omega) (show 7 < 9 by decide) ?_
  refine cw_aload_n (X.up _ _).1 dX7_init_85 rfl 0 rfl ?_
  refine cx_new X h0 h1 5 1 rfl dX7_init_86 (by decide) gc_RX7_55 gi_6 gj_6 fd_6 (by decide) ?_
  refine cw_dup (X.up _ _).1 dX7_init_89 rfl ?_
  refine cx_callN X h0 h1 dX7_init_90 (k_6 (fun q hq => ov1 (by omega))) ki_6 gn_RX7_57 (by decide) (by decide) (by decide) (show 2 ≤ 8 by decide) ?_
  refine cw_putF (X.up _ _).1 X.2.1 dX7_init_93 gf_RX7_58 rfl rfl rfl rfl (by omega) (show 8 < 9 by decide) ?_
  refine cw_done (cE_5 (ov_ne _ _ (by decide)) gk_0.2) ?_
  refine cw_iconst (v := nI 0) (X.up _ _).1 dX7_init_96 (by decide) ?_
  refine cw_istore_n (X.up _ _).1 dX7_init_97 rfl (by decide) rfl ?_
  exact rw_loop X h0 h1 2 0 rfl
