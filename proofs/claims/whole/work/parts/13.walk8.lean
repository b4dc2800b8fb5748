set_option maxRecDepth 4000 in
theorem sg_X8_copy_0 {x : gw_X} {G : gw_G} {Φ : gw_S → Prop} (C : XC x G RX8 cX8_copy 6 none) (hR : gw_ok x 0) (hT : RT x G (fv Φ)) (k0 : Nat) (n0 : Nat) (v1 : Int32) (k2 : Nat) (n2 : Nat) (v3 : Int32) (v4 : Int32) (hk0 : gw_ia k0 n0) (hk2 : gw_ia k2 n2) (σ : gw_S)
    (h : PW x G 6 3 [(0, .ref (G.1 + k0)), (1, .int v1), (2, .ref (G.1 + k2)), (3, .int v3), (4, .int v4), (5, .int 0)] [] σ) : PW x G 6 0 [(0, .ref (G.1 + k0)), (1, .int v1), (2, .ref (G.1 + k2)), (3, .int v3), (4, .int v4)] [] σ := by
  refine pw_iconst (v := 0) C dX8_copy_0 (by decide) ?_
  refine pw_istore C dX8_copy_1 (by decide) rfl ?_
  exact pw_sub [1, 2, 3, 4, 5, 0] rfl h
set_option maxRecDepth 4000 in
theorem sg_X8_copy_3 {x : gw_X} {G : gw_G} {Φ : gw_S → Prop} (C : XC x G RX8 cX8_copy 6 none) (hR : gw_ok x 0) (hT : RT x G (fv Φ)) (k0 : Nat) (n0 : Nat) (k2 : Nat) (n2 : Nat) (hk0 : gw_ia k0 n0) (hk2 : gw_ia k2 n2) (v1 : Int32) (v3 : Int32) (v4 : Int32) (v5 : Int32) (σ : gw_S)
    (h : (v4 ≤ v5 → Φ σ) ∧ (¬ (v4 ≤ v5) → vp_in (v1 + v5) n0 ∧ (vp_in (v3 + v5) n2 ∧ (∀ τ3 : gw_S, τ3 = gw_u σ k2 ((v3 + v5).toNatClampNeg) (σ.1 k0 ((v1 + v5).toNatClampNeg)) → (PW x G 6 3 [(0, .ref (G.1 + k0)), (1, .int v1), (2, .ref (G.1 + k2)), (3, .int v3), (4, .int v4), (5, .int (v5 + 1))] [] τ3))))) : PW x G 6 3 [(0, .ref (G.1 + k0)), (1, .int v1), (2, .ref (G.1 + k2)), (3, .int v3), (4, .int v4), (5, .int v5)] [] σ := by
  refine pw_iload C dX8_copy_3 5 rfl ?_
  refine pw_iload C dX8_copy_5 4 rfl ?_
  refine pw_icmp_ge (tgt := 28) C dX8_copy_7 (by decide) (fun q => ?_) (fun q => ?_)
  · replace h := h.1 q
    exact pw_vret C hT dX8_copy_28 h
  · replace h := h.2 q
    refine pw_aload_n C dX8_copy_10 rfl 2 rfl ?_
    refine pw_iload_n C dX8_copy_11 rfl 3 rfl ?_
    refine pw_iload C dX8_copy_12 5 rfl ?_
    refine pw_iadd C dX8_copy_14 ?_
    refine pw_aload_n C dX8_copy_15 rfl 0 rfl ?_
    refine pw_iload_n C dX8_copy_16 rfl 1 rfl ?_
    refine pw_iload C dX8_copy_17 5 rfl ?_
    refine pw_iadd C dX8_copy_19 ?_
    obtain ⟨g1, h⟩ := h
    refine pw_iald C dX8_copy_20 hk0.1 hk0.2 g1 ?_
    obtain ⟨g2, h⟩ := h
    refine pw_iast C dX8_copy_21 hk2.1 hk2.2 g2 ?_
    generalize hτ3 : gw_u σ k2 ((v3 + v5).toNatClampNeg) (σ.1 k0 ((v1 + v5).toNatClampNeg)) = τ3
    replace h := h τ3 hτ3.symm
    show PW x G 6 22 [(0, .ref (G.1 + k0)), (1, .int v1), (2, .ref (G.1 + k2)), (3, .int v3), (4, .int v4), (5, .int v5)] [] τ3
    refine pw_iinc (v := (v5 + 1)) (j := 5) C dX8_copy_22 rfl rfl (by decide) rfl ?_
    refine pw_goto (tgt := 3) C dX8_copy_25 (by decide) ?_
    exact pw_sub [1, 2, 3, 4, 5, 0] rfl h
set_option maxRecDepth 4000 in
theorem sg_X8_tenTo_0 {x : gw_X} {G : gw_G} {Φ : Int64 → gw_S → Prop} (C : XC x G RX8 cX8_tenTo 4 (some .long)) (hR : gw_ok x 0) (hT : RT x G (fl Φ)) (v0 : Int32) (σ : gw_S)
    (h : PW x G 4 4 [(0, .int v0), (1, .long 1), (3, .int 0)] [] σ) : PW x G 4 0 [(0, .int v0)] [] σ := by
  refine pw_lconst (v := 1) C dX8_tenTo_0 (by decide) ?_
  refine pw_lstore_n C dX8_tenTo_1 rfl (by decide) rfl ?_
  refine pw_iconst (v := 0) C dX8_tenTo_2 (by decide) ?_
  refine pw_istore_n C dX8_tenTo_3 rfl (by decide) rfl ?_
  exact pw_sub [2, 1, 0] rfl h
set_option maxRecDepth 4000 in
theorem sg_X8_tenTo_4 {x : gw_X} {G : gw_G} {Φ : Int64 → gw_S → Prop} (C : XC x G RX8 cX8_tenTo 4 (some .long)) (hR : gw_ok x 0) (hT : RT x G (fl Φ)) (v0 : Int32) (v1 : Int64) (v3 : Int32) (σ : gw_S)
    (h : (v0 ≤ v3 → Φ v1 σ) ∧ (¬ (v0 ≤ v3) → PW x G 4 4 [(0, .int v0), (1, .long (v1 * 10)), (3, .int (v3 + 1))] [] σ)) : PW x G 4 4 [(0, .int v0), (1, .long v1), (3, .int v3)] [] σ := by
  refine pw_iload_n C dX8_tenTo_4 rfl 2 rfl ?_
  refine pw_iload_n C dX8_tenTo_5 rfl 0 rfl ?_
  refine pw_icmp_ge (tgt := 21) C dX8_tenTo_6 (by decide) (fun q => ?_) (fun q => ?_)
  · replace h := h.1 q
    refine pw_lload_n C dX8_tenTo_21 rfl 1 rfl ?_
    exact pw_lret C hT dX8_tenTo_22 h
  · replace h := h.2 q
    refine pw_lload_n C dX8_tenTo_9 rfl 1 rfl ?_
    refine pw_ldc2 C dX8_tenTo_10 gl_RX8_64 ?_
    refine pw_lmul C dX8_tenTo_13 ?_
    refine pw_lstore_n C dX8_tenTo_14 rfl (by decide) rfl ?_
    refine pw_iinc (v := (v3 + 1)) (j := 2) C dX8_tenTo_15 rfl rfl (by decide) rfl ?_
    refine pw_goto (tgt := 4) C dX8_tenTo_18 (by decide) ?_
    exact pw_sub [2, 1, 0] rfl h
set_option maxRecDepth 4000 in
theorem sg_X8_remember_0 {x : gw_X} {G : gw_G} {Φ : gw_S → Prop} (C : XC x G RX8 cX8_remember 1 none) (hR : gw_ok x 1) (hT : RT x G (fv Φ))  (σ : gw_S)
    (h : (¬ ((σ.1 189 10) = 14) → ∃ Φ1 : gw_S → Prop, gw_M (xl x) G yX8_copy cX8_copy 6 none 0 [.ref (G.1 + 192), .int 0, .ref (G.1 + 194), .int (96 * (σ.1 189 10)), .int 96] σ (fv Φ1) ∧ ∀ (τ2 : gw_S), Φ1 τ2 → (∀ τ3 : gw_S, τ3 = gw_u τ2 189 10 ((τ2.1 189 10) + 1) → (Φ τ3))) ∧ ((σ.1 189 10) = 14 → ∃ Φ4 : gw_S → Prop, gw_M (xl x) G yX8_copy cX8_copy 6 none 0 [.ref (G.1 + 194), .int 96, .ref (G.1 + 194), .int 0, .int 1248] σ (fv Φ4) ∧ ∀ (τ5 : gw_S), Φ4 τ5 → (∀ τ6 : gw_S, τ6 = gw_u τ5 189 10 ((τ5.1 189 10) - 1) → (∃ Φ7 : gw_S → Prop, gw_M (xl x) G yX8_copy cX8_copy 6 none 0 [.ref (G.1 + 192), .int 0, .ref (G.1 + 194), .int (96 * (τ6.1 189 10)), .int 96] τ6 (fv Φ7) ∧ ∀ (τ8 : gw_S), Φ7 τ8 → (∀ τ9 : gw_S, τ9 = gw_u τ8 189 10 ((τ8.1 189 10) + 1) → (Φ τ9)))))) : PW x G 1 0 [(0, .ref (G.1 + 189))] [] σ := by
  refine pw_aload_n C dX8_remember_0 rfl 0 rfl ?_
  refine pw_geti C dX8_remember_1 gf_RX8_66 gk_189.1 gk_189.2 rfl ?_
  refine pw_bipush (v := 14) C dX8_remember_4 (by decide) ?_
  refine pw_icmp_ne (tgt := 36) C dX8_remember_6 (by decide) (fun q => ?_) (fun q => ?_)
  · replace h := h.1 q
    refine pw_aload_n C dX8_remember_36 rfl 0 rfl ?_
    refine pw_getr C dX8_remember_37 gf_RX8_16 gk_189.1 gk_189.2 rfl ?_
    refine pw_iconst (v := 0) C dX8_remember_40 (by decide) ?_
    refine pw_aload_n C dX8_remember_41 rfl 0 rfl ?_
    refine pw_getr C dX8_remember_42 gf_RX8_22 gk_189.1 gk_189.2 rfl ?_
    refine pw_bipush (v := 96) C dX8_remember_45 (by decide) ?_
    refine pw_aload_n C dX8_remember_47 rfl 0 rfl ?_
    refine pw_geti C dX8_remember_48 gf_RX8_66 gk_189.1 gk_189.2 rfl ?_
    refine pw_imul C dX8_remember_51 ?_
    refine pw_bipush (v := 96) C dX8_remember_52 (by decide) ?_
    obtain ⟨Φ1, hM, h⟩ := h
    refine pw_callS C dX8_remember_54 hM gm_X8_copy gl_RX8_69 rfl hR (by decide) (by decide) rfl (Nat.le_of_ble_eq_true rfl) ?_
    rintro _ τ2 ⟨rfl, hv⟩
    replace h := h τ2 hv
    show PW x G 1 57 [(0, .ref (G.1 + 189))] [] τ2
    refine pw_aload_n C dX8_remember_57 rfl 0 rfl ?_
    refine pw_dup C dX8_remember_58 rfl ?_
    refine pw_geti C dX8_remember_59 gf_RX8_66 gk_189.1 gk_189.2 rfl ?_
    refine pw_iconst (v := 1) C dX8_remember_62 (by decide) ?_
    refine pw_iadd C dX8_remember_63 ?_
    refine pw_puti C dX8_remember_64 gf_RX8_66 rfl rfl rfl gk_189.1 gk_189.2 rfl ?_
    generalize hτ3 : gw_u τ2 189 10 ((τ2.1 189 10) + 1) = τ3
    replace h := h τ3 hτ3.symm
    show PW x G 1 67 [(0, .ref (G.1 + 189))] [] τ3
    exact pw_vret C hT dX8_remember_67 h
  · replace h := h.2 q
    refine pw_aload_n C dX8_remember_9 rfl 0 rfl ?_
    refine pw_getr C dX8_remember_10 gf_RX8_22 gk_189.1 gk_189.2 rfl ?_
    refine pw_bipush (v := 96) C dX8_remember_13 (by decide) ?_
    refine pw_aload_n C dX8_remember_15 rfl 0 rfl ?_
    refine pw_getr C dX8_remember_16 gf_RX8_22 gk_189.1 gk_189.2 rfl ?_
    refine pw_iconst (v := 0) C dX8_remember_19 (by decide) ?_
    refine pw_sipush (v := 1248) C dX8_remember_20 (by decide) ?_
    obtain ⟨Φ4, hM, h⟩ := h
    refine pw_callS C dX8_remember_23 hM gm_X8_copy gl_RX8_69 rfl hR (by decide) (by decide) rfl (Nat.le_of_ble_eq_true rfl) ?_
    rintro _ τ5 ⟨rfl, hv⟩
    replace h := h τ5 hv
    show PW x G 1 26 [(0, .ref (G.1 + 189))] [] τ5
    refine pw_aload_n C dX8_remember_26 rfl 0 rfl ?_
    refine pw_dup C dX8_remember_27 rfl ?_
    refine pw_geti C dX8_remember_28 gf_RX8_66 gk_189.1 gk_189.2 rfl ?_
    refine pw_iconst (v := 1) C dX8_remember_31 (by decide) ?_
    refine pw_isub C dX8_remember_32 ?_
    refine pw_puti C dX8_remember_33 gf_RX8_66 rfl rfl rfl gk_189.1 gk_189.2 rfl ?_
    generalize hτ6 : gw_u τ5 189 10 ((τ5.1 189 10) - 1) = τ6
    replace h := h τ6 hτ6.symm
    show PW x G 1 36 [(0, .ref (G.1 + 189))] [] τ6
    refine pw_aload_n C dX8_remember_36 rfl 0 rfl ?_
    refine pw_getr C dX8_remember_37 gf_RX8_16 gk_189.1 gk_189.2 rfl ?_
    refine pw_iconst (v := 0) C dX8_remember_40 (by decide) ?_
    refine pw_aload_n C dX8_remember_41 rfl 0 rfl ?_
    refine pw_getr C dX8_remember_42 gf_RX8_22 gk_189.1 gk_189.2 rfl ?_
    refine pw_bipush (v := 96) C dX8_remember_45 (by decide) ?_
    refine pw_aload_n C dX8_remember_47 rfl 0 rfl ?_
    refine pw_geti C dX8_remember_48 gf_RX8_66 gk_189.1 gk_189.2 rfl ?_
    refine pw_imul C dX8_remember_51 ?_
    refine pw_bipush (v := 96) C dX8_remember_52 (by decide) ?_
    obtain ⟨Φ7, hM, h⟩ := h
    refine pw_callS C dX8_remember_54 hM gm_X8_copy gl_RX8_69 rfl hR (by decide) (by decide) rfl (Nat.le_of_ble_eq_true rfl) ?_
    rintro _ τ8 ⟨rfl, hv⟩
    replace h := h τ8 hv
    show PW x G 1 57 [(0, .ref (G.1 + 189))] [] τ8
    refine pw_aload_n C dX8_remember_57 rfl 0 rfl ?_
    refine pw_dup C dX8_remember_58 rfl ?_
    refine pw_geti C dX8_remember_59 gf_RX8_66 gk_189.1 gk_189.2 rfl ?_
    refine pw_iconst (v := 1) C dX8_remember_62 (by decide) ?_
    refine pw_iadd C dX8_remember_63 ?_
    refine pw_puti C dX8_remember_64 gf_RX8_66 rfl rfl rfl gk_189.1 gk_189.2 rfl ?_
    generalize hτ9 : gw_u τ8 189 10 ((τ8.1 189 10) + 1) = τ9
    replace h := h τ9 hτ9.symm
    show PW x G 1 67 [(0, .ref (G.1 + 189))] [] τ9
    exact pw_vret C hT dX8_remember_67 h
set_option maxRecDepth 4000 in
theorem sg_X8_tryIt_0 {x : gw_X} {G : gw_G} {Φ : gw_S → Prop} (C : XC x G RX8 cX8_tryIt 1 none) (hR : gw_ok x 1) (hT : RT x G (fv Φ))  (σ : gw_S)
    (h : ∃ Φ1 : gw_S → Prop, gw_M (xl x) G yX8_copy cX8_copy 6 none 0 [.ref (G.1 + 192), .int 0, .ref (G.1 + 193), .int 0, .int 96] σ (fv Φ1) ∧ ∀ (τ2 : gw_S), Φ1 τ2 → (Φ τ2)) : PW x G 1 0 [(0, .ref (G.1 + 189))] [] σ := by
  refine pw_aload_n C dX8_tryIt_0 rfl 0 rfl ?_
  refine pw_getr C dX8_tryIt_1 gf_RX8_16 gk_189.1 gk_189.2 rfl ?_
  refine pw_iconst (v := 0) C dX8_tryIt_4 (by decide) ?_
  refine pw_aload_n C dX8_tryIt_5 rfl 0 rfl ?_
  refine pw_getr C dX8_tryIt_6 gf_RX8_19 gk_189.1 gk_189.2 rfl ?_
  refine pw_iconst (v := 0) C dX8_tryIt_9 (by decide) ?_
  refine pw_bipush (v := 96) C dX8_tryIt_10 (by decide) ?_
  obtain ⟨Φ1, hM, h⟩ := h
  refine pw_callS C dX8_tryIt_12 hM gm_X8_copy gl_RX8_69 rfl hR (by decide) (by decide) rfl (Nat.le_of_ble_eq_true rfl) ?_
  rintro _ τ2 ⟨rfl, hv⟩
  replace h := h τ2 hv
  show PW x G 1 15 [(0, .ref (G.1 + 189))] [] τ2
  exact pw_vret C hT dX8_tryIt_15 h
set_option maxRecDepth 4000 in
theorem sg_X8_marks_0 {x : gw_X} {G : gw_G} {Φ : Int32 → gw_S → Prop} (C : XC x G RX8 cX8_marks 3 (some .int)) (hR : gw_ok x 1) (hT : RT x G (fi Φ)) (k0 : Nat) (hk0 : gw_ia k0 96) (σ : gw_S)
    (h : PW x G 3 4 [(0, .ref (G.1 + k0)), (1, .int 0), (2, .int 0)] [] σ) : PW x G 3 0 [(0, .ref (G.1 + k0))] [] σ := by
  refine pw_iconst (v := 0) C dX8_marks_0 (by decide) ?_
  refine pw_istore_n C dX8_marks_1 rfl (by decide) rfl ?_
  refine pw_iconst (v := 0) C dX8_marks_2 (by decide) ?_
  refine pw_istore_n C dX8_marks_3 rfl (by decide) rfl ?_
  exact pw_sub [2, 1, 0] rfl h
set_option maxRecDepth 4000 in
theorem sg_X8_marks_4 {x : gw_X} {G : gw_G} {Φ : Int32 → gw_S → Prop} (C : XC x G RX8 cX8_marks 3 (some .int)) (hR : gw_ok x 1) (hT : RT x G (fi Φ)) (k0 : Nat) (hk0 : gw_ia k0 96) (v1 : Int32) (v2 : Int32) (σ : gw_S)
    (h : ((σ.1 k0 ((1 : Int32).toNatClampNeg)) ≤ v2 → Φ v1 σ) ∧ (¬ ((σ.1 k0 ((1 : Int32).toNatClampNeg)) ≤ v2) → vp_in ((26 + (5 * v2)) + 4) 96 ∧ (PW x G 3 4 [(0, .ref (G.1 + k0)), (1, .int (v1 + (σ.1 k0 (((26 + (5 * v2)) + 4).toNatClampNeg)))), (2, .int (v2 + 1))] [] σ))) : PW x G 3 4 [(0, .ref (G.1 + k0)), (1, .int v1), (2, .int v2)] [] σ := by
  refine pw_iload_n C dX8_marks_4 rfl 2 rfl ?_
  refine pw_aload_n C dX8_marks_5 rfl 0 rfl ?_
  refine pw_iconst (v := 1) C dX8_marks_6 (by decide) ?_
  refine pw_iald C dX8_marks_7 hk0.1 hk0.2 (by show ¬ (_ ∨ _); decide) ?_
  refine pw_icmp_ge (tgt := 27) C dX8_marks_8 (by decide) (fun q => ?_) (fun q => ?_)
  · replace h := h.1 q
    refine pw_iload_n C dX8_marks_27 rfl 1 rfl ?_
    exact pw_iret C hT dX8_marks_28 h
  · replace h := h.2 q
    refine pw_iload_n C dX8_marks_11 rfl 1 rfl ?_
    refine pw_aload_n C dX8_marks_12 rfl 0 rfl ?_
    refine pw_iload_n C dX8_marks_13 rfl 2 rfl ?_
    refine pw_iconst (v := 4) C dX8_marks_14 (by decide) ?_
    refine pw_callS C dX8_marks_15 (k_X8_wireAt v2 4 σ ) gm_X8_wireAt gl_RX8_73 rfl hR (by decide) (by decide) rfl (Nat.le_of_ble_eq_true rfl) ?_
    rintro _ _ ⟨_, rfl, rfl, rfl⟩
    show PW x G 3 18 [(0, .ref (G.1 + k0)), (1, .int v1), (2, .int v2)] [.int ((26 + (5 * v2)) + 4), .ref (G.1 + k0), .int v1] σ
    obtain ⟨g1, h⟩ := h
    refine pw_iald C dX8_marks_18 hk0.1 hk0.2 g1 ?_
    refine pw_iadd C dX8_marks_19 ?_
    refine pw_istore_n C dX8_marks_20 rfl (by decide) rfl ?_
    refine pw_iinc (v := (v2 + 1)) (j := 2) C dX8_marks_21 rfl rfl (by decide) rfl ?_
    refine pw_goto (tgt := 4) C dX8_marks_24 (by decide) ?_
    exact pw_sub [2, 1, 0] rfl h
set_option maxRecDepth 4000 in
theorem sg_X8_works_0 {x : gw_X} {G : gw_G} {Φ : Int32 → gw_S → Prop} (C : XC x G RX8 cX8_works 3 (some .int)) (hR : gw_ok x 1) (hT : RT x G (fi Φ)) (k0 : Nat) (hk0 : gw_ia k0 96) (σ : gw_S)
    (h : PW x G 3 4 [(0, .ref (G.1 + k0)), (1, .int 0), (2, .int 0)] [] σ) : PW x G 3 0 [(0, .ref (G.1 + k0))] [] σ := by
  refine pw_iconst (v := 0) C dX8_works_0 (by decide) ?_
  refine pw_istore_n C dX8_works_1 rfl (by decide) rfl ?_
  refine pw_iconst (v := 0) C dX8_works_2 (by decide) ?_
  refine pw_istore_n C dX8_works_3 rfl (by decide) rfl ?_
  exact pw_sub [2, 1, 0] rfl h
set_option maxRecDepth 4000 in
theorem sg_X8_works_4 {x : gw_X} {G : gw_G} {Φ : Int32 → gw_S → Prop} (C : XC x G RX8 cX8_works 3 (some .int)) (hR : gw_ok x 1) (hT : RT x G (fi Φ)) (k0 : Nat) (hk0 : gw_ia k0 96) (v1 : Int32) (v2 : Int32) (σ : gw_S)
    (h : ((σ.1 k0 ((0 : Int32).toNatClampNeg)) ≤ v2 → Φ v1 σ) ∧ (¬ ((σ.1 k0 ((0 : Int32).toNatClampNeg)) ≤ v2) → vp_in ((2 + (3 * v2)) + 2) 96 ∧ (PW x G 3 4 [(0, .ref (G.1 + k0)), (1, .int (v1 + (σ.1 k0 (((2 + (3 * v2)) + 2).toNatClampNeg)))), (2, .int (v2 + 1))] [] σ))) : PW x G 3 4 [(0, .ref (G.1 + k0)), (1, .int v1), (2, .int v2)] [] σ := by
  refine pw_iload_n C dX8_works_4 rfl 2 rfl ?_
  refine pw_aload_n C dX8_works_5 rfl 0 rfl ?_
  refine pw_iconst (v := 0) C dX8_works_6 (by decide) ?_
  refine pw_iald C dX8_works_7 hk0.1 hk0.2 (by show ¬ (_ ∨ _); decide) ?_
  refine pw_icmp_ge (tgt := 27) C dX8_works_8 (by decide) (fun q => ?_) (fun q => ?_)
  · replace h := h.1 q
    refine pw_iload_n C dX8_works_27 rfl 1 rfl ?_
    exact pw_iret C hT dX8_works_28 h
  · replace h := h.2 q
    refine pw_iload_n C dX8_works_11 rfl 1 rfl ?_
    refine pw_aload_n C dX8_works_12 rfl 0 rfl ?_
    refine pw_iload_n C dX8_works_13 rfl 2 rfl ?_
    refine pw_iconst (v := 2) C dX8_works_14 (by decide) ?_
    refine pw_callS C dX8_works_15 (k_X8_moduleAt v2 2 σ ) gm_X8_moduleAt gl_RX8_77 rfl hR (by decide) (by decide) rfl (Nat.le_of_ble_eq_true rfl) ?_
    rintro _ _ ⟨_, rfl, rfl, rfl⟩
    show PW x G 3 18 [(0, .ref (G.1 + k0)), (1, .int v1), (2, .int v2)] [.int ((2 + (3 * v2)) + 2), .ref (G.1 + k0), .int v1] σ
    obtain ⟨g1, h⟩ := h
    refine pw_iald C dX8_works_18 hk0.1 hk0.2 g1 ?_
    refine pw_iadd C dX8_works_19 ?_
    refine pw_istore_n C dX8_works_20 rfl (by decide) rfl ?_
    refine pw_iinc (v := (v2 + 1)) (j := 2) C dX8_works_21 rfl rfl (by decide) rfl ?_
    refine pw_goto (tgt := 4) C dX8_works_24 (by decide) ?_
    exact pw_sub [2, 1, 0] rfl h
set_option maxRecDepth 4000 in
theorem sg_X8_layWays_0 {x : gw_X} {G : gw_G} {Φ : gw_S → Prop} (C : XC x G RX8 cX8_layWays 7 none) (hR : gw_ok x 1) (hT : RT x G (fv Φ)) (k1 : Nat) (v2 : Int32) (hk1 : gw_ia k1 96) (σ : gw_S)
    (h : PW x G 7 2 [(0, .ref (G.1 + 189)), (1, .ref (G.1 + k1)), (2, .int v2), (3, .int 0)] [] σ) : PW x G 7 0 [(0, .ref (G.1 + 189)), (1, .ref (G.1 + k1)), (2, .int v2)] [] σ := by
  refine pw_iconst (v := 0) C dX8_layWays_0 (by decide) ?_
  refine pw_istore_n C dX8_layWays_1 rfl (by decide) rfl ?_
  exact pw_sub [1, 2, 3, 0] rfl h
set_option maxRecDepth 4000 in
theorem sg_X8_layWays_2 {x : gw_X} {G : gw_G} {Φ : gw_S → Prop} (C : XC x G RX8 cX8_layWays 7 none) (hR : gw_ok x 1) (hT : RT x G (fv Φ)) (k1 : Nat) (hk1 : gw_ia k1 96) (v2 : Int32) (v3 : Int32) (σ : gw_S)
    (h : (64 ≤ v3 → PW x G 7 24 [(0, .ref (G.1 + 189)), (1, .ref (G.1 + k1)), (2, .int v2), (3, .int 0)] [] σ) ∧ (¬ (64 ≤ v3) → vp_in v3 64 ∧ (∀ τ2 : gw_S, τ2 = gw_u σ 204 v3.toNatClampNeg 1000000 → (PW x G 7 2 [(0, .ref (G.1 + 189)), (1, .ref (G.1 + k1)), (2, .int v2), (3, .int (v3 + 1))] [] τ2)))) : PW x G 7 2 [(0, .ref (G.1 + 189)), (1, .ref (G.1 + k1)), (2, .int v2), (3, .int v3)] [] σ := by
  refine pw_iload_n C dX8_layWays_2 rfl 3 rfl ?_
  refine pw_bipush (v := 64) C dX8_layWays_3 (by decide) ?_
  refine pw_icmp_ge (tgt := 22) C dX8_layWays_5 (by decide) (fun q => ?_) (fun q => ?_)
  · replace h := h.1 q
    refine pw_iconst (v := 0) C dX8_layWays_22 (by decide) ?_
    refine pw_istore_n C dX8_layWays_23 rfl (by decide) rfl ?_
    exact pw_sub [1, 2, 3, 0] rfl h
  · replace h := h.2 q
    refine pw_aload_n C dX8_layWays_8 rfl 0 rfl ?_
    refine pw_getr C dX8_layWays_9 gf_RX8_54 gk_189.1 gk_189.2 rfl ?_
    refine pw_iload_n C dX8_layWays_12 rfl 3 rfl ?_
    refine pw_ldc C dX8_layWays_13 gl_RX8_80 ?_
    obtain ⟨g1, h⟩ := h
    refine pw_iast C dX8_layWays_15 gk_204.1 gk_204.2 g1 ?_
    generalize hτ2 : gw_u σ 204 v3.toNatClampNeg 1000000 = τ2
    replace h := h τ2 hτ2.symm
    show PW x G 7 16 [(0, .ref (G.1 + 189)), (1, .ref (G.1 + k1)), (2, .int v2), (3, .int v3)] [] τ2
    refine pw_iinc (v := (v3 + 1)) (j := 3) C dX8_layWays_16 rfl rfl (by decide) rfl ?_
    refine pw_goto (tgt := 2) C dX8_layWays_19 (by decide) ?_
    exact pw_sub [1, 2, 3, 0] rfl h
set_option maxRecDepth 4000 in
theorem sg_X8_layWays_24 {x : gw_X} {G : gw_G} {Φ : gw_S → Prop} (C : XC x G RX8 cX8_layWays 7 none) (hR : gw_ok x 1) (hT : RT x G (fv Φ)) (k1 : Nat) (hk1 : gw_ia k1 96) (v2 : Int32) (v3 : Int32) (σ : gw_S)
    (h : ((σ.1 k1 ((1 : Int32).toNatClampNeg)) ≤ v3 → PW x G 7 123 [(0, .ref (G.1 + 189)), (1, .ref (G.1 + k1)), (2, .int v2), (3, .int 0)] [] σ) ∧ (¬ ((σ.1 k1 ((1 : Int32).toNatClampNeg)) ≤ v3) → vp_in ((26 + (5 * v3)) + 0) 96 ∧ (vp_in ((26 + (5 * v3)) + 1) 96 ∧ (vp_in ((26 + (5 * v3)) + 4) 96 ∧ (((v2 < (σ.1 k1 (((26 + (5 * v3)) + 4).toNatClampNeg)) → True) ∧ (¬ (v2 < (σ.1 k1 (((26 + (5 * v3)) + 4).toNatClampNeg))) → vp_in ((8 * (σ.1 k1 (((26 + (5 * v3)) + 0).toNatClampNeg))) + (σ.1 k1 (((26 + (5 * v3)) + 1).toNatClampNeg))) 64 ∧ (True))) ∧ ((((if v2 < (σ.1 k1 (((26 + (5 * v3)) + 4).toNatClampNeg)) then false else (if (σ.1 204 (((8 * (σ.1 k1 (((26 + (5 * v3)) + 0).toNatClampNeg))) + (σ.1 k1 (((26 + (5 * v3)) + 1).toNatClampNeg))).toNatClampNeg)) ≤ (σ.1 k1 (((26 + (5 * v3)) + 4).toNatClampNeg)) then false else true : Bool) : Bool) = false → vp_in ((8 * (σ.1 k1 (((26 + (5 * v3)) + 0).toNatClampNeg))) + (σ.1 k1 (((26 + (5 * v3)) + 1).toNatClampNeg))) 64 ∧ (True)) ∧ (¬ ((if v2 < (σ.1 k1 (((26 + (5 * v3)) + 4).toNatClampNeg)) then false else (if (σ.1 204 (((8 * (σ.1 k1 (((26 + (5 * v3)) + 0).toNatClampNeg))) + (σ.1 k1 (((26 + (5 * v3)) + 1).toNatClampNeg))).toNatClampNeg)) ≤ (σ.1 k1 (((26 + (5 * v3)) + 4).toNatClampNeg)) then false else true : Bool) : Bool) = false) → True)) ∧ (vp_in ((8 * (σ.1 k1 (((26 + (5 * v3)) + 0).toNatClampNeg))) + (σ.1 k1 (((26 + (5 * v3)) + 1).toNatClampNeg))) 64 ∧ (∀ τ7 : gw_S, τ7 = gw_u σ 204 (((8 * (σ.1 k1 (((26 + (5 * v3)) + 0).toNatClampNeg))) + (σ.1 k1 (((26 + (5 * v3)) + 1).toNatClampNeg))).toNatClampNeg) (if (if v2 < (σ.1 k1 (((26 + (5 * v3)) + 4).toNatClampNeg)) then false else (if (σ.1 204 (((8 * (σ.1 k1 (((26 + (5 * v3)) + 0).toNatClampNeg))) + (σ.1 k1 (((26 + (5 * v3)) + 1).toNatClampNeg))).toNatClampNeg)) ≤ (σ.1 k1 (((26 + (5 * v3)) + 4).toNatClampNeg)) then false else true : Bool) : Bool) = false then σ.1 204 (((8 * (σ.1 k1 (((26 + (5 * v3)) + 0).toNatClampNeg))) + (σ.1 k1 (((26 + (5 * v3)) + 1).toNatClampNeg))).toNatClampNeg) else σ.1 k1 (((26 + (5 * v3)) + 4).toNatClampNeg) : Int32) → (PW x G 7 24 [(0, .ref (G.1 + 189)), (1, .ref (G.1 + k1)), (2, .int v2), (3, .int (v3 + 1))] [] τ7))))))))) : PW x G 7 24 [(0, .ref (G.1 + 189)), (1, .ref (G.1 + k1)), (2, .int v2), (3, .int v3)] [] σ := by
  refine pw_iload_n C dX8_layWays_24 rfl 3 rfl ?_
  refine pw_aload_n C dX8_layWays_25 rfl 1 rfl ?_
  refine pw_iconst (v := 1) C dX8_layWays_26 (by decide) ?_
  refine pw_iald C dX8_layWays_27 hk1.1 hk1.2 (by show ¬ (_ ∨ _); decide) ?_
  refine pw_icmp_ge (tgt := 121) C dX8_layWays_28 (by decide) (fun q => ?_) (fun q => ?_)
  · replace h := h.1 q
    refine pw_iconst (v := 0) C dX8_layWays_121 (by decide) ?_
    refine pw_istore_n C dX8_layWays_122 rfl (by decide) rfl ?_
    exact pw_sub [1, 2, 3, 0] rfl h
  · replace h := h.2 q
    refine pw_bipush (v := 8) C dX8_layWays_31 (by decide) ?_
    refine pw_aload_n C dX8_layWays_33 rfl 1 rfl ?_
    refine pw_iload_n C dX8_layWays_34 rfl 3 rfl ?_
    refine pw_iconst (v := 0) C dX8_layWays_35 (by decide) ?_
    refine pw_callS C dX8_layWays_36 (k_X8_wireAt v3 0 σ ) gm_X8_wireAt gl_RX8_73 rfl hR (by decide) (by decide) rfl (Nat.le_of_ble_eq_true rfl) ?_
    rintro _ _ ⟨_, rfl, rfl, rfl⟩
    show PW x G 7 39 [(0, .ref (G.1 + 189)), (1, .ref (G.1 + k1)), (2, .int v2), (3, .int v3)] [.int ((26 + (5 * v3)) + 0), .ref (G.1 + k1), .int 8] σ
    obtain ⟨g1, h⟩ := h
    refine pw_iald C dX8_layWays_39 hk1.1 hk1.2 g1 ?_
    refine pw_imul C dX8_layWays_40 ?_
    refine pw_aload_n C dX8_layWays_41 rfl 1 rfl ?_
    refine pw_iload_n C dX8_layWays_42 rfl 3 rfl ?_
    refine pw_iconst (v := 1) C dX8_layWays_43 (by decide) ?_
    refine pw_callS C dX8_layWays_44 (k_X8_wireAt v3 1 σ ) gm_X8_wireAt gl_RX8_73 rfl hR (by decide) (by decide) rfl (Nat.le_of_ble_eq_true rfl) ?_
    rintro _ _ ⟨_, rfl, rfl, rfl⟩
    show PW x G 7 47 [(0, .ref (G.1 + 189)), (1, .ref (G.1 + k1)), (2, .int v2), (3, .int v3)] [.int ((26 + (5 * v3)) + 1), .ref (G.1 + k1), .int (8 * (σ.1 k1 (((26 + (5 * v3)) + 0).toNatClampNeg)))] σ
    obtain ⟨g2, h⟩ := h
    refine pw_iald C dX8_layWays_47 hk1.1 hk1.2 g2 ?_
    refine pw_iadd C dX8_layWays_48 ?_
    refine pw_istore C dX8_layWays_49 (by decide) rfl ?_
    refine pw_aload_n C dX8_layWays_51 rfl 2 rfl ?_
    refine pw_iload_n C dX8_layWays_52 rfl 4 rfl ?_
    refine pw_iconst (v := 4) C dX8_layWays_53 (by decide) ?_
    refine pw_callS C dX8_layWays_54 (k_X8_wireAt v3 4 σ ) gm_X8_wireAt gl_RX8_73 rfl hR (by decide) (by decide) rfl (Nat.le_of_ble_eq_true rfl) ?_
    rintro _ _ ⟨_, rfl, rfl, rfl⟩
    show PW x G 7 57 [(4, .int ((8 * (σ.1 k1 (((26 + (5 * v3)) + 0).toNatClampNeg))) + (σ.1 k1 (((26 + (5 * v3)) + 1).toNatClampNeg)))), (0, .ref (G.1 + 189)), (1, .ref (G.1 + k1)), (2, .int v2), (3, .int v3)] [.int ((26 + (5 * v3)) + 4), .ref (G.1 + k1)] σ
    obtain ⟨g3, h⟩ := h
    refine pw_iald C dX8_layWays_57 hk1.1 hk1.2 g3 ?_
    refine pw_iload_n C dX8_layWays_58 rfl 3 rfl ?_
    obtain ⟨hs, h⟩ := h
    have hJ : ∀ w0 : Bool, (if v2 < (σ.1 k1 (((26 + (5 * v3)) + 4).toNatClampNeg)) then false else (if (σ.1 204 (((8 * (σ.1 k1 (((26 + (5 * v3)) + 0).toNatClampNeg))) + (σ.1 k1 (((26 + (5 * v3)) + 1).toNatClampNeg))).toNatClampNeg)) ≤ (σ.1 k1 (((26 + (5 * v3)) + 4).toNatClampNeg)) then false else true : Bool) : Bool) = w0 → PW x G 7 84 [(4, .int ((8 * (σ.1 k1 (((26 + (5 * v3)) + 0).toNatClampNeg))) + (σ.1 k1 (((26 + (5 * v3)) + 1).toNatClampNeg)))), (0, .ref (G.1 + 189)), (1, .ref (G.1 + k1)), (2, .int v2), (3, .int v3)] [.int (gz w0)] σ := by
      rintro _ rfl
      refine pw_istore C dX8_layWays_84 (by decide) rfl ?_
      refine pw_aload_n C dX8_layWays_86 rfl 2 rfl ?_
      refine pw_getr C dX8_layWays_87 gf_RX8_54 gk_189.1 gk_189.2 rfl ?_
      refine pw_iload C dX8_layWays_90 1 rfl ?_
      refine pw_iload C dX8_layWays_92 0 rfl ?_
      obtain ⟨hs, h⟩ := h
      have hJ : ∀ w0 : Int32, (if (if v2 < (σ.1 k1 (((26 + (5 * v3)) + 4).toNatClampNeg)) then false else (if (σ.1 204 (((8 * (σ.1 k1 (((26 + (5 * v3)) + 0).toNatClampNeg))) + (σ.1 k1 (((26 + (5 * v3)) + 1).toNatClampNeg))).toNatClampNeg)) ≤ (σ.1 k1 (((26 + (5 * v3)) + 4).toNatClampNeg)) then false else true : Bool) : Bool) = false then σ.1 204 (((8 * (σ.1 k1 (((26 + (5 * v3)) + 0).toNatClampNeg))) + (σ.1 k1 (((26 + (5 * v3)) + 1).toNatClampNeg))).toNatClampNeg) else σ.1 k1 (((26 + (5 * v3)) + 4).toNatClampNeg) : Int32) = w0 → PW x G 7 114 [(5, .int (gz (if v2 < (σ.1 k1 (((26 + (5 * v3)) + 4).toNatClampNeg)) then false else (if (σ.1 204 (((8 * (σ.1 k1 (((26 + (5 * v3)) + 0).toNatClampNeg))) + (σ.1 k1 (((26 + (5 * v3)) + 1).toNatClampNeg))).toNatClampNeg)) ≤ (σ.1 k1 (((26 + (5 * v3)) + 4).toNatClampNeg)) then false else true : Bool) : Bool))), (4, .int ((8 * (σ.1 k1 (((26 + (5 * v3)) + 0).toNatClampNeg))) + (σ.1 k1 (((26 + (5 * v3)) + 1).toNatClampNeg)))), (0, .ref (G.1 + 189)), (1, .ref (G.1 + k1)), (2, .int v2), (3, .int v3)] [.int w0, .int ((8 * (σ.1 k1 (((26 + (5 * v3)) + 0).toNatClampNeg))) + (σ.1 k1 (((26 + (5 * v3)) + 1).toNatClampNeg))), .ref (G.1 + 204)] σ := by
        rintro _ rfl
        obtain ⟨g6, h⟩ := h
        refine pw_iast C dX8_layWays_114 gk_204.1 gk_204.2 g6 ?_
        generalize hτ7 : gw_u σ 204 (((8 * (σ.1 k1 (((26 + (5 * v3)) + 0).toNatClampNeg))) + (σ.1 k1 (((26 + (5 * v3)) + 1).toNatClampNeg))).toNatClampNeg) (if (if v2 < (σ.1 k1 (((26 + (5 * v3)) + 4).toNatClampNeg)) then false else (if (σ.1 204 (((8 * (σ.1 k1 (((26 + (5 * v3)) + 0).toNatClampNeg))) + (σ.1 k1 (((26 + (5 * v3)) + 1).toNatClampNeg))).toNatClampNeg)) ≤ (σ.1 k1 (((26 + (5 * v3)) + 4).toNatClampNeg)) then false else true : Bool) : Bool) = false then σ.1 204 (((8 * (σ.1 k1 (((26 + (5 * v3)) + 0).toNatClampNeg))) + (σ.1 k1 (((26 + (5 * v3)) + 1).toNatClampNeg))).toNatClampNeg) else σ.1 k1 (((26 + (5 * v3)) + 4).toNatClampNeg) : Int32) = τ7
        replace h := h τ7 hτ7.symm
        show PW x G 7 115 [(5, .int (gz (if v2 < (σ.1 k1 (((26 + (5 * v3)) + 4).toNatClampNeg)) then false else (if (σ.1 204 (((8 * (σ.1 k1 (((26 + (5 * v3)) + 0).toNatClampNeg))) + (σ.1 k1 (((26 + (5 * v3)) + 1).toNatClampNeg))).toNatClampNeg)) ≤ (σ.1 k1 (((26 + (5 * v3)) + 4).toNatClampNeg)) then false else true : Bool) : Bool))), (4, .int ((8 * (σ.1 k1 (((26 + (5 * v3)) + 0).toNatClampNeg))) + (σ.1 k1 (((26 + (5 * v3)) + 1).toNatClampNeg)))), (0, .ref (G.1 + 189)), (1, .ref (G.1 + k1)), (2, .int v2), (3, .int v3)] [] τ7
        refine pw_iinc (v := (v3 + 1)) (j := 5) C dX8_layWays_115 rfl rfl (by decide) rfl ?_
        refine pw_goto (tgt := 24) C dX8_layWays_118 (by decide) ?_
        exact pw_sub [3, 4, 5, 0] rfl h
      clear h
      refine pw_z_eq (tgt := 107) C dX8_layWays_94 (by decide) (fun q3 => ?_) (fun q3 => ?_)
      · replace hs := hs.1 q3
        refine pw_aload_n C dX8_layWays_107 rfl 2 rfl ?_
        refine pw_getr C dX8_layWays_108 gf_RX8_54 gk_189.1 gk_189.2 rfl ?_
        refine pw_iload C dX8_layWays_111 1 rfl ?_
        obtain ⟨g5, hs⟩ := hs
        refine pw_iald C dX8_layWays_113 gk_204.1 gk_204.2 g5 ?_
        exact hJ (σ.1 204 (((8 * (σ.1 k1 (((26 + (5 * v3)) + 0).toNatClampNeg))) + (σ.1 k1 (((26 + (5 * v3)) + 1).toNatClampNeg))).toNatClampNeg)) (if_pos q3)
      · replace hs := hs.2 q3
        refine pw_aload_n C dX8_layWays_97 rfl 3 rfl ?_
        refine pw_iload_n C dX8_layWays_98 rfl 5 rfl ?_
        refine pw_iconst (v := 4) C dX8_layWays_99 (by decide) ?_
        refine pw_callS C dX8_layWays_100 (k_X8_wireAt v3 4 σ ) gm_X8_wireAt gl_RX8_73 rfl hR (by decide) (by decide) rfl (Nat.le_of_ble_eq_true rfl) ?_
        rintro _ _ ⟨_, rfl, rfl, rfl⟩
        show PW x G 7 103 [(5, .int (gz (if v2 < (σ.1 k1 (((26 + (5 * v3)) + 4).toNatClampNeg)) then false else (if (σ.1 204 (((8 * (σ.1 k1 (((26 + (5 * v3)) + 0).toNatClampNeg))) + (σ.1 k1 (((26 + (5 * v3)) + 1).toNatClampNeg))).toNatClampNeg)) ≤ (σ.1 k1 (((26 + (5 * v3)) + 4).toNatClampNeg)) then false else true : Bool) : Bool))), (4, .int ((8 * (σ.1 k1 (((26 + (5 * v3)) + 0).toNatClampNeg))) + (σ.1 k1 (((26 + (5 * v3)) + 1).toNatClampNeg)))), (0, .ref (G.1 + 189)), (1, .ref (G.1 + k1)), (2, .int v2), (3, .int v3)] [.int ((26 + (5 * v3)) + 4), .ref (G.1 + k1), .int ((8 * (σ.1 k1 (((26 + (5 * v3)) + 0).toNatClampNeg))) + (σ.1 k1 (((26 + (5 * v3)) + 1).toNatClampNeg))), .ref (G.1 + 204)] σ
        refine pw_iald C dX8_layWays_103 hk1.1 hk1.2 g3 ?_
        refine pw_goto (tgt := 114) C dX8_layWays_104 (by decide) ?_
        exact hJ (σ.1 k1 (((26 + (5 * v3)) + 4).toNatClampNeg)) (if_neg q3)
    clear h
    refine pw_icmp_gt (tgt := 83) C dX8_layWays_59 (by decide) (fun q2 => ?_) (fun q2 => ?_)
    · replace hs := hs.1 q2
      refine pw_iconst (v := 0) C dX8_layWays_83 (by decide) ?_
      exact hJ false (if_pos q2)
    · replace hs := hs.2 q2
      refine pw_aload_n C dX8_layWays_62 rfl 2 rfl ?_
      refine pw_iload_n C dX8_layWays_63 rfl 4 rfl ?_
      refine pw_iconst (v := 4) C dX8_layWays_64 (by decide) ?_
      refine pw_callS C dX8_layWays_65 (k_X8_wireAt v3 4 σ ) gm_X8_wireAt gl_RX8_73 rfl hR (by decide) (by decide) rfl (Nat.le_of_ble_eq_true rfl) ?_
      rintro _ _ ⟨_, rfl, rfl, rfl⟩
      show PW x G 7 68 [(4, .int ((8 * (σ.1 k1 (((26 + (5 * v3)) + 0).toNatClampNeg))) + (σ.1 k1 (((26 + (5 * v3)) + 1).toNatClampNeg)))), (0, .ref (G.1 + 189)), (1, .ref (G.1 + k1)), (2, .int v2), (3, .int v3)] [.int ((26 + (5 * v3)) + 4), .ref (G.1 + k1)] σ
      refine pw_iald C dX8_layWays_68 hk1.1 hk1.2 g3 ?_
      refine pw_aload_n C dX8_layWays_69 rfl 1 rfl ?_
      refine pw_getr C dX8_layWays_70 gf_RX8_54 gk_189.1 gk_189.2 rfl ?_
      refine pw_iload C dX8_layWays_73 0 rfl ?_
      obtain ⟨g4, hs⟩ := hs
      refine pw_iald C dX8_layWays_75 gk_204.1 gk_204.2 g4 ?_
      refine pw_icmp_ge (tgt := 83) C dX8_layWays_76 (by decide) (fun q3 => ?_) (fun q3 => ?_)
      · refine pw_iconst (v := 0) C dX8_layWays_83 (by decide) ?_
        exact hJ false ((if_neg q2).trans (if_pos q3))
      · refine pw_iconst (v := 1) C dX8_layWays_79 (by decide) ?_
        refine pw_goto (tgt := 84) C dX8_layWays_80 (by decide) ?_
        exact hJ true ((if_neg q2).trans (if_neg q3))
set_option maxRecDepth 4000 in
theorem sg_X8_layWays_123 {x : gw_X} {G : gw_G} {Φ : gw_S → Prop} (C : XC x G RX8 cX8_layWays 7 none) (hR : gw_ok x 1) (hT : RT x G (fv Φ)) (k1 : Nat) (hk1 : gw_ia k1 96) (v2 : Int32) (v3 : Int32) (σ : gw_S)
    (h : (8 ≤ v3 → Φ σ) ∧ (¬ (8 ≤ v3) → PW x G 7 132 [(0, .ref (G.1 + 189)), (1, .ref (G.1 + k1)), (2, .int v2), (3, .int v3), (4, .int 0)] [] σ)) : PW x G 7 123 [(0, .ref (G.1 + 189)), (1, .ref (G.1 + k1)), (2, .int v2), (3, .int v3)] [] σ := by
  refine pw_iload_n C dX8_layWays_123 rfl 3 rfl ?_
  refine pw_bipush (v := 8) C dX8_layWays_124 (by decide) ?_
  refine pw_icmp_ge (tgt := 243) C dX8_layWays_126 (by decide) (fun q => ?_) (fun q => ?_)
  · replace h := h.1 q
    exact pw_vret C hT dX8_layWays_243 h
  · replace h := h.2 q
    refine pw_iconst (v := 0) C dX8_layWays_129 (by decide) ?_
    refine pw_istore C dX8_layWays_130 (by decide) rfl ?_
    exact pw_sub [1, 2, 3, 4, 0] rfl h
set_option maxRecDepth 4000 in
theorem sg_X8_layWays_132 {x : gw_X} {G : gw_G} {Φ : gw_S → Prop} (C : XC x G RX8 cX8_layWays 7 none) (hR : gw_ok x 1) (hT : RT x G (fv Φ)) (k1 : Nat) (hk1 : gw_ia k1 96) (v2 : Int32) (v3 : Int32) (v4 : Int32) (σ : gw_S)
    (h : (8 ≤ v4 → PW x G 7 123 [(0, .ref (G.1 + 189)), (1, .ref (G.1 + k1)), (2, .int v2), (3, .int (v3 + 1))] [] σ) ∧ (¬ (8 ≤ v4) → PW x G 7 142 [(0, .ref (G.1 + 189)), (1, .ref (G.1 + k1)), (2, .int v2), (3, .int v3), (4, .int v4), (5, .int 0)] [] σ)) : PW x G 7 132 [(0, .ref (G.1 + 189)), (1, .ref (G.1 + k1)), (2, .int v2), (3, .int v3), (4, .int v4)] [] σ := by
  refine pw_iload C dX8_layWays_132 4 rfl ?_
  refine pw_bipush (v := 8) C dX8_layWays_134 (by decide) ?_
  refine pw_icmp_ge (tgt := 237) C dX8_layWays_136 (by decide) (fun q => ?_) (fun q => ?_)
  · replace h := h.1 q
    refine pw_iinc (v := (v3 + 1)) (j := 3) C dX8_layWays_237 rfl rfl (by decide) rfl ?_
    refine pw_goto (tgt := 123) C dX8_layWays_240 (by decide) ?_
    exact pw_sub [1, 2, 3, 0] rfl h
  · replace h := h.2 q
    refine pw_iconst (v := 0) C dX8_layWays_139 (by decide) ?_
    refine pw_istore C dX8_layWays_140 (by decide) rfl ?_
    exact pw_sub [1, 2, 3, 4, 5, 0] rfl h
set_option maxRecDepth 4000 in
theorem sg_X8_layWays_142 {x : gw_X} {G : gw_G} {Φ : gw_S → Prop} (C : XC x G RX8 cX8_layWays 7 none) (hR : gw_ok x 1) (hT : RT x G (fv Φ)) (k1 : Nat) (hk1 : gw_ia k1 96) (v2 : Int32) (v3 : Int32) (v4 : Int32) (v5 : Int32) (σ : gw_S)
    (h : (8 ≤ v5 → PW x G 7 132 [(0, .ref (G.1 + 189)), (1, .ref (G.1 + k1)), (2, .int v2), (3, .int v3), (4, .int (v4 + 1))] [] σ) ∧ (¬ (8 ≤ v5) → vp_in ((8 * v4) + v3) 64 ∧ (vp_in ((8 * v3) + v5) 64 ∧ (vp_in ((8 * v4) + v5) 64 ∧ (∀ τ4 : gw_S, τ4 = gw_u σ 204 (((8 * v4) + v5).toNatClampNeg) (if (σ.1 204 (((8 * v4) + v5).toNatClampNeg)) ≤ ((σ.1 204 (((8 * v4) + v3).toNatClampNeg)) + (σ.1 204 (((8 * v3) + v5).toNatClampNeg))) then σ.1 204 (((8 * v4) + v5).toNatClampNeg) else (σ.1 204 (((8 * v4) + v3).toNatClampNeg)) + (σ.1 204 (((8 * v3) + v5).toNatClampNeg)) : Int32) → (PW x G 7 142 [(0, .ref (G.1 + 189)), (1, .ref (G.1 + k1)), (2, .int v2), (3, .int v3), (4, .int v4), (5, .int (v5 + 1))] [] τ4)))))) : PW x G 7 142 [(0, .ref (G.1 + 189)), (1, .ref (G.1 + k1)), (2, .int v2), (3, .int v3), (4, .int v4), (5, .int v5)] [] σ := by
  refine pw_iload C dX8_layWays_142 5 rfl ?_
  refine pw_bipush (v := 8) C dX8_layWays_144 (by decide) ?_
  refine pw_icmp_ge (tgt := 231) C dX8_layWays_146 (by decide) (fun q => ?_) (fun q => ?_)
  · replace h := h.1 q
    refine pw_iinc (v := (v4 + 1)) (j := 4) C dX8_layWays_231 rfl rfl (by decide) rfl ?_
    refine pw_goto (tgt := 132) C dX8_layWays_234 (by decide) ?_
    exact pw_sub [1, 2, 3, 4, 0] rfl h
  · replace h := h.2 q
    refine pw_aload_n C dX8_layWays_149 rfl 0 rfl ?_
    refine pw_getr C dX8_layWays_150 gf_RX8_54 gk_189.1 gk_189.2 rfl ?_
    refine pw_bipush (v := 8) C dX8_layWays_153 (by decide) ?_
    refine pw_iload C dX8_layWays_155 4 rfl ?_
    refine pw_imul C dX8_layWays_157 ?_
    refine pw_iload_n C dX8_layWays_158 rfl 3 rfl ?_
    refine pw_iadd C dX8_layWays_159 ?_
    obtain ⟨g1, h⟩ := h
    refine pw_iald C dX8_layWays_160 gk_204.1 gk_204.2 g1 ?_
    refine pw_aload_n C dX8_layWays_161 rfl 0 rfl ?_
    refine pw_getr C dX8_layWays_162 gf_RX8_54 gk_189.1 gk_189.2 rfl ?_
    refine pw_bipush (v := 8) C dX8_layWays_165 (by decide) ?_
    refine pw_iload_n C dX8_layWays_167 rfl 3 rfl ?_
    refine pw_imul C dX8_layWays_168 ?_
    refine pw_iload C dX8_layWays_169 5 rfl ?_
    refine pw_iadd C dX8_layWays_171 ?_
    obtain ⟨g2, h⟩ := h
    refine pw_iald C dX8_layWays_172 gk_204.1 gk_204.2 g2 ?_
    refine pw_iadd C dX8_layWays_173 ?_
    refine pw_istore C dX8_layWays_174 (by decide) rfl ?_
    refine pw_aload_n C dX8_layWays_176 rfl 1 rfl ?_
    refine pw_getr C dX8_layWays_177 gf_RX8_54 gk_189.1 gk_189.2 rfl ?_
    refine pw_bipush (v := 8) C dX8_layWays_180 (by decide) ?_
    refine pw_iload C dX8_layWays_182 5 rfl ?_
    refine pw_imul C dX8_layWays_184 ?_
    refine pw_iload C dX8_layWays_185 6 rfl ?_
    refine pw_iadd C dX8_layWays_187 ?_
    refine pw_iload C dX8_layWays_188 0 rfl ?_
    refine pw_aload_n C dX8_layWays_190 rfl 1 rfl ?_
    refine pw_getr C dX8_layWays_191 gf_RX8_54 gk_189.1 gk_189.2 rfl ?_
    refine pw_bipush (v := 8) C dX8_layWays_194 (by decide) ?_
    refine pw_iload C dX8_layWays_196 5 rfl ?_
    refine pw_imul C dX8_layWays_198 ?_
    refine pw_iload C dX8_layWays_199 6 rfl ?_
    refine pw_iadd C dX8_layWays_201 ?_
    obtain ⟨g3, h⟩ := h
    refine pw_iald C dX8_layWays_202 gk_204.1 gk_204.2 g3 ?_
    have hJ : ∀ w0 : Int32, (if (σ.1 204 (((8 * v4) + v5).toNatClampNeg)) ≤ ((σ.1 204 (((8 * v4) + v3).toNatClampNeg)) + (σ.1 204 (((8 * v3) + v5).toNatClampNeg))) then σ.1 204 (((8 * v4) + v5).toNatClampNeg) else (σ.1 204 (((8 * v4) + v3).toNatClampNeg)) + (σ.1 204 (((8 * v3) + v5).toNatClampNeg)) : Int32) = w0 → PW x G 7 224 [(6, .int ((σ.1 204 (((8 * v4) + v3).toNatClampNeg)) + (σ.1 204 (((8 * v3) + v5).toNatClampNeg)))), (0, .ref (G.1 + 189)), (1, .ref (G.1 + k1)), (2, .int v2), (3, .int v3), (4, .int v4), (5, .int v5)] [.int w0, .int ((8 * v4) + v5), .ref (G.1 + 204)] σ := by
      rintro _ rfl
      refine pw_iast C dX8_layWays_224 gk_204.1 gk_204.2 g3 ?_
      generalize hτ4 : gw_u σ 204 (((8 * v4) + v5).toNatClampNeg) (if (σ.1 204 (((8 * v4) + v5).toNatClampNeg)) ≤ ((σ.1 204 (((8 * v4) + v3).toNatClampNeg)) + (σ.1 204 (((8 * v3) + v5).toNatClampNeg))) then σ.1 204 (((8 * v4) + v5).toNatClampNeg) else (σ.1 204 (((8 * v4) + v3).toNatClampNeg)) + (σ.1 204 (((8 * v3) + v5).toNatClampNeg)) : Int32) = τ4
      replace h := h τ4 hτ4.symm
      show PW x G 7 225 [(6, .int ((σ.1 204 (((8 * v4) + v3).toNatClampNeg)) + (σ.1 204 (((8 * v3) + v5).toNatClampNeg)))), (0, .ref (G.1 + 189)), (1, .ref (G.1 + k1)), (2, .int v2), (3, .int v3), (4, .int v4), (5, .int v5)] [] τ4
      refine pw_iinc (v := (v5 + 1)) (j := 6) C dX8_layWays_225 rfl rfl (by decide) rfl ?_
      refine pw_goto (tgt := 142) C dX8_layWays_228 (by decide) ?_
      exact pw_sub [2, 3, 4, 5, 6, 0] rfl h
    clear h
    refine pw_icmp_ge (tgt := 211) C dX8_layWays_203 (by decide) (fun q2 => ?_) (fun q2 => ?_)
    · refine pw_aload_n C dX8_layWays_211 rfl 1 rfl ?_
      refine pw_getr C dX8_layWays_212 gf_RX8_54 gk_189.1 gk_189.2 rfl ?_
      refine pw_bipush (v := 8) C dX8_layWays_215 (by decide) ?_
      refine pw_iload C dX8_layWays_217 5 rfl ?_
      refine pw_imul C dX8_layWays_219 ?_
      refine pw_iload C dX8_layWays_220 6 rfl ?_
      refine pw_iadd C dX8_layWays_222 ?_
      refine pw_iald C dX8_layWays_223 gk_204.1 gk_204.2 g3 ?_
      exact hJ (σ.1 204 (((8 * v4) + v5).toNatClampNeg)) (if_pos q2)
    · refine pw_iload C dX8_layWays_206 0 rfl ?_
      refine pw_goto (tgt := 224) C dX8_layWays_208 (by decide) ?_
      exact hJ ((σ.1 204 (((8 * v4) + v3).toNatClampNeg)) + (σ.1 204 (((8 * v3) + v5).toNatClampNeg))) (if_neg q2)
set_option maxRecDepth 4000 in
theorem sg_X8_isDead_0 {x : gw_X} {G : gw_G} {Φ : Bool → gw_S → Prop} (C : XC x G RX8 cX8_isDead 4 (some .boolean)) (hR : gw_ok x 2) (hT : RT x G (fz Φ)) (k1 : Nat) (v2 : Int32) (v3 : Int32) (hk1 : gw_ia k1 96) (σ : gw_S)
    (h : ∃ Φ1 : gw_S → Prop, gw_M (xl x) G yX8_layWays cX8_layWays 7 none 1 [.ref (G.1 + 189), .ref (G.1 + k1), .int 0] σ (fv Φ1) ∧ ∀ (τ2 : gw_S), Φ1 τ2 → (((v2 = v3 → True) ∧ (¬ (v2 = v3) → vp_in ((8 * v3) + v2) 64 ∧ (True))) ∧ (Φ (if v2 = v3 then true else (if 1000000 ≤ (τ2.1 204 (((8 * v3) + v2).toNatClampNeg)) then false else true : Bool) : Bool) τ2))) : PW x G 4 0 [(0, .ref (G.1 + 189)), (1, .ref (G.1 + k1)), (2, .int v2), (3, .int v3)] [] σ := by
  refine pw_aload_n C dX8_isDead_0 rfl 0 rfl ?_
  refine pw_aload_n C dX8_isDead_1 rfl 1 rfl ?_
  refine pw_iconst (v := 0) C dX8_isDead_2 (by decide) ?_
  obtain ⟨Φ1, hM, h⟩ := h
  refine pw_callV C dX8_isDead_3 hM gm_X8_layWays gl_RX8_81 rfl hR (by decide) (by decide) (by decide) rfl gk_189.1 gk_189.2 rfl (Nat.le_of_ble_eq_true rfl) ?_
  rintro _ τ2 ⟨rfl, hv⟩
  replace h := h τ2 hv
  show PW x G 4 6 [(0, .ref (G.1 + 189)), (1, .ref (G.1 + k1)), (2, .int v2), (3, .int v3)] [] τ2
  refine pw_iload_n C dX8_isDead_6 rfl 2 rfl ?_
  refine pw_iload_n C dX8_isDead_7 rfl 3 rfl ?_
  obtain ⟨hs, h⟩ := h
  have hJ : ∀ w0 : Bool, (if v2 = v3 then true else (if 1000000 ≤ (τ2.1 204 (((8 * v3) + v2).toNatClampNeg)) then false else true : Bool) : Bool) = w0 → PW x G 4 32 [(0, .ref (G.1 + 189)), (1, .ref (G.1 + k1)), (2, .int v2), (3, .int v3)] [.int (gz w0)] τ2 := by
    rintro _ rfl
    exact pw_zret (b := (if v2 = v3 then true else (if 1000000 ≤ (τ2.1 204 (((8 * v3) + v2).toNatClampNeg)) then false else true : Bool) : Bool)) C hT dX8_isDead_32 h
  clear h
  refine pw_icmp_eq (tgt := 27) C dX8_isDead_8 (by decide) (fun q1 => ?_) (fun q1 => ?_)
  · replace hs := hs.1 q1
    refine pw_iconst (v := 1) C dX8_isDead_27 (by decide) ?_
    refine pw_goto (tgt := 32) C dX8_isDead_28 (by decide) ?_
    exact hJ true (if_pos q1)
  · replace hs := hs.2 q1
    refine pw_aload_n C dX8_isDead_11 rfl 0 rfl ?_
    refine pw_getr C dX8_isDead_12 gf_RX8_54 gk_189.1 gk_189.2 rfl ?_
    refine pw_bipush (v := 8) C dX8_isDead_15 (by decide) ?_
    refine pw_iload_n C dX8_isDead_17 rfl 3 rfl ?_
    refine pw_imul C dX8_isDead_18 ?_
    refine pw_iload_n C dX8_isDead_19 rfl 2 rfl ?_
    refine pw_iadd C dX8_isDead_20 ?_
    obtain ⟨g3, hs⟩ := hs
    refine pw_iald C dX8_isDead_21 gk_204.1 gk_204.2 g3 ?_
    refine pw_ldc C dX8_isDead_22 gl_RX8_80 ?_
    refine pw_icmp_ge (tgt := 31) C dX8_isDead_24 (by decide) (fun q2 => ?_) (fun q2 => ?_)
    · refine pw_iconst (v := 0) C dX8_isDead_31 (by decide) ?_
      exact hJ false ((if_neg q1).trans (if_pos q2))
    · refine pw_iconst (v := 1) C dX8_isDead_27 (by decide) ?_
      refine pw_goto (tgt := 32) C dX8_isDead_28 (by decide) ?_
      exact hJ true ((if_neg q1).trans (if_neg q2))
set_option maxRecDepth 4000 in
theorem sg_X8_divisor_0 {x : gw_X} {G : gw_G} {Φ : Int64 → gw_S → Prop} (C : XC x G RX8 cX8_divisor 10 (some .long)) (hR : gw_ok x 0) (hT : RT x G (fl Φ)) (v0 : Int64) (v2 : Int64) (σ : gw_S)
    (h : PW x G 10 6 [(0, .long v0), (2, .long v2), (4, .long v0), (6, .long v2)] [] σ) : PW x G 10 0 [(0, .long v0), (2, .long v2)] [] σ := by
  refine pw_lload_n C dX8_divisor_0 rfl 0 rfl ?_
  refine pw_lstore C dX8_divisor_1 (by decide) rfl ?_
  refine pw_lload_n C dX8_divisor_3 rfl 2 rfl ?_
  refine pw_lstore C dX8_divisor_4 (by decide) rfl ?_
  exact pw_sub [2, 3, 1, 0] rfl h
set_option maxRecDepth 4000 in
theorem sg_X8_divisor_6 {x : gw_X} {G : gw_G} {Φ : Int64 → gw_S → Prop} (C : XC x G RX8 cX8_divisor 10 (some .long)) (hR : gw_ok x 0) (hT : RT x G (fl Φ)) (v0 : Int64) (v2 : Int64) (v4 : Int64) (v6 : Int64) (σ : gw_S)
    (h : ((lg_cmp v6 0) ≤ 0 → Φ v4 σ) ∧ (¬ ((lg_cmp v6 0) ≤ 0) → ¬ v6 = 0 ∧ (PW x G 10 6 [(0, .long v0), (2, .long v2), (4, .long v6), (6, .long (v4 - v4 / v6 * v6))] [] σ))) : PW x G 10 6 [(0, .long v0), (2, .long v2), (4, .long v4), (6, .long v6)] [] σ := by
  refine pw_lload C dX8_divisor_6 3 rfl ?_
  refine pw_lconst (v := 0) C dX8_divisor_8 (by decide) ?_
  refine pw_lcmp C dX8_divisor_9 ?_
  refine pw_if_le (tgt := 31) C dX8_divisor_10 (by decide) (fun q => ?_) (fun q => ?_)
  · replace h := h.1 q
    refine pw_lload C dX8_divisor_31 2 rfl ?_
    exact pw_lret C hT dX8_divisor_33 h
  · replace h := h.2 q
    refine pw_lload C dX8_divisor_13 2 rfl ?_
    refine pw_lload C dX8_divisor_15 3 rfl ?_
    obtain ⟨g1, h⟩ := h
    refine pw_lrem C dX8_divisor_17 g1 ?_
    refine pw_lstore C dX8_divisor_18 (by decide) rfl ?_
    refine pw_lload C dX8_divisor_20 4 rfl ?_
    refine pw_lstore C dX8_divisor_22 (by decide) rfl ?_
    refine pw_lload C dX8_divisor_24 1 rfl ?_
    refine pw_lstore C dX8_divisor_26 (by decide) rfl ?_
    refine pw_goto (tgt := 6) C dX8_divisor_28 (by decide) ?_
    exact pw_sub [3, 4, 1, 0] rfl h
set_option maxRecDepth 4000 in
theorem sg_X8_setWorks_0 {x : gw_X} {G : gw_G} {Φ : gw_S → Prop} (C : XC x G RX8 cX8_setWorks 8 none) (hR : gw_ok x 1) (hT : RT x G (fv Φ)) (v1 : Int32) (v2 : Int64) (v4 : Int64) (σ : gw_S)
    (h : ∃ Φ1 : Int64 → gw_S → Prop, gw_M (xl x) G yX8_divisor cX8_divisor 10 (some .long) 0 [.long v2, .long v4] σ (fl Φ1) ∧ ∀ (r3 : Int64) (τ2 : gw_S), Φ1 r3 τ2 → (¬ r3 = 0 ∧ (vp_in v1 8 ∧ (∀ τ6 : gw_S, τ6 = gw_ul τ2 199 v1.toNatClampNeg (v2 / r3) → (∀ τ7 : gw_S, τ7 = gw_ul τ6 200 v1.toNatClampNeg (v4 / r3) → (Φ τ7)))))) : PW x G 8 0 [(0, .ref (G.1 + 189)), (1, .int v1), (2, .long v2), (4, .long v4)] [] σ := by
  refine pw_lload_n C dX8_setWorks_0 rfl 2 rfl ?_
  refine pw_lload C dX8_setWorks_1 3 rfl ?_
  obtain ⟨Φ1, hM, h⟩ := h
  refine pw_callS C dX8_setWorks_3 hM gm_X8_divisor gl_RX8_85 rfl hR (by decide) (by decide) rfl (Nat.le_of_ble_eq_true rfl) ?_
  rintro _ τ2 ⟨r3, rfl, hv⟩
  replace h := h r3 τ2 hv
  show PW x G 8 6 [(0, .ref (G.1 + 189)), (1, .int v1), (2, .long v2), (4, .long v4)] [.long r3] τ2
  refine pw_lstore C dX8_setWorks_6 (by decide) rfl ?_
  refine pw_aload_n C dX8_setWorks_8 rfl 1 rfl ?_
  refine pw_getr C dX8_setWorks_9 gf_RX8_38 gk_189.1 gk_189.2 rfl ?_
  refine pw_iload_n C dX8_setWorks_12 rfl 2 rfl ?_
  refine pw_lload_n C dX8_setWorks_13 rfl 3 rfl ?_
  refine pw_lload C dX8_setWorks_14 0 rfl ?_
  obtain ⟨g4, h⟩ := h
  refine pw_ldiv C dX8_setWorks_16 g4 ?_
  obtain ⟨g5, h⟩ := h
  refine pw_last C dX8_setWorks_17 gk_199.1 gk_199.2 g5 ?_
  generalize hτ6 : gw_ul τ2 199 v1.toNatClampNeg (v2 / r3) = τ6
  replace h := h τ6 hτ6.symm
  show PW x G 8 18 [(6, .long r3), (0, .ref (G.1 + 189)), (1, .int v1), (2, .long v2), (4, .long v4)] [] τ6
  refine pw_aload_n C dX8_setWorks_18 rfl 1 rfl ?_
  refine pw_getr C dX8_setWorks_19 gf_RX8_42 gk_189.1 gk_189.2 rfl ?_
  refine pw_iload_n C dX8_setWorks_22 rfl 2 rfl ?_
  refine pw_lload C dX8_setWorks_23 4 rfl ?_
  refine pw_lload C dX8_setWorks_25 0 rfl ?_
  refine pw_ldiv C dX8_setWorks_27 g4 ?_
  refine pw_last C dX8_setWorks_28 gk_200.1 gk_200.2 g5 ?_
  generalize hτ7 : gw_ul τ6 200 v1.toNatClampNeg (v4 / r3) = τ7
  replace h := h τ7 hτ7.symm
  show PW x G 8 29 [(6, .long r3), (0, .ref (G.1 + 189)), (1, .int v1), (2, .long v2), (4, .long v4)] [] τ7
  exact pw_vret C hT dX8_setWorks_29 h
set_option maxRecDepth 4000 in
theorem sg_X8_spread_0 {x : gw_X} {G : gw_G} {Φ : Bool → gw_S → Prop} (C : XC x G RX8 cX8_spread 6 (some .boolean)) (hR : gw_ok x 2) (hT : RT x G (fz Φ)) (k1 : Nat) (v2 : Int32) (v3 : Int32) (hk1 : gw_ia k1 96) (σ : gw_S)
    (h : vp_in ((26 + (5 * v2)) + 0) 96 ∧ (vp_in ((26 + (5 * v2)) + 1) 96 ∧ (vp_in (σ.1 k1 (((26 + (5 * v2)) + 0).toNatClampNeg)) 8 ∧ ((¬ ((σ.1 198 ((σ.1 k1 (((26 + (5 * v2)) + 0).toNatClampNeg)).toNatClampNeg)) = v3) → vp_in (σ.1 k1 (((26 + (5 * v2)) + 1).toNatClampNeg)) 8 ∧ ((¬ ((σ.1 198 ((σ.1 k1 (((26 + (5 * v2)) + 1).toNatClampNeg)).toNatClampNeg)) = v3) → Φ false σ) ∧ ((σ.1 198 ((σ.1 k1 (((26 + (5 * v2)) + 1).toNatClampNeg)).toNatClampNeg)) = v3 → (¬ ((σ.1 198 ((σ.1 k1 (((26 + (5 * v2)) + 0).toNatClampNeg)).toNatClampNeg)) = (-1)) → Φ false σ) ∧ ((σ.1 198 ((σ.1 k1 (((26 + (5 * v2)) + 0).toNatClampNeg)).toNatClampNeg)) = (-1) → ∀ τ5 : gw_S, τ5 = gw_u σ 198 ((σ.1 k1 (((26 + (5 * v2)) + 0).toNatClampNeg)).toNatClampNeg) v3 → (vp_in ((26 + (5 * v2)) + 3) 96 ∧ (vp_in ((26 + (5 * v2)) + 2) 96 ∧ (∃ Φ8 : gw_S → Prop, gw_M (xl x) G yX8_setWorks cX8_setWorks 8 none 1 [.ref (G.1 + 189), .int (σ.1 k1 (((26 + (5 * v2)) + 0).toNatClampNeg)), .long ((τ5.2 199 ((σ.1 k1 (((26 + (5 * v2)) + 1).toNatClampNeg)).toNatClampNeg)) * ((τ5.1 k1 (((26 + (5 * v2)) + 3).toNatClampNeg)).toInt64)), .long ((τ5.2 200 ((σ.1 k1 (((26 + (5 * v2)) + 1).toNatClampNeg)).toNatClampNeg)) * ((τ5.1 k1 (((26 + (5 * v2)) + 2).toNatClampNeg)).toInt64))] τ5 (fv Φ8) ∧ ∀ (τ9 : gw_S), Φ8 τ9 → (Φ true τ9)))))))) ∧ ((σ.1 198 ((σ.1 k1 (((26 + (5 * v2)) + 0).toNatClampNeg)).toNatClampNeg)) = v3 → vp_in (σ.1 k1 (((26 + (5 * v2)) + 1).toNatClampNeg)) 8 ∧ ((¬ ((σ.1 198 ((σ.1 k1 (((26 + (5 * v2)) + 1).toNatClampNeg)).toNatClampNeg)) = (-1)) → (¬ ((σ.1 198 ((σ.1 k1 (((26 + (5 * v2)) + 1).toNatClampNeg)).toNatClampNeg)) = v3) → Φ false σ) ∧ ((σ.1 198 ((σ.1 k1 (((26 + (5 * v2)) + 1).toNatClampNeg)).toNatClampNeg)) = v3 → (¬ ((σ.1 198 ((σ.1 k1 (((26 + (5 * v2)) + 0).toNatClampNeg)).toNatClampNeg)) = (-1)) → Φ false σ) ∧ ((σ.1 198 ((σ.1 k1 (((26 + (5 * v2)) + 0).toNatClampNeg)).toNatClampNeg)) = (-1) → ∀ τ11 : gw_S, τ11 = gw_u σ 198 ((σ.1 k1 (((26 + (5 * v2)) + 0).toNatClampNeg)).toNatClampNeg) v3 → (vp_in ((26 + (5 * v2)) + 3) 96 ∧ (vp_in ((26 + (5 * v2)) + 2) 96 ∧ (∃ Φ14 : gw_S → Prop, gw_M (xl x) G yX8_setWorks cX8_setWorks 8 none 1 [.ref (G.1 + 189), .int (σ.1 k1 (((26 + (5 * v2)) + 0).toNatClampNeg)), .long ((τ11.2 199 ((σ.1 k1 (((26 + (5 * v2)) + 1).toNatClampNeg)).toNatClampNeg)) * ((τ11.1 k1 (((26 + (5 * v2)) + 3).toNatClampNeg)).toInt64)), .long ((τ11.2 200 ((σ.1 k1 (((26 + (5 * v2)) + 1).toNatClampNeg)).toNatClampNeg)) * ((τ11.1 k1 (((26 + (5 * v2)) + 2).toNatClampNeg)).toInt64))] τ11 (fv Φ14) ∧ ∀ (τ15 : gw_S), Φ14 τ15 → (Φ true τ15))))))) ∧ ((σ.1 198 ((σ.1 k1 (((26 + (5 * v2)) + 1).toNatClampNeg)).toNatClampNeg)) = (-1) → ∀ τ16 : gw_S, τ16 = gw_u σ 198 ((σ.1 k1 (((26 + (5 * v2)) + 1).toNatClampNeg)).toNatClampNeg) v3 → (vp_in ((26 + (5 * v2)) + 2) 96 ∧ (vp_in ((26 + (5 * v2)) + 3) 96 ∧ (∃ Φ19 : gw_S → Prop, gw_M (xl x) G yX8_setWorks cX8_setWorks 8 none 1 [.ref (G.1 + 189), .int (σ.1 k1 (((26 + (5 * v2)) + 1).toNatClampNeg)), .long ((τ16.2 199 ((σ.1 k1 (((26 + (5 * v2)) + 0).toNatClampNeg)).toNatClampNeg)) * ((τ16.1 k1 (((26 + (5 * v2)) + 2).toNatClampNeg)).toInt64)), .long ((τ16.2 200 ((σ.1 k1 (((26 + (5 * v2)) + 0).toNatClampNeg)).toNatClampNeg)) * ((τ16.1 k1 (((26 + (5 * v2)) + 3).toNatClampNeg)).toInt64))] τ16 (fv Φ19) ∧ ∀ (τ20 : gw_S), Φ19 τ20 → (Φ true τ20))))))))))) : PW x G 6 0 [(0, .ref (G.1 + 189)), (1, .ref (G.1 + k1)), (2, .int v2), (3, .int v3)] [] σ := by
  refine pw_aload_n C dX8_spread_0 rfl 1 rfl ?_
  refine pw_iload_n C dX8_spread_1 rfl 2 rfl ?_
  refine pw_iconst (v := 0) C dX8_spread_2 (by decide) ?_
  refine pw_callS C dX8_spread_3 (k_X8_wireAt v2 0 σ ) gm_X8_wireAt gl_RX8_73 rfl hR (by decide) (by decide) rfl (Nat.le_of_ble_eq_true rfl) ?_
  rintro _ _ ⟨_, rfl, rfl, rfl⟩
  show PW x G 6 6 [(0, .ref (G.1 + 189)), (1, .ref (G.1 + k1)), (2, .int v2), (3, .int v3)] [.int ((26 + (5 * v2)) + 0), .ref (G.1 + k1)] σ
  obtain ⟨g1, h⟩ := h
  refine pw_iald C dX8_spread_6 hk1.1 hk1.2 g1 ?_
  refine pw_istore C dX8_spread_7 (by decide) rfl ?_
  refine pw_aload_n C dX8_spread_9 rfl 2 rfl ?_
  refine pw_iload_n C dX8_spread_10 rfl 3 rfl ?_
  refine pw_iconst (v := 1) C dX8_spread_11 (by decide) ?_
  refine pw_callS C dX8_spread_12 (k_X8_wireAt v2 1 σ ) gm_X8_wireAt gl_RX8_73 rfl hR (by decide) (by decide) rfl (Nat.le_of_ble_eq_true rfl) ?_
  rintro _ _ ⟨_, rfl, rfl, rfl⟩
  show PW x G 6 15 [(4, .int (σ.1 k1 (((26 + (5 * v2)) + 0).toNatClampNeg))), (0, .ref (G.1 + 189)), (1, .ref (G.1 + k1)), (2, .int v2), (3, .int v3)] [.int ((26 + (5 * v2)) + 1), .ref (G.1 + k1)] σ
  obtain ⟨g2, h⟩ := h
  refine pw_iald C dX8_spread_15 hk1.1 hk1.2 g2 ?_
  refine pw_istore C dX8_spread_16 (by decide) rfl ?_
  refine pw_aload_n C dX8_spread_18 rfl 2 rfl ?_
  refine pw_getr C dX8_spread_19 gf_RX8_35 gk_189.1 gk_189.2 rfl ?_
  refine pw_iload C dX8_spread_22 1 rfl ?_
  obtain ⟨g3, h⟩ := h
  refine pw_iald C dX8_spread_24 gk_198.1 gk_198.2 g3 ?_
  refine pw_iload_n C dX8_spread_25 rfl 5 rfl ?_
  refine pw_icmp_ne (tgt := 88) C dX8_spread_26 (by decide) (fun q => ?_) (fun q => ?_)
  · replace h := h.1 q
    refine pw_aload_n C dX8_spread_88 rfl 2 rfl ?_
    refine pw_getr C dX8_spread_89 gf_RX8_35 gk_189.1 gk_189.2 rfl ?_
    refine pw_iload C dX8_spread_92 0 rfl ?_
    obtain ⟨g4, h⟩ := h
    refine pw_iald C dX8_spread_94 gk_198.1 gk_198.2 g4 ?_
    refine pw_iload_n C dX8_spread_95 rfl 5 rfl ?_
    refine pw_icmp_ne (tgt := 158) C dX8_spread_96 (by decide) (fun q => ?_) (fun q => ?_)
    · replace h := h.1 q
      refine pw_iconst (v := 0) C dX8_spread_158 (by decide) ?_
      exact pw_zret (b := false) C hT dX8_spread_159 h
    · replace h := h.2 q
      refine pw_aload_n C dX8_spread_99 rfl 2 rfl ?_
      refine pw_getr C dX8_spread_100 gf_RX8_35 gk_189.1 gk_189.2 rfl ?_
      refine pw_iload C dX8_spread_103 1 rfl ?_
      refine pw_iald C dX8_spread_105 gk_198.1 gk_198.2 g3 ?_
      refine pw_iconst (v := (-1)) C dX8_spread_106 (by decide) ?_
      refine pw_icmp_ne (tgt := 158) C dX8_spread_107 (by decide) (fun q => ?_) (fun q => ?_)
      · replace h := h.1 q
        refine pw_iconst (v := 0) C dX8_spread_158 (by decide) ?_
        exact pw_zret (b := false) C hT dX8_spread_159 h
      · replace h := h.2 q
        refine pw_aload_n C dX8_spread_110 rfl 2 rfl ?_
        refine pw_getr C dX8_spread_111 gf_RX8_35 gk_189.1 gk_189.2 rfl ?_
        refine pw_iload C dX8_spread_114 1 rfl ?_
        refine pw_iload_n C dX8_spread_116 rfl 5 rfl ?_
        refine pw_iast C dX8_spread_117 gk_198.1 gk_198.2 g3 ?_
        generalize hτ5 : gw_u σ 198 ((σ.1 k1 (((26 + (5 * v2)) + 0).toNatClampNeg)).toNatClampNeg) v3 = τ5
        replace h := h τ5 hτ5.symm
        show PW x G 6 118 [(5, .int (σ.1 k1 (((26 + (5 * v2)) + 1).toNatClampNeg))), (4, .int (σ.1 k1 (((26 + (5 * v2)) + 0).toNatClampNeg))), (0, .ref (G.1 + 189)), (1, .ref (G.1 + k1)), (2, .int v2), (3, .int v3)] [] τ5
        refine pw_aload_n C dX8_spread_118 rfl 2 rfl ?_
        refine pw_iload C dX8_spread_119 1 rfl ?_
        refine pw_aload_n C dX8_spread_121 rfl 2 rfl ?_
        refine pw_getr C dX8_spread_122 gf_RX8_38 gk_189.1 gk_189.2 rfl ?_
        refine pw_iload C dX8_spread_125 0 rfl ?_
        refine pw_lald C dX8_spread_127 gk_199.1 gk_199.2 g4 ?_
        refine pw_aload_n C dX8_spread_128 rfl 3 rfl ?_
        refine pw_iload_n C dX8_spread_129 rfl 4 rfl ?_
        refine pw_iconst (v := 3) C dX8_spread_130 (by decide) ?_
        refine pw_callS C dX8_spread_131 (k_X8_wireAt v2 3 τ5 ) gm_X8_wireAt gl_RX8_73 rfl hR (by decide) (by decide) rfl (Nat.le_of_ble_eq_true rfl) ?_
        rintro _ _ ⟨_, rfl, rfl, rfl⟩
        show PW x G 6 134 [(5, .int (σ.1 k1 (((26 + (5 * v2)) + 1).toNatClampNeg))), (4, .int (σ.1 k1 (((26 + (5 * v2)) + 0).toNatClampNeg))), (0, .ref (G.1 + 189)), (1, .ref (G.1 + k1)), (2, .int v2), (3, .int v3)] [.int ((26 + (5 * v2)) + 3), .ref (G.1 + k1), .long (τ5.2 199 ((σ.1 k1 (((26 + (5 * v2)) + 1).toNatClampNeg)).toNatClampNeg)), .int (σ.1 k1 (((26 + (5 * v2)) + 0).toNatClampNeg)), .ref (G.1 + 189)] τ5
        obtain ⟨g6, h⟩ := h
        refine pw_iald C dX8_spread_134 hk1.1 hk1.2 g6 ?_
        refine pw_i2l (v := ((τ5.1 k1 (((26 + (5 * v2)) + 3).toNatClampNeg)).toInt64)) C dX8_spread_135 rfl ?_
        refine pw_lmul C dX8_spread_136 ?_
        refine pw_aload_n C dX8_spread_137 rfl 2 rfl ?_
        refine pw_getr C dX8_spread_138 gf_RX8_42 gk_189.1 gk_189.2 rfl ?_
        refine pw_iload C dX8_spread_141 0 rfl ?_
        refine pw_lald C dX8_spread_143 gk_200.1 gk_200.2 g4 ?_
        refine pw_aload_n C dX8_spread_144 rfl 3 rfl ?_
        refine pw_iload_n C dX8_spread_145 rfl 4 rfl ?_
        refine pw_iconst (v := 2) C dX8_spread_146 (by decide) ?_
        refine pw_callS C dX8_spread_147 (k_X8_wireAt v2 2 τ5 ) gm_X8_wireAt gl_RX8_73 rfl hR (by decide) (by decide) rfl (Nat.le_of_ble_eq_true rfl) ?_
        rintro _ _ ⟨_, rfl, rfl, rfl⟩
        show PW x G 6 150 [(5, .int (σ.1 k1 (((26 + (5 * v2)) + 1).toNatClampNeg))), (4, .int (σ.1 k1 (((26 + (5 * v2)) + 0).toNatClampNeg))), (0, .ref (G.1 + 189)), (1, .ref (G.1 + k1)), (2, .int v2), (3, .int v3)] [.int ((26 + (5 * v2)) + 2), .ref (G.1 + k1), .long (τ5.2 200 ((σ.1 k1 (((26 + (5 * v2)) + 1).toNatClampNeg)).toNatClampNeg)), .long ((τ5.2 199 ((σ.1 k1 (((26 + (5 * v2)) + 1).toNatClampNeg)).toNatClampNeg)) * ((τ5.1 k1 (((26 + (5 * v2)) + 3).toNatClampNeg)).toInt64)), .int (σ.1 k1 (((26 + (5 * v2)) + 0).toNatClampNeg)), .ref (G.1 + 189)] τ5
        obtain ⟨g7, h⟩ := h
        refine pw_iald C dX8_spread_150 hk1.1 hk1.2 g7 ?_
        refine pw_i2l (v := ((τ5.1 k1 (((26 + (5 * v2)) + 2).toNatClampNeg)).toInt64)) C dX8_spread_151 rfl ?_
        refine pw_lmul C dX8_spread_152 ?_
        obtain ⟨Φ8, hM, h⟩ := h
        refine pw_callV C dX8_spread_153 hM gm_X8_setWorks gl_RX8_89 rfl hR (by decide) (by decide) (by decide) rfl gk_189.1 gk_189.2 rfl (Nat.le_of_ble_eq_true rfl) ?_
        rintro _ τ9 ⟨rfl, hv⟩
        replace h := h τ9 hv
        show PW x G 6 156 [(5, .int (σ.1 k1 (((26 + (5 * v2)) + 1).toNatClampNeg))), (4, .int (σ.1 k1 (((26 + (5 * v2)) + 0).toNatClampNeg))), (0, .ref (G.1 + 189)), (1, .ref (G.1 + k1)), (2, .int v2), (3, .int v3)] [] τ9
        refine pw_iconst (v := 1) C dX8_spread_156 (by decide) ?_
        exact pw_zret (b := true) C hT dX8_spread_157 h
  · replace h := h.2 q
    refine pw_aload_n C dX8_spread_29 rfl 2 rfl ?_
    refine pw_getr C dX8_spread_30 gf_RX8_35 gk_189.1 gk_189.2 rfl ?_
    refine pw_iload C dX8_spread_33 0 rfl ?_
    obtain ⟨g10, h⟩ := h
    refine pw_iald C dX8_spread_35 gk_198.1 gk_198.2 g10 ?_
    refine pw_iconst (v := (-1)) C dX8_spread_36 (by decide) ?_
    refine pw_icmp_ne (tgt := 88) C dX8_spread_37 (by decide) (fun q => ?_) (fun q => ?_)
    · replace h := h.1 q
      refine pw_aload_n C dX8_spread_88 rfl 2 rfl ?_
      refine pw_getr C dX8_spread_89 gf_RX8_35 gk_189.1 gk_189.2 rfl ?_
      refine pw_iload C dX8_spread_92 0 rfl ?_
      refine pw_iald C dX8_spread_94 gk_198.1 gk_198.2 g10 ?_
      refine pw_iload_n C dX8_spread_95 rfl 5 rfl ?_
      refine pw_icmp_ne (tgt := 158) C dX8_spread_96 (by decide) (fun q => ?_) (fun q => ?_)
      · replace h := h.1 q
        refine pw_iconst (v := 0) C dX8_spread_158 (by decide) ?_
        exact pw_zret (b := false) C hT dX8_spread_159 h
      · replace h := h.2 q
        refine pw_aload_n C dX8_spread_99 rfl 2 rfl ?_
        refine pw_getr C dX8_spread_100 gf_RX8_35 gk_189.1 gk_189.2 rfl ?_
        refine pw_iload C dX8_spread_103 1 rfl ?_
        refine pw_iald C dX8_spread_105 gk_198.1 gk_198.2 g3 ?_
        refine pw_iconst (v := (-1)) C dX8_spread_106 (by decide) ?_
        refine pw_icmp_ne (tgt := 158) C dX8_spread_107 (by decide) (fun q => ?_) (fun q => ?_)
        · replace h := h.1 q
          refine pw_iconst (v := 0) C dX8_spread_158 (by decide) ?_
          exact pw_zret (b := false) C hT dX8_spread_159 h
        · replace h := h.2 q
          refine pw_aload_n C dX8_spread_110 rfl 2 rfl ?_
          refine pw_getr C dX8_spread_111 gf_RX8_35 gk_189.1 gk_189.2 rfl ?_
          refine pw_iload C dX8_spread_114 1 rfl ?_
          refine pw_iload_n C dX8_spread_116 rfl 5 rfl ?_
          refine pw_iast C dX8_spread_117 gk_198.1 gk_198.2 g3 ?_
          generalize hτ11 : gw_u σ 198 ((σ.1 k1 (((26 + (5 * v2)) + 0).toNatClampNeg)).toNatClampNeg) v3 = τ11
          replace h := h τ11 hτ11.symm
          show PW x G 6 118 [(5, .int (σ.1 k1 (((26 + (5 * v2)) + 1).toNatClampNeg))), (4, .int (σ.1 k1 (((26 + (5 * v2)) + 0).toNatClampNeg))), (0, .ref (G.1 + 189)), (1, .ref (G.1 + k1)), (2, .int v2), (3, .int v3)] [] τ11
          refine pw_aload_n C dX8_spread_118 rfl 2 rfl ?_
          refine pw_iload C dX8_spread_119 1 rfl ?_
          refine pw_aload_n C dX8_spread_121 rfl 2 rfl ?_
          refine pw_getr C dX8_spread_122 gf_RX8_38 gk_189.1 gk_189.2 rfl ?_
          refine pw_iload C dX8_spread_125 0 rfl ?_
          refine pw_lald C dX8_spread_127 gk_199.1 gk_199.2 g10 ?_
          refine pw_aload_n C dX8_spread_128 rfl 3 rfl ?_
          refine pw_iload_n C dX8_spread_129 rfl 4 rfl ?_
          refine pw_iconst (v := 3) C dX8_spread_130 (by decide) ?_
          refine pw_callS C dX8_spread_131 (k_X8_wireAt v2 3 τ11 ) gm_X8_wireAt gl_RX8_73 rfl hR (by decide) (by decide) rfl (Nat.le_of_ble_eq_true rfl) ?_
          rintro _ _ ⟨_, rfl, rfl, rfl⟩
          show PW x G 6 134 [(5, .int (σ.1 k1 (((26 + (5 * v2)) + 1).toNatClampNeg))), (4, .int (σ.1 k1 (((26 + (5 * v2)) + 0).toNatClampNeg))), (0, .ref (G.1 + 189)), (1, .ref (G.1 + k1)), (2, .int v2), (3, .int v3)] [.int ((26 + (5 * v2)) + 3), .ref (G.1 + k1), .long (τ11.2 199 ((σ.1 k1 (((26 + (5 * v2)) + 1).toNatClampNeg)).toNatClampNeg)), .int (σ.1 k1 (((26 + (5 * v2)) + 0).toNatClampNeg)), .ref (G.1 + 189)] τ11
          obtain ⟨g12, h⟩ := h
          refine pw_iald C dX8_spread_134 hk1.1 hk1.2 g12 ?_
          refine pw_i2l (v := ((τ11.1 k1 (((26 + (5 * v2)) + 3).toNatClampNeg)).toInt64)) C dX8_spread_135 rfl ?_
          refine pw_lmul C dX8_spread_136 ?_
          refine pw_aload_n C dX8_spread_137 rfl 2 rfl ?_
          refine pw_getr C dX8_spread_138 gf_RX8_42 gk_189.1 gk_189.2 rfl ?_
          refine pw_iload C dX8_spread_141 0 rfl ?_
          refine pw_lald C dX8_spread_143 gk_200.1 gk_200.2 g10 ?_
          refine pw_aload_n C dX8_spread_144 rfl 3 rfl ?_
          refine pw_iload_n C dX8_spread_145 rfl 4 rfl ?_
          refine pw_iconst (v := 2) C dX8_spread_146 (by decide) ?_
          refine pw_callS C dX8_spread_147 (k_X8_wireAt v2 2 τ11 ) gm_X8_wireAt gl_RX8_73 rfl hR (by decide) (by decide) rfl (Nat.le_of_ble_eq_true rfl) ?_
          rintro _ _ ⟨_, rfl, rfl, rfl⟩
          show PW x G 6 150 [(5, .int (σ.1 k1 (((26 + (5 * v2)) + 1).toNatClampNeg))), (4, .int (σ.1 k1 (((26 + (5 * v2)) + 0).toNatClampNeg))), (0, .ref (G.1 + 189)), (1, .ref (G.1 + k1)), (2, .int v2), (3, .int v3)] [.int ((26 + (5 * v2)) + 2), .ref (G.1 + k1), .long (τ11.2 200 ((σ.1 k1 (((26 + (5 * v2)) + 1).toNatClampNeg)).toNatClampNeg)), .long ((τ11.2 199 ((σ.1 k1 (((26 + (5 * v2)) + 1).toNatClampNeg)).toNatClampNeg)) * ((τ11.1 k1 (((26 + (5 * v2)) + 3).toNatClampNeg)).toInt64)), .int (σ.1 k1 (((26 + (5 * v2)) + 0).toNatClampNeg)), .ref (G.1 + 189)] τ11
          obtain ⟨g13, h⟩ := h
          refine pw_iald C dX8_spread_150 hk1.1 hk1.2 g13 ?_
          refine pw_i2l (v := ((τ11.1 k1 (((26 + (5 * v2)) + 2).toNatClampNeg)).toInt64)) C dX8_spread_151 rfl ?_
          refine pw_lmul C dX8_spread_152 ?_
          obtain ⟨Φ14, hM, h⟩ := h
          refine pw_callV C dX8_spread_153 hM gm_X8_setWorks gl_RX8_89 rfl hR (by decide) (by decide) (by decide) rfl gk_189.1 gk_189.2 rfl (Nat.le_of_ble_eq_true rfl) ?_
          rintro _ τ15 ⟨rfl, hv⟩
          replace h := h τ15 hv
          show PW x G 6 156 [(5, .int (σ.1 k1 (((26 + (5 * v2)) + 1).toNatClampNeg))), (4, .int (σ.1 k1 (((26 + (5 * v2)) + 0).toNatClampNeg))), (0, .ref (G.1 + 189)), (1, .ref (G.1 + k1)), (2, .int v2), (3, .int v3)] [] τ15
          refine pw_iconst (v := 1) C dX8_spread_156 (by decide) ?_
          exact pw_zret (b := true) C hT dX8_spread_157 h
    · replace h := h.2 q
      refine pw_aload_n C dX8_spread_40 rfl 2 rfl ?_
      refine pw_getr C dX8_spread_41 gf_RX8_35 gk_189.1 gk_189.2 rfl ?_
      refine pw_iload C dX8_spread_44 0 rfl ?_
      refine pw_iload_n C dX8_spread_46 rfl 5 rfl ?_
      refine pw_iast C dX8_spread_47 gk_198.1 gk_198.2 g10 ?_
      generalize hτ16 : gw_u σ 198 ((σ.1 k1 (((26 + (5 * v2)) + 1).toNatClampNeg)).toNatClampNeg) v3 = τ16
      replace h := h τ16 hτ16.symm
      show PW x G 6 48 [(5, .int (σ.1 k1 (((26 + (5 * v2)) + 1).toNatClampNeg))), (4, .int (σ.1 k1 (((26 + (5 * v2)) + 0).toNatClampNeg))), (0, .ref (G.1 + 189)), (1, .ref (G.1 + k1)), (2, .int v2), (3, .int v3)] [] τ16
      refine pw_aload_n C dX8_spread_48 rfl 2 rfl ?_
      refine pw_iload C dX8_spread_49 0 rfl ?_
      refine pw_aload_n C dX8_spread_51 rfl 2 rfl ?_
      refine pw_getr C dX8_spread_52 gf_RX8_38 gk_189.1 gk_189.2 rfl ?_
      refine pw_iload C dX8_spread_55 1 rfl ?_
      refine pw_lald C dX8_spread_57 gk_199.1 gk_199.2 g3 ?_
      refine pw_aload_n C dX8_spread_58 rfl 3 rfl ?_
      refine pw_iload_n C dX8_spread_59 rfl 4 rfl ?_
      refine pw_iconst (v := 2) C dX8_spread_60 (by decide) ?_
      refine pw_callS C dX8_spread_61 (k_X8_wireAt v2 2 τ16 ) gm_X8_wireAt gl_RX8_73 rfl hR (by decide) (by decide) rfl (Nat.le_of_ble_eq_true rfl) ?_
      rintro _ _ ⟨_, rfl, rfl, rfl⟩
      show PW x G 6 64 [(5, .int (σ.1 k1 (((26 + (5 * v2)) + 1).toNatClampNeg))), (4, .int (σ.1 k1 (((26 + (5 * v2)) + 0).toNatClampNeg))), (0, .ref (G.1 + 189)), (1, .ref (G.1 + k1)), (2, .int v2), (3, .int v3)] [.int ((26 + (5 * v2)) + 2), .ref (G.1 + k1), .long (τ16.2 199 ((σ.1 k1 (((26 + (5 * v2)) + 0).toNatClampNeg)).toNatClampNeg)), .int (σ.1 k1 (((26 + (5 * v2)) + 1).toNatClampNeg)), .ref (G.1 + 189)] τ16
      obtain ⟨g17, h⟩ := h
      refine pw_iald C dX8_spread_64 hk1.1 hk1.2 g17 ?_
      refine pw_i2l (v := ((τ16.1 k1 (((26 + (5 * v2)) + 2).toNatClampNeg)).toInt64)) C dX8_spread_65 rfl ?_
      refine pw_lmul C dX8_spread_66 ?_
      refine pw_aload_n C dX8_spread_67 rfl 2 rfl ?_
      refine pw_getr C dX8_spread_68 gf_RX8_42 gk_189.1 gk_189.2 rfl ?_
      refine pw_iload C dX8_spread_71 1 rfl ?_
      refine pw_lald C dX8_spread_73 gk_200.1 gk_200.2 g3 ?_
      refine pw_aload_n C dX8_spread_74 rfl 3 rfl ?_
      refine pw_iload_n C dX8_spread_75 rfl 4 rfl ?_
      refine pw_iconst (v := 3) C dX8_spread_76 (by decide) ?_
      refine pw_callS C dX8_spread_77 (k_X8_wireAt v2 3 τ16 ) gm_X8_wireAt gl_RX8_73 rfl hR (by decide) (by decide) rfl (Nat.le_of_ble_eq_true rfl) ?_
      rintro _ _ ⟨_, rfl, rfl, rfl⟩
      show PW x G 6 80 [(5, .int (σ.1 k1 (((26 + (5 * v2)) + 1).toNatClampNeg))), (4, .int (σ.1 k1 (((26 + (5 * v2)) + 0).toNatClampNeg))), (0, .ref (G.1 + 189)), (1, .ref (G.1 + k1)), (2, .int v2), (3, .int v3)] [.int ((26 + (5 * v2)) + 3), .ref (G.1 + k1), .long (τ16.2 200 ((σ.1 k1 (((26 + (5 * v2)) + 0).toNatClampNeg)).toNatClampNeg)), .long ((τ16.2 199 ((σ.1 k1 (((26 + (5 * v2)) + 0).toNatClampNeg)).toNatClampNeg)) * ((τ16.1 k1 (((26 + (5 * v2)) + 2).toNatClampNeg)).toInt64)), .int (σ.1 k1 (((26 + (5 * v2)) + 1).toNatClampNeg)), .ref (G.1 + 189)] τ16
      obtain ⟨g18, h⟩ := h
      refine pw_iald C dX8_spread_80 hk1.1 hk1.2 g18 ?_
      refine pw_i2l (v := ((τ16.1 k1 (((26 + (5 * v2)) + 3).toNatClampNeg)).toInt64)) C dX8_spread_81 rfl ?_
      refine pw_lmul C dX8_spread_82 ?_
      obtain ⟨Φ19, hM, h⟩ := h
      refine pw_callV C dX8_spread_83 hM gm_X8_setWorks gl_RX8_89 rfl hR (by decide) (by decide) (by decide) rfl gk_189.1 gk_189.2 rfl (Nat.le_of_ble_eq_true rfl) ?_
      rintro _ τ20 ⟨rfl, hv⟩
      replace h := h τ20 hv
      show PW x G 6 86 [(5, .int (σ.1 k1 (((26 + (5 * v2)) + 1).toNatClampNeg))), (4, .int (σ.1 k1 (((26 + (5 * v2)) + 0).toNatClampNeg))), (0, .ref (G.1 + 189)), (1, .ref (G.1 + k1)), (2, .int v2), (3, .int v3)] [] τ20
      refine pw_iconst (v := 1) C dX8_spread_86 (by decide) ?_
      exact pw_zret (b := true) C hT dX8_spread_87 h
set_option maxRecDepth 4000 in
theorem sg_X8_layParts_0 {x : gw_X} {G : gw_G} {Φ : gw_S → Prop} (C : XC x G RX8 cX8_layParts 5 none) (hR : gw_ok x 3) (hT : RT x G (fv Φ)) (k1 : Nat) (hk1 : gw_ia k1 96) (σ : gw_S)
    (h : ∀ τ1 : gw_S, τ1 = gw_u σ 189 15 0 → (PW x G 5 7 [(0, .ref (G.1 + 189)), (1, .ref (G.1 + k1)), (2, .int 0)] [] τ1)) : PW x G 5 0 [(0, .ref (G.1 + 189)), (1, .ref (G.1 + k1))] [] σ := by
  refine pw_aload_n C dX8_layParts_0 rfl 0 rfl ?_
  refine pw_iconst (v := 0) C dX8_layParts_1 (by decide) ?_
  refine pw_puti C dX8_layParts_2 gf_RX8_93 rfl rfl rfl gk_189.1 gk_189.2 rfl ?_
  generalize hτ1 : gw_u σ 189 15 0 = τ1
  replace h := h τ1 hτ1.symm
  show PW x G 5 5 [(0, .ref (G.1 + 189)), (1, .ref (G.1 + k1))] [] τ1
  refine pw_iconst (v := 0) C dX8_layParts_5 (by decide) ?_
  refine pw_istore_n C dX8_layParts_6 rfl (by decide) rfl ?_
  exact pw_sub [1, 2, 0] rfl h
set_option maxRecDepth 4000 in
theorem sg_X8_layParts_7 {x : gw_X} {G : gw_G} {Φ : gw_S → Prop} (C : XC x G RX8 cX8_layParts 5 none) (hR : gw_ok x 3) (hT : RT x G (fv Φ)) (k1 : Nat) (hk1 : gw_ia k1 96) (v2 : Int32) (σ : gw_S)
    (h : (8 ≤ v2 → PW x G 5 28 [(0, .ref (G.1 + 189)), (1, .ref (G.1 + k1)), (2, .int 0)] [] σ) ∧ (¬ (8 ≤ v2) → vp_in v2 8 ∧ (∀ τ2 : gw_S, τ2 = gw_u σ 198 v2.toNatClampNeg (-1) → (PW x G 5 7 [(0, .ref (G.1 + 189)), (1, .ref (G.1 + k1)), (2, .int (v2 + 1))] [] τ2)))) : PW x G 5 7 [(0, .ref (G.1 + 189)), (1, .ref (G.1 + k1)), (2, .int v2)] [] σ := by
  refine pw_iload_n C dX8_layParts_7 rfl 2 rfl ?_
  refine pw_bipush (v := 8) C dX8_layParts_8 (by decide) ?_
  refine pw_icmp_ge (tgt := 26) C dX8_layParts_10 (by decide) (fun q => ?_) (fun q => ?_)
  · replace h := h.1 q
    refine pw_iconst (v := 0) C dX8_layParts_26 (by decide) ?_
    refine pw_istore_n C dX8_layParts_27 rfl (by decide) rfl ?_
    exact pw_sub [1, 2, 0] rfl h
  · replace h := h.2 q
    refine pw_aload_n C dX8_layParts_13 rfl 0 rfl ?_
    refine pw_getr C dX8_layParts_14 gf_RX8_35 gk_189.1 gk_189.2 rfl ?_
    refine pw_iload_n C dX8_layParts_17 rfl 2 rfl ?_
    refine pw_iconst (v := (-1)) C dX8_layParts_18 (by decide) ?_
    obtain ⟨g1, h⟩ := h
    refine pw_iast C dX8_layParts_19 gk_198.1 gk_198.2 g1 ?_
    generalize hτ2 : gw_u σ 198 v2.toNatClampNeg (-1) = τ2
    replace h := h τ2 hτ2.symm
    show PW x G 5 20 [(0, .ref (G.1 + 189)), (1, .ref (G.1 + k1)), (2, .int v2)] [] τ2
    refine pw_iinc (v := (v2 + 1)) (j := 2) C dX8_layParts_20 rfl rfl (by decide) rfl ?_
    refine pw_goto (tgt := 7) C dX8_layParts_23 (by decide) ?_
    exact pw_sub [1, 2, 0] rfl h
set_option maxRecDepth 4000 in
theorem sg_X8_layParts_28 {x : gw_X} {G : gw_G} {Φ : gw_S → Prop} (C : XC x G RX8 cX8_layParts 5 none) (hR : gw_ok x 3) (hT : RT x G (fv Φ)) (k1 : Nat) (hk1 : gw_ia k1 96) (v2 : Int32) (σ : gw_S)
    (h : ((σ.1 k1 ((0 : Int32).toNatClampNeg)) ≤ v2 → Φ σ) ∧ (¬ ((σ.1 k1 ((0 : Int32).toNatClampNeg)) ≤ v2) → vp_in v2 8 ∧ ((¬ ((σ.1 198 v2.toNatClampNeg) = (-1)) → PW x G 5 28 [(0, .ref (G.1 + 189)), (1, .ref (G.1 + k1)), (2, .int (v2 + 1))] [] σ) ∧ ((σ.1 198 v2.toNatClampNeg) = (-1) → ∀ τ2 : gw_S, τ2 = gw_u σ 198 v2.toNatClampNeg (σ.1 189 15) → (∀ τ3 : gw_S, τ3 = gw_ul τ2 199 v2.toNatClampNeg 1 → (∀ τ4 : gw_S, τ4 = gw_ul τ3 200 v2.toNatClampNeg 1 → (PW x G 5 71 [(0, .ref (G.1 + 189)), (1, .ref (G.1 + k1)), (2, .int v2), (3, .int (gz true))] [] τ4))))))) : PW x G 5 28 [(0, .ref (G.1 + 189)), (1, .ref (G.1 + k1)), (2, .int v2)] [] σ := by
  refine pw_iload_n C dX8_layParts_28 rfl 2 rfl ?_
  refine pw_aload_n C dX8_layParts_29 rfl 1 rfl ?_
  refine pw_iconst (v := 0) C dX8_layParts_30 (by decide) ?_
  refine pw_iald C dX8_layParts_31 hk1.1 hk1.2 (by show ¬ (_ ∨ _); decide) ?_
  refine pw_icmp_ge (tgt := 137) C dX8_layParts_32 (by decide) (fun q => ?_) (fun q => ?_)
  · replace h := h.1 q
    exact pw_vret C hT dX8_layParts_137 h
  · replace h := h.2 q
    refine pw_aload_n C dX8_layParts_35 rfl 0 rfl ?_
    refine pw_getr C dX8_layParts_36 gf_RX8_35 gk_189.1 gk_189.2 rfl ?_
    refine pw_iload_n C dX8_layParts_39 rfl 2 rfl ?_
    obtain ⟨g1, h⟩ := h
    refine pw_iald C dX8_layParts_40 gk_198.1 gk_198.2 g1 ?_
    refine pw_iconst (v := (-1)) C dX8_layParts_41 (by decide) ?_
    refine pw_icmp_ne (tgt := 131) C dX8_layParts_42 (by decide) (fun q => ?_) (fun q => ?_)
    · replace h := h.1 q
      refine pw_iinc (v := (v2 + 1)) (j := 2) C dX8_layParts_131 rfl rfl (by decide) rfl ?_
      refine pw_goto (tgt := 28) C dX8_layParts_134 (by decide) ?_
      exact pw_sub [1, 2, 0] rfl h
    · replace h := h.2 q
      refine pw_aload_n C dX8_layParts_45 rfl 0 rfl ?_
      refine pw_getr C dX8_layParts_46 gf_RX8_35 gk_189.1 gk_189.2 rfl ?_
      refine pw_iload_n C dX8_layParts_49 rfl 2 rfl ?_
      refine pw_aload_n C dX8_layParts_50 rfl 0 rfl ?_
      refine pw_geti C dX8_layParts_51 gf_RX8_93 gk_189.1 gk_189.2 rfl ?_
      refine pw_iast C dX8_layParts_54 gk_198.1 gk_198.2 g1 ?_
      generalize hτ2 : gw_u σ 198 v2.toNatClampNeg (σ.1 189 15) = τ2
      replace h := h τ2 hτ2.symm
      show PW x G 5 55 [(0, .ref (G.1 + 189)), (1, .ref (G.1 + k1)), (2, .int v2)] [] τ2
      refine pw_aload_n C dX8_layParts_55 rfl 0 rfl ?_
      refine pw_getr C dX8_layParts_56 gf_RX8_38 gk_189.1 gk_189.2 rfl ?_
      refine pw_iload_n C dX8_layParts_59 rfl 2 rfl ?_
      refine pw_lconst (v := 1) C dX8_layParts_60 (by decide) ?_
      refine pw_last C dX8_layParts_61 gk_199.1 gk_199.2 g1 ?_
      generalize hτ3 : gw_ul τ2 199 v2.toNatClampNeg 1 = τ3
      replace h := h τ3 hτ3.symm
      show PW x G 5 62 [(0, .ref (G.1 + 189)), (1, .ref (G.1 + k1)), (2, .int v2)] [] τ3
      refine pw_aload_n C dX8_layParts_62 rfl 0 rfl ?_
      refine pw_getr C dX8_layParts_63 gf_RX8_42 gk_189.1 gk_189.2 rfl ?_
      refine pw_iload_n C dX8_layParts_66 rfl 2 rfl ?_
      refine pw_lconst (v := 1) C dX8_layParts_67 (by decide) ?_
      refine pw_last C dX8_layParts_68 gk_200.1 gk_200.2 g1 ?_
      generalize hτ4 : gw_ul τ3 200 v2.toNatClampNeg 1 = τ4
      replace h := h τ4 hτ4.symm
      show PW x G 5 69 [(0, .ref (G.1 + 189)), (1, .ref (G.1 + k1)), (2, .int v2)] [] τ4
      refine pw_iconst (v := 1) C dX8_layParts_69 (by decide) ?_
      refine pw_istore_n C dX8_layParts_70 rfl (by decide) rfl ?_
      exact pw_sub [1, 2, 3, 0] rfl h
set_option maxRecDepth 4000 in
theorem sg_X8_layParts_71 {x : gw_X} {G : gw_G} {Φ : gw_S → Prop} (C : XC x G RX8 cX8_layParts 5 none) (hR : gw_ok x 3) (hT : RT x G (fv Φ)) (k1 : Nat) (hk1 : gw_ia k1 96) (v2 : Int32) (v3 : Bool) (σ : gw_S)
    (h : (v3 = false → ∀ τ1 : gw_S, τ1 = gw_u σ 189 15 ((σ.1 189 15) + 1) → (PW x G 5 28 [(0, .ref (G.1 + 189)), (1, .ref (G.1 + k1)), (2, .int (v2 + 1))] [] τ1)) ∧ (¬ (v3 = false) → PW x G 5 80 [(0, .ref (G.1 + 189)), (1, .ref (G.1 + k1)), (2, .int v2), (3, .int (gz false)), (4, .int 0)] [] σ)) : PW x G 5 71 [(0, .ref (G.1 + 189)), (1, .ref (G.1 + k1)), (2, .int v2), (3, .int (gz v3))] [] σ := by
  refine pw_iload_n C dX8_layParts_71 rfl 3 rfl ?_
  refine pw_z_eq (tgt := 121) C dX8_layParts_72 (by decide) (fun q => ?_) (fun q => ?_)
  · replace h := h.1 q
    refine pw_aload_n C dX8_layParts_121 rfl 0 rfl ?_
    refine pw_dup C dX8_layParts_122 rfl ?_
    refine pw_geti C dX8_layParts_123 gf_RX8_93 gk_189.1 gk_189.2 rfl ?_
    refine pw_iconst (v := 1) C dX8_layParts_126 (by decide) ?_
    refine pw_iadd C dX8_layParts_127 ?_
    refine pw_puti C dX8_layParts_128 gf_RX8_93 rfl rfl rfl gk_189.1 gk_189.2 rfl ?_
    generalize hτ1 : gw_u σ 189 15 ((σ.1 189 15) + 1) = τ1
    replace h := h τ1 hτ1.symm
    show PW x G 5 131 [(0, .ref (G.1 + 189)), (1, .ref (G.1 + k1)), (2, .int v2), (3, .int (gz v3))] [] τ1
    refine pw_iinc (v := (v2 + 1)) (j := 2) C dX8_layParts_131 rfl rfl (by decide) rfl ?_
    refine pw_goto (tgt := 28) C dX8_layParts_134 (by decide) ?_
    exact pw_sub [1, 2, 0] rfl h
  · replace h := h.2 q
    refine pw_iconst (v := 0) C dX8_layParts_75 (by decide) ?_
    refine pw_istore_n C dX8_layParts_76 rfl (by decide) rfl ?_
    refine pw_iconst (v := 0) C dX8_layParts_77 (by decide) ?_
    refine pw_istore C dX8_layParts_78 (by decide) rfl ?_
    exact pw_sub [2, 3, 4, 1, 0] rfl h
set_option maxRecDepth 4000 in
theorem sg_X8_layParts_80 {x : gw_X} {G : gw_G} {Φ : gw_S → Prop} (C : XC x G RX8 cX8_layParts 5 none) (hR : gw_ok x 3) (hT : RT x G (fv Φ)) (k1 : Nat) (hk1 : gw_ia k1 96) (v2 : Int32) (v3 : Bool) (v4 : Int32) (σ : gw_S)
    (h : ((σ.1 k1 ((1 : Int32).toNatClampNeg)) ≤ v4 → PW x G 5 71 [(0, .ref (G.1 + 189)), (1, .ref (G.1 + k1)), (2, .int v2), (3, .int (gz v3))] [] σ) ∧ (¬ ((σ.1 k1 ((1 : Int32).toNatClampNeg)) ≤ v4) → ∃ Φ1 : Bool → gw_S → Prop, gw_M (xl x) G yX8_spread cX8_spread 6 (some .boolean) 2 [.ref (G.1 + 189), .ref (G.1 + k1), .int v4, .int (σ.1 189 15)] σ (fz Φ1) ∧ ∀ (r3 : Bool) (τ2 : gw_S), Φ1 r3 τ2 → (PW x G 5 80 [(0, .ref (G.1 + 189)), (1, .ref (G.1 + k1)), (2, .int v2), (3, .int (gz (if r3 = false then (if v3 = false then false else true : Bool) else true : Bool))), (4, .int (v4 + 1))] [] τ2))) : PW x G 5 80 [(0, .ref (G.1 + 189)), (1, .ref (G.1 + k1)), (2, .int v2), (3, .int (gz v3)), (4, .int v4)] [] σ := by
  refine pw_iload C dX8_layParts_80 4 rfl ?_
  refine pw_aload_n C dX8_layParts_82 rfl 1 rfl ?_
  refine pw_iconst (v := 1) C dX8_layParts_83 (by decide) ?_
  refine pw_iald C dX8_layParts_84 hk1.1 hk1.2 (by show ¬ (_ ∨ _); decide) ?_
  refine pw_icmp_ge (tgt := 118) C dX8_layParts_85 (by decide) (fun q => ?_) (fun q => ?_)
  · replace h := h.1 q
    refine pw_goto (tgt := 71) C dX8_layParts_118 (by decide) ?_
    exact pw_sub [0, 1, 2, 3] rfl h
  · replace h := h.2 q
    refine pw_aload_n C dX8_layParts_88 rfl 0 rfl ?_
    refine pw_aload_n C dX8_layParts_89 rfl 1 rfl ?_
    refine pw_iload C dX8_layParts_90 4 rfl ?_
    refine pw_aload_n C dX8_layParts_92 rfl 0 rfl ?_
    refine pw_geti C dX8_layParts_93 gf_RX8_93 gk_189.1 gk_189.2 rfl ?_
    obtain ⟨Φ1, hM, h⟩ := h
    refine pw_callV C dX8_layParts_96 hM gm_X8_spread gl_RX8_96 rfl hR (by decide) (by decide) (by decide) rfl gk_189.1 gk_189.2 rfl (Nat.le_of_ble_eq_true rfl) ?_
    rintro _ τ2 ⟨r3, rfl, hv⟩
    replace h := h r3 τ2 hv
    show PW x G 5 99 [(0, .ref (G.1 + 189)), (1, .ref (G.1 + k1)), (2, .int v2), (3, .int (gz v3)), (4, .int v4)] [.int (gz r3)] τ2
    have hJ : ∀ w0 : Bool, (if r3 = false then (if v3 = false then false else true : Bool) else true : Bool) = w0 → PW x G 5 111 [(0, .ref (G.1 + 189)), (1, .ref (G.1 + k1)), (2, .int v2), (3, .int (gz v3)), (4, .int v4)] [.int (gz w0)] τ2 := by
      rintro _ rfl
      refine pw_istore_n C dX8_layParts_111 rfl (by decide) rfl ?_
      refine pw_iinc (v := (v4 + 1)) (j := 4) C dX8_layParts_112 rfl rfl (by decide) rfl ?_
      refine pw_goto (tgt := 80) C dX8_layParts_115 (by decide) ?_
      exact pw_sub [2, 3, 4, 1, 0] rfl h
    clear h
    refine pw_z_ne (tgt := 106) C dX8_layParts_99 (by decide) (fun q2 => ?_) (fun q2 => ?_)
    · refine pw_iconst (v := 1) C dX8_layParts_106 (by decide) ?_
      refine pw_goto (tgt := 111) C dX8_layParts_107 (by decide) ?_
      exact hJ true (if_neg q2)
    · refine pw_iload_n C dX8_layParts_102 rfl 3 rfl ?_
      refine pw_z_eq (tgt := 110) C dX8_layParts_103 (by decide) (fun q3 => ?_) (fun q3 => ?_)
      · refine pw_iconst (v := 0) C dX8_layParts_110 (by decide) ?_
        exact hJ false ((if_pos q2).trans (if_pos q3))
      · refine pw_iconst (v := 1) C dX8_layParts_106 (by decide) ?_
        refine pw_goto (tgt := 111) C dX8_layParts_107 (by decide) ?_
        exact hJ true ((if_pos q2).trans (if_neg q3))
set_option maxRecDepth 4000 in
theorem sg_X8_layWorks_0 {x : gw_X} {G : gw_G} {Φ : Bool → gw_S → Prop} (C : XC x G RX8 cX8_layWorks 11 (some .boolean)) (hR : gw_ok x 4) (hT : RT x G (fz Φ)) (k1 : Nat) (hk1 : gw_ia k1 96) (σ : gw_S)
    (h : ∃ Φ1 : gw_S → Prop, gw_M (xl x) G yX8_layParts cX8_layParts 5 none 3 [.ref (G.1 + 189), .ref (G.1 + k1)] σ (fv Φ1) ∧ ∀ (τ2 : gw_S), Φ1 τ2 → (PW x G 11 7 [(0, .ref (G.1 + 189)), (1, .ref (G.1 + k1)), (2, .int 0)] [] τ2)) : PW x G 11 0 [(0, .ref (G.1 + 189)), (1, .ref (G.1 + k1))] [] σ := by
  refine pw_aload_n C dX8_layWorks_0 rfl 0 rfl ?_
  refine pw_aload_n C dX8_layWorks_1 rfl 1 rfl ?_
  obtain ⟨Φ1, hM, h⟩ := h
  refine pw_callV C dX8_layWorks_2 hM gm_X8_layParts gl_RX8_100 rfl hR (by decide) (by decide) (by decide) rfl gk_189.1 gk_189.2 rfl (Nat.le_of_ble_eq_true rfl) ?_
  rintro _ τ2 ⟨rfl, hv⟩
  replace h := h τ2 hv
  show PW x G 11 5 [(0, .ref (G.1 + 189)), (1, .ref (G.1 + k1))] [] τ2
  refine pw_iconst (v := 0) C dX8_layWorks_5 (by decide) ?_
  refine pw_istore_n C dX8_layWorks_6 rfl (by decide) rfl ?_
  exact pw_sub [1, 2, 0] rfl h
set_option maxRecDepth 4000 in
theorem sg_X8_layWorks_7 {x : gw_X} {G : gw_G} {Φ : Bool → gw_S → Prop} (C : XC x G RX8 cX8_layWorks 11 (some .boolean)) (hR : gw_ok x 4) (hT : RT x G (fz Φ)) (k1 : Nat) (hk1 : gw_ia k1 96) (v2 : Int32) (σ : gw_S)
    (h : ((σ.1 k1 ((1 : Int32).toNatClampNeg)) ≤ v2 → PW x G 11 93 [(0, .ref (G.1 + 189)), (1, .ref (G.1 + k1)), (2, .int (gz true)), (3, .int 0)] [] σ) ∧ (¬ ((σ.1 k1 ((1 : Int32).toNatClampNeg)) ≤ v2) → vp_in ((26 + (5 * v2)) + 0) 96 ∧ (vp_in ((26 + (5 * v2)) + 1) 96 ∧ (vp_in (σ.1 k1 (((26 + (5 * v2)) + 0).toNatClampNeg)) 8 ∧ (vp_in ((26 + (5 * v2)) + 2) 96 ∧ (vp_in (σ.1 k1 (((26 + (5 * v2)) + 1).toNatClampNeg)) 8 ∧ (vp_in ((26 + (5 * v2)) + 3) 96 ∧ (((lg_cmp (((σ.2 199 ((σ.1 k1 (((26 + (5 * v2)) + 0).toNatClampNeg)).toNatClampNeg)) * ((σ.1 k1 (((26 + (5 * v2)) + 2).toNatClampNeg)).toInt64)) * (σ.2 200 ((σ.1 k1 (((26 + (5 * v2)) + 1).toNatClampNeg)).toNatClampNeg))) (((σ.2 199 ((σ.1 k1 (((26 + (5 * v2)) + 1).toNatClampNeg)).toNatClampNeg)) * ((σ.1 k1 (((26 + (5 * v2)) + 3).toNatClampNeg)).toInt64)) * (σ.2 200 ((σ.1 k1 (((26 + (5 * v2)) + 0).toNatClampNeg)).toNatClampNeg)))) = 0 → PW x G 11 7 [(0, .ref (G.1 + 189)), (1, .ref (G.1 + k1)), (2, .int (v2 + 1))] [] σ) ∧ (¬ ((lg_cmp (((σ.2 199 ((σ.1 k1 (((26 + (5 * v2)) + 0).toNatClampNeg)).toNatClampNeg)) * ((σ.1 k1 (((26 + (5 * v2)) + 2).toNatClampNeg)).toInt64)) * (σ.2 200 ((σ.1 k1 (((26 + (5 * v2)) + 1).toNatClampNeg)).toNatClampNeg))) (((σ.2 199 ((σ.1 k1 (((26 + (5 * v2)) + 1).toNatClampNeg)).toNatClampNeg)) * ((σ.1 k1 (((26 + (5 * v2)) + 3).toNatClampNeg)).toInt64)) * (σ.2 200 ((σ.1 k1 (((26 + (5 * v2)) + 0).toNatClampNeg)).toNatClampNeg)))) = 0) → Φ false σ))))))))) : PW x G 11 7 [(0, .ref (G.1 + 189)), (1, .ref (G.1 + k1)), (2, .int v2)] [] σ := by
  refine pw_iload_n C dX8_layWorks_7 rfl 2 rfl ?_
  refine pw_aload_n C dX8_layWorks_8 rfl 1 rfl ?_
  refine pw_iconst (v := 1) C dX8_layWorks_9 (by decide) ?_
  refine pw_iald C dX8_layWorks_10 hk1.1 hk1.2 (by show ¬ (_ ∨ _); decide) ?_
  refine pw_icmp_ge (tgt := 89) C dX8_layWorks_11 (by decide) (fun q => ?_) (fun q => ?_)
  · replace h := h.1 q
    refine pw_iconst (v := 1) C dX8_layWorks_89 (by decide) ?_
    refine pw_istore_n C dX8_layWorks_90 rfl (by decide) rfl ?_
    refine pw_iconst (v := 0) C dX8_layWorks_91 (by decide) ?_
    refine pw_istore_n C dX8_layWorks_92 rfl (by decide) rfl ?_
    exact pw_sub [2, 3, 1, 0] rfl h
  · replace h := h.2 q
    refine pw_aload_n C dX8_layWorks_14 rfl 1 rfl ?_
    refine pw_iload_n C dX8_layWorks_15 rfl 2 rfl ?_
    refine pw_iconst (v := 0) C dX8_layWorks_16 (by decide) ?_
    refine pw_callS C dX8_layWorks_17 (k_X8_wireAt v2 0 σ ) gm_X8_wireAt gl_RX8_73 rfl hR (by decide) (by decide) rfl (Nat.le_of_ble_eq_true rfl) ?_
    rintro _ _ ⟨_, rfl, rfl, rfl⟩
    show PW x G 11 20 [(0, .ref (G.1 + 189)), (1, .ref (G.1 + k1)), (2, .int v2)] [.int ((26 + (5 * v2)) + 0), .ref (G.1 + k1)] σ
    obtain ⟨g1, h⟩ := h
    refine pw_iald C dX8_layWorks_20 hk1.1 hk1.2 g1 ?_
    refine pw_istore_n C dX8_layWorks_21 rfl (by decide) rfl ?_
    refine pw_aload_n C dX8_layWorks_22 rfl 2 rfl ?_
    refine pw_iload_n C dX8_layWorks_23 rfl 3 rfl ?_
    refine pw_iconst (v := 1) C dX8_layWorks_24 (by decide) ?_
    refine pw_callS C dX8_layWorks_25 (k_X8_wireAt v2 1 σ ) gm_X8_wireAt gl_RX8_73 rfl hR (by decide) (by decide) rfl (Nat.le_of_ble_eq_true rfl) ?_
    rintro _ _ ⟨_, rfl, rfl, rfl⟩
    show PW x G 11 28 [(3, .int (σ.1 k1 (((26 + (5 * v2)) + 0).toNatClampNeg))), (0, .ref (G.1 + 189)), (1, .ref (G.1 + k1)), (2, .int v2)] [.int ((26 + (5 * v2)) + 1), .ref (G.1 + k1)] σ
    obtain ⟨g2, h⟩ := h
    refine pw_iald C dX8_layWorks_28 hk1.1 hk1.2 g2 ?_
    refine pw_istore C dX8_layWorks_29 (by decide) rfl ?_
    refine pw_aload_n C dX8_layWorks_31 rfl 2 rfl ?_
    refine pw_getr C dX8_layWorks_32 gf_RX8_38 gk_189.1 gk_189.2 rfl ?_
    refine pw_iload_n C dX8_layWorks_35 rfl 1 rfl ?_
    obtain ⟨g3, h⟩ := h
    refine pw_lald C dX8_layWorks_36 gk_199.1 gk_199.2 g3 ?_
    refine pw_aload_n C dX8_layWorks_37 rfl 3 rfl ?_
    refine pw_iload_n C dX8_layWorks_38 rfl 4 rfl ?_
    refine pw_iconst (v := 2) C dX8_layWorks_39 (by decide) ?_
    refine pw_callS C dX8_layWorks_40 (k_X8_wireAt v2 2 σ ) gm_X8_wireAt gl_RX8_73 rfl hR (by decide) (by decide) rfl (Nat.le_of_ble_eq_true rfl) ?_
    rintro _ _ ⟨_, rfl, rfl, rfl⟩
    show PW x G 11 43 [(4, .int (σ.1 k1 (((26 + (5 * v2)) + 1).toNatClampNeg))), (3, .int (σ.1 k1 (((26 + (5 * v2)) + 0).toNatClampNeg))), (0, .ref (G.1 + 189)), (1, .ref (G.1 + k1)), (2, .int v2)] [.int ((26 + (5 * v2)) + 2), .ref (G.1 + k1), .long (σ.2 199 ((σ.1 k1 (((26 + (5 * v2)) + 0).toNatClampNeg)).toNatClampNeg))] σ
    obtain ⟨g4, h⟩ := h
    refine pw_iald C dX8_layWorks_43 hk1.1 hk1.2 g4 ?_
    refine pw_i2l (v := ((σ.1 k1 (((26 + (5 * v2)) + 2).toNatClampNeg)).toInt64)) C dX8_layWorks_44 rfl ?_
    refine pw_lmul C dX8_layWorks_45 ?_
    refine pw_aload_n C dX8_layWorks_46 rfl 2 rfl ?_
    refine pw_getr C dX8_layWorks_47 gf_RX8_42 gk_189.1 gk_189.2 rfl ?_
    refine pw_iload C dX8_layWorks_50 0 rfl ?_
    obtain ⟨g5, h⟩ := h
    refine pw_lald C dX8_layWorks_52 gk_200.1 gk_200.2 g5 ?_
    refine pw_lmul C dX8_layWorks_53 ?_
    refine pw_aload_n C dX8_layWorks_54 rfl 2 rfl ?_
    refine pw_getr C dX8_layWorks_55 gf_RX8_38 gk_189.1 gk_189.2 rfl ?_
    refine pw_iload C dX8_layWorks_58 0 rfl ?_
    refine pw_lald C dX8_layWorks_60 gk_199.1 gk_199.2 g5 ?_
    refine pw_aload_n C dX8_layWorks_61 rfl 3 rfl ?_
    refine pw_iload_n C dX8_layWorks_62 rfl 4 rfl ?_
    refine pw_iconst (v := 3) C dX8_layWorks_63 (by decide) ?_
    refine pw_callS C dX8_layWorks_64 (k_X8_wireAt v2 3 σ ) gm_X8_wireAt gl_RX8_73 rfl hR (by decide) (by decide) rfl (Nat.le_of_ble_eq_true rfl) ?_
    rintro _ _ ⟨_, rfl, rfl, rfl⟩
    show PW x G 11 67 [(4, .int (σ.1 k1 (((26 + (5 * v2)) + 1).toNatClampNeg))), (3, .int (σ.1 k1 (((26 + (5 * v2)) + 0).toNatClampNeg))), (0, .ref (G.1 + 189)), (1, .ref (G.1 + k1)), (2, .int v2)] [.int ((26 + (5 * v2)) + 3), .ref (G.1 + k1), .long (σ.2 199 ((σ.1 k1 (((26 + (5 * v2)) + 1).toNatClampNeg)).toNatClampNeg)), .long (((σ.2 199 ((σ.1 k1 (((26 + (5 * v2)) + 0).toNatClampNeg)).toNatClampNeg)) * ((σ.1 k1 (((26 + (5 * v2)) + 2).toNatClampNeg)).toInt64)) * (σ.2 200 ((σ.1 k1 (((26 + (5 * v2)) + 1).toNatClampNeg)).toNatClampNeg)))] σ
    obtain ⟨g6, h⟩ := h
    refine pw_iald C dX8_layWorks_67 hk1.1 hk1.2 g6 ?_
    refine pw_i2l (v := ((σ.1 k1 (((26 + (5 * v2)) + 3).toNatClampNeg)).toInt64)) C dX8_layWorks_68 rfl ?_
    refine pw_lmul C dX8_layWorks_69 ?_
    refine pw_aload_n C dX8_layWorks_70 rfl 2 rfl ?_
    refine pw_getr C dX8_layWorks_71 gf_RX8_42 gk_189.1 gk_189.2 rfl ?_
    refine pw_iload_n C dX8_layWorks_74 rfl 1 rfl ?_
    refine pw_lald C dX8_layWorks_75 gk_200.1 gk_200.2 g3 ?_
    refine pw_lmul C dX8_layWorks_76 ?_
    refine pw_lcmp C dX8_layWorks_77 ?_
    refine pw_if_eq (tgt := 83) C dX8_layWorks_78 (by decide) (fun q => ?_) (fun q => ?_)
    · replace h := h.1 q
      refine pw_iinc (v := (v2 + 1)) (j := 4) C dX8_layWorks_83 rfl rfl (by decide) rfl ?_
      refine pw_goto (tgt := 7) C dX8_layWorks_86 (by decide) ?_
      exact pw_sub [3, 4, 0] rfl h
    · replace h := h.2 q
      refine pw_iconst (v := 0) C dX8_layWorks_81 (by decide) ?_
      exact pw_zret (b := false) C hT dX8_layWorks_82 h
set_option maxRecDepth 4000 in
theorem sg_X8_layWorks_93 {x : gw_X} {G : gw_G} {Φ : Bool → gw_S → Prop} (C : XC x G RX8 cX8_layWorks 11 (some .boolean)) (hR : gw_ok x 4) (hT : RT x G (fz Φ)) (k1 : Nat) (hk1 : gw_ia k1 96) (v2 : Bool) (v3 : Int32) (σ : gw_S)
    (h : ((σ.1 189 15) ≤ v3 → Φ v2 σ) ∧ (¬ ((σ.1 189 15) ≤ v3) → PW x G 11 110 [(0, .ref (G.1 + 189)), (1, .ref (G.1 + k1)), (2, .int (gz v2)), (3, .int v3), (4, .long 1), (6, .long 0), (8, .int 0)] [] σ)) : PW x G 11 93 [(0, .ref (G.1 + 189)), (1, .ref (G.1 + k1)), (2, .int (gz v2)), (3, .int v3)] [] σ := by
  refine pw_iload_n C dX8_layWorks_93 rfl 3 rfl ?_
  refine pw_aload_n C dX8_layWorks_94 rfl 0 rfl ?_
  refine pw_geti C dX8_layWorks_95 gf_RX8_93 gk_189.1 gk_189.2 rfl ?_
  refine pw_icmp_ge (tgt := 322) C dX8_layWorks_98 (by decide) (fun q => ?_) (fun q => ?_)
  · replace h := h.1 q
    refine pw_iload_n C dX8_layWorks_322 rfl 2 rfl ?_
    exact pw_zret (b := v2) C hT dX8_layWorks_323 h
  · replace h := h.2 q
    refine pw_lconst (v := 1) C dX8_layWorks_101 (by decide) ?_
    refine pw_lstore C dX8_layWorks_102 (by decide) rfl ?_
    refine pw_lconst (v := 0) C dX8_layWorks_104 (by decide) ?_
    refine pw_lstore C dX8_layWorks_105 (by decide) rfl ?_
    refine pw_iconst (v := 0) C dX8_layWorks_107 (by decide) ?_
    refine pw_istore C dX8_layWorks_108 (by decide) rfl ?_
    exact pw_sub [3, 4, 5, 6, 2, 1, 0] rfl h
set_option maxRecDepth 4000 in
theorem sg_X8_layWorks_110 {x : gw_X} {G : gw_G} {Φ : Bool → gw_S → Prop} (C : XC x G RX8 cX8_layWorks 11 (some .boolean)) (hR : gw_ok x 4) (hT : RT x G (fz Φ)) (k1 : Nat) (hk1 : gw_ia k1 96) (v2 : Bool) (v3 : Int32) (v4 : Int64) (v6 : Int64) (v8 : Int32) (σ : gw_S)
    (h : ((σ.1 k1 ((0 : Int32).toNatClampNeg)) ≤ v8 → PW x G 11 168 [(0, .ref (G.1 + 189)), (1, .ref (G.1 + k1)), (2, .int (gz v2)), (3, .int v3), (4, .long v4), (6, .long v6), (8, .int 0)] [] σ) ∧ (¬ ((σ.1 k1 ((0 : Int32).toNatClampNeg)) ≤ v8) → vp_in v8 8 ∧ ((¬ ((σ.1 198 v8.toNatClampNeg) = v3) → PW x G 11 110 [(0, .ref (G.1 + 189)), (1, .ref (G.1 + k1)), (2, .int (gz v2)), (3, .int v3), (4, .long v4), (6, .long v6), (8, .int (v8 + 1))] [] σ) ∧ ((σ.1 198 v8.toNatClampNeg) = v3 → ∃ Φ2 : Int64 → gw_S → Prop, gw_M (xl x) G yX8_divisor cX8_divisor 10 (some .long) 0 [.long v4, .long (σ.2 200 v8.toNatClampNeg)] σ (fl Φ2) ∧ ∀ (r4 : Int64) (τ3 : gw_S), Φ2 r4 τ3 → (¬ r4 = 0 ∧ (PW x G 11 110 [(0, .ref (G.1 + 189)), (1, .ref (G.1 + k1)), (2, .int (gz v2)), (3, .int v3), (4, .long ((v4 / r4) * (τ3.2 200 v8.toNatClampNeg))), (6, .long v6), (8, .int (v8 + 1))] [] τ3)))))) : PW x G 11 110 [(0, .ref (G.1 + 189)), (1, .ref (G.1 + k1)), (2, .int (gz v2)), (3, .int v3), (4, .long v4), (6, .long v6), (8, .int v8)] [] σ := by
  refine pw_iload C dX8_layWorks_110 6 rfl ?_
  refine pw_aload_n C dX8_layWorks_112 rfl 1 rfl ?_
  refine pw_iconst (v := 0) C dX8_layWorks_113 (by decide) ?_
  refine pw_iald C dX8_layWorks_114 hk1.1 hk1.2 (by show ¬ (_ ∨ _); decide) ?_
  refine pw_icmp_ge (tgt := 165) C dX8_layWorks_115 (by decide) (fun q => ?_) (fun q => ?_)
  · replace h := h.1 q
    refine pw_iconst (v := 0) C dX8_layWorks_165 (by decide) ?_
    refine pw_istore C dX8_layWorks_166 (by decide) rfl ?_
    exact pw_sub [1, 2, 3, 4, 5, 6, 0] rfl h
  · replace h := h.2 q
    refine pw_aload_n C dX8_layWorks_118 rfl 0 rfl ?_
    refine pw_getr C dX8_layWorks_119 gf_RX8_35 gk_189.1 gk_189.2 rfl ?_
    refine pw_iload C dX8_layWorks_122 6 rfl ?_
    obtain ⟨g1, h⟩ := h
    refine pw_iald C dX8_layWorks_124 gk_198.1 gk_198.2 g1 ?_
    refine pw_iload_n C dX8_layWorks_125 rfl 3 rfl ?_
    refine pw_icmp_ne (tgt := 155) C dX8_layWorks_126 (by decide) (fun q => ?_) (fun q => ?_)
    · replace h := h.1 q
      refine pw_lload C dX8_layWorks_155 4 rfl ?_
      refine pw_lstore C dX8_layWorks_157 (by decide) rfl ?_
      refine pw_iinc (v := (v8 + 1)) (j := 6) C dX8_layWorks_159 rfl rfl (by decide) rfl ?_
      refine pw_goto (tgt := 110) C dX8_layWorks_162 (by decide) ?_
      exact pw_sub [2, 3, 4, 5, 1, 6, 0] rfl h
    · replace h := h.2 q
      refine pw_lload C dX8_layWorks_129 4 rfl ?_
      refine pw_lload C dX8_layWorks_131 4 rfl ?_
      refine pw_aload_n C dX8_layWorks_133 rfl 0 rfl ?_
      refine pw_getr C dX8_layWorks_134 gf_RX8_42 gk_189.1 gk_189.2 rfl ?_
      refine pw_iload C dX8_layWorks_137 6 rfl ?_
      refine pw_lald C dX8_layWorks_139 gk_200.1 gk_200.2 g1 ?_
      obtain ⟨Φ2, hM, h⟩ := h
      refine pw_callS C dX8_layWorks_140 hM gm_X8_divisor gl_RX8_85 rfl hR (by decide) (by decide) rfl (Nat.le_of_ble_eq_true rfl) ?_
      rintro _ τ3 ⟨r4, rfl, hv⟩
      replace h := h r4 τ3 hv
      show PW x G 11 143 [(0, .ref (G.1 + 189)), (1, .ref (G.1 + k1)), (2, .int (gz v2)), (3, .int v3), (4, .long v4), (6, .long v6), (8, .int v8)] [.long r4, .long v4] τ3
      obtain ⟨g5, h⟩ := h
      refine pw_ldiv C dX8_layWorks_143 g5 ?_
      refine pw_aload_n C dX8_layWorks_144 rfl 0 rfl ?_
      refine pw_getr C dX8_layWorks_145 gf_RX8_42 gk_189.1 gk_189.2 rfl ?_
      refine pw_iload C dX8_layWorks_148 6 rfl ?_
      refine pw_lald C dX8_layWorks_150 gk_200.1 gk_200.2 g1 ?_
      refine pw_lmul C dX8_layWorks_151 ?_
      refine pw_goto (tgt := 157) C dX8_layWorks_152 (by decide) ?_
      refine pw_lstore C dX8_layWorks_157 (by decide) rfl ?_
      refine pw_iinc (v := (v8 + 1)) (j := 6) C dX8_layWorks_159 rfl rfl (by decide) rfl ?_
      refine pw_goto (tgt := 110) C dX8_layWorks_162 (by decide) ?_
      exact pw_sub [2, 3, 4, 5, 1, 6, 0] rfl h
set_option maxRecDepth 4000 in
theorem sg_X8_layWorks_168 {x : gw_X} {G : gw_G} {Φ : Bool → gw_S → Prop} (C : XC x G RX8 cX8_layWorks 11 (some .boolean)) (hR : gw_ok x 4) (hT : RT x G (fz Φ)) (k1 : Nat) (hk1 : gw_ia k1 96) (v2 : Bool) (v3 : Int32) (v4 : Int64) (v6 : Int64) (v8 : Int32) (σ : gw_S)
    (h : ((σ.1 k1 ((0 : Int32).toNatClampNeg)) ≤ v8 → PW x G 11 226 [(0, .ref (G.1 + 189)), (1, .ref (G.1 + k1)), (2, .int (gz v2)), (3, .int v3), (4, .long v4), (6, .long v6), (8, .int 0)] [] σ) ∧ (¬ ((σ.1 k1 ((0 : Int32).toNatClampNeg)) ≤ v8) → vp_in v8 8 ∧ ((¬ ((σ.1 198 v8.toNatClampNeg) = v3) → PW x G 11 168 [(0, .ref (G.1 + 189)), (1, .ref (G.1 + k1)), (2, .int (gz v2)), (3, .int v3), (4, .long v4), (6, .long v6), (8, .int (v8 + 1))] [] σ) ∧ ((σ.1 198 v8.toNatClampNeg) = v3 → ¬ (σ.2 200 v8.toNatClampNeg) = 0 ∧ (∃ Φ3 : Int64 → gw_S → Prop, gw_M (xl x) G yX8_divisor cX8_divisor 10 (some .long) 0 [.long ((σ.2 199 v8.toNatClampNeg) * (v4 / (σ.2 200 v8.toNatClampNeg))), .long v6] σ (fl Φ3) ∧ ∀ (r5 : Int64) (τ4 : gw_S), Φ3 r5 τ4 → (PW x G 11 168 [(0, .ref (G.1 + 189)), (1, .ref (G.1 + k1)), (2, .int (gz v2)), (3, .int v3), (4, .long v4), (6, .long r5), (8, .int (v8 + 1))] [] τ4)))))) : PW x G 11 168 [(0, .ref (G.1 + 189)), (1, .ref (G.1 + k1)), (2, .int (gz v2)), (3, .int v3), (4, .long v4), (6, .long v6), (8, .int v8)] [] σ := by
  refine pw_iload C dX8_layWorks_168 6 rfl ?_
  refine pw_aload_n C dX8_layWorks_170 rfl 1 rfl ?_
  refine pw_iconst (v := 0) C dX8_layWorks_171 (by decide) ?_
  refine pw_iald C dX8_layWorks_172 hk1.1 hk1.2 (by show ¬ (_ ∨ _); decide) ?_
  refine pw_icmp_ge (tgt := 223) C dX8_layWorks_173 (by decide) (fun q => ?_) (fun q => ?_)
  · replace h := h.1 q
    refine pw_iconst (v := 0) C dX8_layWorks_223 (by decide) ?_
    refine pw_istore C dX8_layWorks_224 (by decide) rfl ?_
    exact pw_sub [1, 2, 3, 4, 5, 6, 0] rfl h
  · replace h := h.2 q
    refine pw_aload_n C dX8_layWorks_176 rfl 0 rfl ?_
    refine pw_getr C dX8_layWorks_177 gf_RX8_35 gk_189.1 gk_189.2 rfl ?_
    refine pw_iload C dX8_layWorks_180 6 rfl ?_
    obtain ⟨g1, h⟩ := h
    refine pw_iald C dX8_layWorks_182 gk_198.1 gk_198.2 g1 ?_
    refine pw_iload_n C dX8_layWorks_183 rfl 3 rfl ?_
    refine pw_icmp_ne (tgt := 213) C dX8_layWorks_184 (by decide) (fun q => ?_) (fun q => ?_)
    · replace h := h.1 q
      refine pw_lload C dX8_layWorks_213 5 rfl ?_
      refine pw_lstore C dX8_layWorks_215 (by decide) rfl ?_
      refine pw_iinc (v := (v8 + 1)) (j := 6) C dX8_layWorks_217 rfl rfl (by decide) rfl ?_
      refine pw_goto (tgt := 168) C dX8_layWorks_220 (by decide) ?_
      exact pw_sub [2, 3, 4, 5, 6, 1, 0] rfl h
    · replace h := h.2 q
      refine pw_aload_n C dX8_layWorks_187 rfl 0 rfl ?_
      refine pw_getr C dX8_layWorks_188 gf_RX8_38 gk_189.1 gk_189.2 rfl ?_
      refine pw_iload C dX8_layWorks_191 6 rfl ?_
      refine pw_lald C dX8_layWorks_193 gk_199.1 gk_199.2 g1 ?_
      refine pw_lload C dX8_layWorks_194 4 rfl ?_
      refine pw_aload_n C dX8_layWorks_196 rfl 0 rfl ?_
      refine pw_getr C dX8_layWorks_197 gf_RX8_42 gk_189.1 gk_189.2 rfl ?_
      refine pw_iload C dX8_layWorks_200 6 rfl ?_
      refine pw_lald C dX8_layWorks_202 gk_200.1 gk_200.2 g1 ?_
      obtain ⟨g2, h⟩ := h
      refine pw_ldiv C dX8_layWorks_203 g2 ?_
      refine pw_lmul C dX8_layWorks_204 ?_
      refine pw_lload C dX8_layWorks_205 5 rfl ?_
      obtain ⟨Φ3, hM, h⟩ := h
      refine pw_callS C dX8_layWorks_207 hM gm_X8_divisor gl_RX8_85 rfl hR (by decide) (by decide) rfl (Nat.le_of_ble_eq_true rfl) ?_
      rintro _ τ4 ⟨r5, rfl, hv⟩
      replace h := h r5 τ4 hv
      show PW x G 11 210 [(0, .ref (G.1 + 189)), (1, .ref (G.1 + k1)), (2, .int (gz v2)), (3, .int v3), (4, .long v4), (6, .long v6), (8, .int v8)] [.long r5] τ4
      refine pw_goto (tgt := 215) C dX8_layWorks_210 (by decide) ?_
      refine pw_lstore C dX8_layWorks_215 (by decide) rfl ?_
      refine pw_iinc (v := (v8 + 1)) (j := 6) C dX8_layWorks_217 rfl rfl (by decide) rfl ?_
      refine pw_goto (tgt := 168) C dX8_layWorks_220 (by decide) ?_
      exact pw_sub [2, 3, 4, 5, 6, 1, 0] rfl h
set_option maxRecDepth 4000 in
theorem sg_X8_layWorks_226 {x : gw_X} {G : gw_G} {Φ : Bool → gw_S → Prop} (C : XC x G RX8 cX8_layWorks 11 (some .boolean)) (hR : gw_ok x 4) (hT : RT x G (fz Φ)) (k1 : Nat) (hk1 : gw_ia k1 96) (v2 : Bool) (v3 : Int32) (v4 : Int64) (v6 : Int64) (v8 : Int32) (σ : gw_S)
    (h : ((σ.1 k1 ((0 : Int32).toNatClampNeg)) ≤ v8 → PW x G 11 93 [(0, .ref (G.1 + 189)), (1, .ref (G.1 + k1)), (2, .int (gz v2)), (3, .int (v3 + 1))] [] σ) ∧ (¬ ((σ.1 k1 ((0 : Int32).toNatClampNeg)) ≤ v8) → vp_in v8 8 ∧ ((¬ ((σ.1 198 v8.toNatClampNeg) = v3) → PW x G 11 226 [(0, .ref (G.1 + 189)), (1, .ref (G.1 + k1)), (2, .int (gz v2)), (3, .int v3), (4, .long v4), (6, .long v6), (8, .int (v8 + 1))] [] σ) ∧ ((σ.1 198 v8.toNatClampNeg) = v3 → ¬ (σ.2 200 v8.toNatClampNeg) = 0 ∧ (¬ v6 = 0 ∧ (∀ τ4 : gw_S, τ4 = gw_u σ 197 v8.toNatClampNeg (if 0 < (lg_cmp (((σ.2 199 v8.toNatClampNeg) * (v4 / (σ.2 200 v8.toNatClampNeg))) / v6) 60) then 0 else (((σ.2 199 v8.toNatClampNeg) * (v4 / (σ.2 200 v8.toNatClampNeg))) / v6).toInt32 : Int32) → (PW x G 11 226 [(0, .ref (G.1 + 189)), (1, .ref (G.1 + k1)), (2, .int (gz (if v2 = false then false else (if 0 < (lg_cmp (((σ.2 199 v8.toNatClampNeg) * (v4 / (σ.2 200 v8.toNatClampNeg))) / v6) 60) then false else true : Bool) : Bool))), (3, .int v3), (4, .long v4), (6, .long v6), (8, .int (v8 + 1))] [] τ4))))))) : PW x G 11 226 [(0, .ref (G.1 + 189)), (1, .ref (G.1 + k1)), (2, .int (gz v2)), (3, .int v3), (4, .long v4), (6, .long v6), (8, .int v8)] [] σ := by
  refine pw_iload C dX8_layWorks_226 6 rfl ?_
  refine pw_aload_n C dX8_layWorks_228 rfl 1 rfl ?_
  refine pw_iconst (v := 0) C dX8_layWorks_229 (by decide) ?_
  refine pw_iald C dX8_layWorks_230 hk1.1 hk1.2 (by show ¬ (_ ∨ _); decide) ?_
  refine pw_icmp_ge (tgt := 316) C dX8_layWorks_231 (by decide) (fun q => ?_) (fun q => ?_)
  · replace h := h.1 q
    refine pw_iinc (v := (v3 + 1)) (j := 3) C dX8_layWorks_316 rfl rfl (by decide) rfl ?_
    refine pw_goto (tgt := 93) C dX8_layWorks_319 (by decide) ?_
    exact pw_sub [1, 2, 3, 0] rfl h
  · replace h := h.2 q
    refine pw_aload_n C dX8_layWorks_234 rfl 0 rfl ?_
    refine pw_getr C dX8_layWorks_235 gf_RX8_35 gk_189.1 gk_189.2 rfl ?_
    refine pw_iload C dX8_layWorks_238 6 rfl ?_
    obtain ⟨g1, h⟩ := h
    refine pw_iald C dX8_layWorks_240 gk_198.1 gk_198.2 g1 ?_
    refine pw_iload_n C dX8_layWorks_241 rfl 3 rfl ?_
    refine pw_icmp_ne (tgt := 310) C dX8_layWorks_242 (by decide) (fun q => ?_) (fun q => ?_)
    · replace h := h.1 q
      refine pw_iinc (v := (v8 + 1)) (j := 6) C dX8_layWorks_310 rfl rfl (by decide) rfl ?_
      refine pw_goto (tgt := 226) C dX8_layWorks_313 (by decide) ?_
      exact pw_sub [1, 2, 3, 4, 5, 6, 0] rfl h
    · replace h := h.2 q
      refine pw_aload_n C dX8_layWorks_245 rfl 0 rfl ?_
      refine pw_getr C dX8_layWorks_246 gf_RX8_38 gk_189.1 gk_189.2 rfl ?_
      refine pw_iload C dX8_layWorks_249 6 rfl ?_
      refine pw_lald C dX8_layWorks_251 gk_199.1 gk_199.2 g1 ?_
      refine pw_lload C dX8_layWorks_252 4 rfl ?_
      refine pw_aload_n C dX8_layWorks_254 rfl 0 rfl ?_
      refine pw_getr C dX8_layWorks_255 gf_RX8_42 gk_189.1 gk_189.2 rfl ?_
      refine pw_iload C dX8_layWorks_258 6 rfl ?_
      refine pw_lald C dX8_layWorks_260 gk_200.1 gk_200.2 g1 ?_
      obtain ⟨g2, h⟩ := h
      refine pw_ldiv C dX8_layWorks_261 g2 ?_
      refine pw_lmul C dX8_layWorks_262 ?_
      refine pw_lload C dX8_layWorks_263 5 rfl ?_
      obtain ⟨g3, h⟩ := h
      refine pw_ldiv C dX8_layWorks_265 g3 ?_
      refine pw_lstore C dX8_layWorks_266 (by decide) rfl ?_
      refine pw_iload_n C dX8_layWorks_268 rfl 3 rfl ?_
      have hJ : ∀ w0 : Bool, (if v2 = false then false else (if 0 < (lg_cmp (((σ.2 199 v8.toNatClampNeg) * (v4 / (σ.2 200 v8.toNatClampNeg))) / v6) 60) then false else true : Bool) : Bool) = w0 → PW x G 11 286 [(9, .long (((σ.2 199 v8.toNatClampNeg) * (v4 / (σ.2 200 v8.toNatClampNeg))) / v6)), (0, .ref (G.1 + 189)), (1, .ref (G.1 + k1)), (2, .int (gz v2)), (3, .int v3), (4, .long v4), (6, .long v6), (8, .int v8)] [.int (gz w0)] σ := by
        rintro _ rfl
        refine pw_istore_n C dX8_layWorks_286 rfl (by decide) rfl ?_
        refine pw_aload_n C dX8_layWorks_287 rfl 2 rfl ?_
        refine pw_getr C dX8_layWorks_288 gf_RX8_32 gk_189.1 gk_189.2 rfl ?_
        refine pw_iload C dX8_layWorks_291 7 rfl ?_
        refine pw_lload C dX8_layWorks_293 1 rfl ?_
        refine pw_ldc2 C dX8_layWorks_295 gl_RX8_104 ?_
        refine pw_lcmp C dX8_layWorks_298 ?_
        have hJ : ∀ w0 : Int32, (if 0 < (lg_cmp (((σ.2 199 v8.toNatClampNeg) * (v4 / (σ.2 200 v8.toNatClampNeg))) / v6) 60) then 0 else (((σ.2 199 v8.toNatClampNeg) * (v4 / (σ.2 200 v8.toNatClampNeg))) / v6).toInt32 : Int32) = w0 → PW x G 11 309 [(2, .int (gz (if v2 = false then false else (if 0 < (lg_cmp (((σ.2 199 v8.toNatClampNeg) * (v4 / (σ.2 200 v8.toNatClampNeg))) / v6) 60) then false else true : Bool) : Bool))), (9, .long (((σ.2 199 v8.toNatClampNeg) * (v4 / (σ.2 200 v8.toNatClampNeg))) / v6)), (0, .ref (G.1 + 189)), (1, .ref (G.1 + k1)), (3, .int v3), (4, .long v4), (6, .long v6), (8, .int v8)] [.int w0, .int v8, .ref (G.1 + 197)] σ := by
          rintro _ rfl
          refine pw_iast C dX8_layWorks_309 gk_197.1 gk_197.2 g1 ?_
          generalize hτ4 : gw_u σ 197 v8.toNatClampNeg (if 0 < (lg_cmp (((σ.2 199 v8.toNatClampNeg) * (v4 / (σ.2 200 v8.toNatClampNeg))) / v6) 60) then 0 else (((σ.2 199 v8.toNatClampNeg) * (v4 / (σ.2 200 v8.toNatClampNeg))) / v6).toInt32 : Int32) = τ4
          replace h := h τ4 hτ4.symm
          show PW x G 11 310 [(2, .int (gz (if v2 = false then false else (if 0 < (lg_cmp (((σ.2 199 v8.toNatClampNeg) * (v4 / (σ.2 200 v8.toNatClampNeg))) / v6) 60) then false else true : Bool) : Bool))), (9, .long (((σ.2 199 v8.toNatClampNeg) * (v4 / (σ.2 200 v8.toNatClampNeg))) / v6)), (0, .ref (G.1 + 189)), (1, .ref (G.1 + k1)), (3, .int v3), (4, .long v4), (6, .long v6), (8, .int v8)] [] τ4
          refine pw_iinc (v := (v8 + 1)) (j := 7) C dX8_layWorks_310 rfl rfl (by decide) rfl ?_
          refine pw_goto (tgt := 226) C dX8_layWorks_313 (by decide) ?_
          exact pw_sub [3, 4, 1, 5, 6, 7, 0] rfl h
        clear h
        refine pw_if_gt (tgt := 308) C dX8_layWorks_299 (by decide) (fun q4 => ?_) (fun q4 => ?_)
        · refine pw_iconst (v := 0) C dX8_layWorks_308 (by decide) ?_
          exact hJ 0 (if_pos q4)
        · refine pw_lload C dX8_layWorks_302 1 rfl ?_
          refine pw_l2i (v := ((((σ.2 199 v8.toNatClampNeg) * (v4 / (σ.2 200 v8.toNatClampNeg))) / v6).toInt32)) C dX8_layWorks_304 rfl ?_
          refine pw_goto (tgt := 309) C dX8_layWorks_305 (by decide) ?_
          exact hJ ((((σ.2 199 v8.toNatClampNeg) * (v4 / (σ.2 200 v8.toNatClampNeg))) / v6).toInt32) (if_neg q4)
      clear h
      refine pw_z_eq (tgt := 285) C dX8_layWorks_269 (by decide) (fun q3 => ?_) (fun q3 => ?_)
      · refine pw_iconst (v := 0) C dX8_layWorks_285 (by decide) ?_
        exact hJ false (if_pos q3)
      · refine pw_lload C dX8_layWorks_272 0 rfl ?_
        refine pw_ldc2 C dX8_layWorks_274 gl_RX8_104 ?_
        refine pw_lcmp C dX8_layWorks_277 ?_
        refine pw_if_gt (tgt := 285) C dX8_layWorks_278 (by decide) (fun q4 => ?_) (fun q4 => ?_)
        · refine pw_iconst (v := 0) C dX8_layWorks_285 (by decide) ?_
          exact hJ false ((if_neg q3).trans (if_pos q4))
        · refine pw_iconst (v := 1) C dX8_layWorks_281 (by decide) ?_
          refine pw_goto (tgt := 286) C dX8_layWorks_282 (by decide) ?_
          exact hJ true ((if_neg q3).trans (if_neg q4))
set_option maxRecDepth 4000 in
theorem sg_X8_dueTogether_0 {x : gw_X} {G : gw_G} {Φ : Int32 → gw_S → Prop} (C : XC x G RX8 cX8_dueTogether 3 (some .int)) (hR : gw_ok x 0) (hT : RT x G (fi Φ))  (σ : gw_S)
    (h : PW x G 3 4 [(0, .ref (G.1 + 189)), (1, .int 0), (2, .int 0)] [] σ) : PW x G 3 0 [(0, .ref (G.1 + 189))] [] σ := by
  refine pw_iconst (v := 0) C dX8_dueTogether_0 (by decide) ?_
  refine pw_istore_n C dX8_dueTogether_1 rfl (by decide) rfl ?_
  refine pw_iconst (v := 0) C dX8_dueTogether_2 (by decide) ?_
  refine pw_istore_n C dX8_dueTogether_3 rfl (by decide) rfl ?_
  exact pw_sub [2, 1, 0] rfl h
set_option maxRecDepth 4000 in
theorem sg_X8_dueTogether_4 {x : gw_X} {G : gw_G} {Φ : Int32 → gw_S → Prop} (C : XC x G RX8 cX8_dueTogether 3 (some .int)) (hR : gw_ok x 0) (hT : RT x G (fi Φ)) (v1 : Int32) (v2 : Int32) (σ : gw_S)
    (h : ((σ.1 192 ((0 : Int32).toNatClampNeg)) ≤ v2 → Φ v1 σ) ∧ (¬ ((σ.1 192 ((0 : Int32).toNatClampNeg)) ≤ v2) → vp_in v2 8 ∧ (PW x G 3 4 [(0, .ref (G.1 + 189)), (1, .int (v1 + (σ.1 197 v2.toNatClampNeg))), (2, .int (v2 + 1))] [] σ))) : PW x G 3 4 [(0, .ref (G.1 + 189)), (1, .int v1), (2, .int v2)] [] σ := by
  refine pw_iload_n C dX8_dueTogether_4 rfl 2 rfl ?_
  refine pw_aload_n C dX8_dueTogether_5 rfl 0 rfl ?_
  refine pw_getr C dX8_dueTogether_6 gf_RX8_16 gk_189.1 gk_189.2 rfl ?_
  refine pw_iconst (v := 0) C dX8_dueTogether_9 (by decide) ?_
  refine pw_iald C dX8_dueTogether_10 gk_192.1 gk_192.2 (by show ¬ (_ ∨ _); decide) ?_
  refine pw_icmp_ge (tgt := 29) C dX8_dueTogether_11 (by decide) (fun q => ?_) (fun q => ?_)
  · replace h := h.1 q
    refine pw_iload_n C dX8_dueTogether_29 rfl 1 rfl ?_
    exact pw_iret C hT dX8_dueTogether_30 h
  · replace h := h.2 q
    refine pw_iload_n C dX8_dueTogether_14 rfl 1 rfl ?_
    refine pw_aload_n C dX8_dueTogether_15 rfl 0 rfl ?_
    refine pw_getr C dX8_dueTogether_16 gf_RX8_32 gk_189.1 gk_189.2 rfl ?_
    refine pw_iload_n C dX8_dueTogether_19 rfl 2 rfl ?_
    obtain ⟨g1, h⟩ := h
    refine pw_iald C dX8_dueTogether_20 gk_197.1 gk_197.2 g1 ?_
    refine pw_iadd C dX8_dueTogether_21 ?_
    refine pw_istore_n C dX8_dueTogether_22 rfl (by decide) rfl ?_
    refine pw_iinc (v := (v2 + 1)) (j := 2) C dX8_dueTogether_23 rfl rfl (by decide) rfl ?_
    refine pw_goto (tgt := 4) C dX8_dueTogether_26 (by decide) ?_
    exact pw_sub [2, 1, 0] rfl h
set_option maxRecDepth 4000 in
theorem sg_X8_canWork_0 {x : gw_X} {G : gw_G} {Φ : Bool → gw_S → Prop} (C : XC x G RX8 cX8_canWork 7 (some .boolean)) (hR : gw_ok x 1) (hT : RT x G (fz Φ)) (k0 : Nat) (v1 : Int32) (hk0 : gw_ia k0 96) (σ : gw_S)
    (h : PW x G 7 4 [(0, .ref (G.1 + k0)), (1, .int v1), (2, .int (gz true)), (3, .int 0)] [] σ) : PW x G 7 0 [(0, .ref (G.1 + k0)), (1, .int v1)] [] σ := by
  refine pw_iconst (v := 1) C dX8_canWork_0 (by decide) ?_
  refine pw_istore_n C dX8_canWork_1 rfl (by decide) rfl ?_
  refine pw_iconst (v := 0) C dX8_canWork_2 (by decide) ?_
  refine pw_istore_n C dX8_canWork_3 rfl (by decide) rfl ?_
  exact pw_sub [2, 3, 1, 0] rfl h
set_option maxRecDepth 4000 in
theorem sg_X8_canWork_4 {x : gw_X} {G : gw_G} {Φ : Bool → gw_S → Prop} (C : XC x G RX8 cX8_canWork 7 (some .boolean)) (hR : gw_ok x 1) (hT : RT x G (fz Φ)) (k0 : Nat) (hk0 : gw_ia k0 96) (v1 : Int32) (v2 : Bool) (v3 : Int32) (σ : gw_S)
    (h : ((σ.1 k0 ((1 : Int32).toNatClampNeg)) ≤ v3 → Φ v2 σ) ∧ (¬ ((σ.1 k0 ((1 : Int32).toNatClampNeg)) ≤ v3) → vp_in ((26 + (5 * v3)) + 4) 96 ∧ (vp_in ((26 + (5 * v3)) + 1) 96 ∧ (((v2 = false → True) ∧ (¬ (v2 = false) → (((if (σ.1 k0 (((26 + (5 * v3)) + 1).toNatClampNeg)) = v1 then true else false : Bool) = false → True) ∧ (¬ ((if (σ.1 k0 (((26 + (5 * v3)) + 1).toNatClampNeg)) = v1 then true else false : Bool) = false) → vp_in ((26 + (5 * v3)) + 3) 96 ∧ (True))))) ∧ ((((if (σ.1 k0 (((26 + (5 * v3)) + 1).toNatClampNeg)) = v1 then true else false : Bool) = false → True) ∧ (¬ ((if (σ.1 k0 (((26 + (5 * v3)) + 1).toNatClampNeg)) = v1 then true else false : Bool) = false) → vp_in ((26 + (5 * v3)) + 3) 96 ∧ (True))) ∧ (vp_in ((26 + (5 * v3)) + 2) 96 ∧ ((((if v2 = false then false else (if (if (σ.1 k0 (((26 + (5 * v3)) + 1).toNatClampNeg)) = v1 then true else false : Bool) = false then true else (if (σ.1 k0 (((26 + (5 * v3)) + 4).toNatClampNeg)) < (σ.1 k0 (((26 + (5 * v3)) + 3).toNatClampNeg)) then false else true : Bool) : Bool) : Bool) = false → True) ∧ (¬ ((if v2 = false then false else (if (if (σ.1 k0 (((26 + (5 * v3)) + 1).toNatClampNeg)) = v1 then true else false : Bool) = false then true else (if (σ.1 k0 (((26 + (5 * v3)) + 4).toNatClampNeg)) < (σ.1 k0 (((26 + (5 * v3)) + 3).toNatClampNeg)) then false else true : Bool) : Bool) : Bool) = false) → vp_in ((26 + (5 * v3)) + 0) 96 ∧ (True))) ∧ (PW x G 7 4 [(0, .ref (G.1 + k0)), (1, .int v1), (2, .int (gz (if (if v2 = false then false else (if (if (σ.1 k0 (((26 + (5 * v3)) + 1).toNatClampNeg)) = v1 then true else false : Bool) = false then true else (if (σ.1 k0 (((26 + (5 * v3)) + 4).toNatClampNeg)) < (σ.1 k0 (((26 + (5 * v3)) + 3).toNatClampNeg)) then false else true : Bool) : Bool) : Bool) = false then false else (if (σ.1 k0 (((26 + (5 * v3)) + 0).toNatClampNeg)) = v1 then (if 999 < (((σ.1 k0 (((26 + (5 * v3)) + 4).toNatClampNeg)) - (if (if (σ.1 k0 (((26 + (5 * v3)) + 1).toNatClampNeg)) = v1 then true else false : Bool) = false then 0 else σ.1 k0 (((26 + (5 * v3)) + 3).toNatClampNeg) : Int32)) + (σ.1 k0 (((26 + (5 * v3)) + 2).toNatClampNeg))) then false else true : Bool) else true : Bool) : Bool))), (3, .int (v3 + 1))] [] σ)))))))) : PW x G 7 4 [(0, .ref (G.1 + k0)), (1, .int v1), (2, .int (gz v2)), (3, .int v3)] [] σ := by
  refine pw_iload_n C dX8_canWork_4 rfl 3 rfl ?_
  refine pw_aload_n C dX8_canWork_5 rfl 0 rfl ?_
  refine pw_iconst (v := 1) C dX8_canWork_6 (by decide) ?_
  refine pw_iald C dX8_canWork_7 hk0.1 hk0.2 (by show ¬ (_ ∨ _); decide) ?_
  refine pw_icmp_ge (tgt := 129) C dX8_canWork_8 (by decide) (fun q => ?_) (fun q => ?_)
  · replace h := h.1 q
    refine pw_iload_n C dX8_canWork_129 rfl 2 rfl ?_
    exact pw_zret (b := v2) C hT dX8_canWork_130 h
  · replace h := h.2 q
    refine pw_aload_n C dX8_canWork_11 rfl 0 rfl ?_
    refine pw_iload_n C dX8_canWork_12 rfl 3 rfl ?_
    refine pw_iconst (v := 4) C dX8_canWork_13 (by decide) ?_
    refine pw_callS C dX8_canWork_14 (k_X8_wireAt v3 4 σ ) gm_X8_wireAt gl_RX8_73 rfl hR (by decide) (by decide) rfl (Nat.le_of_ble_eq_true rfl) ?_
    rintro _ _ ⟨_, rfl, rfl, rfl⟩
    show PW x G 7 17 [(0, .ref (G.1 + k0)), (1, .int v1), (2, .int (gz v2)), (3, .int v3)] [.int ((26 + (5 * v3)) + 4), .ref (G.1 + k0)] σ
    obtain ⟨g1, h⟩ := h
    refine pw_iald C dX8_canWork_17 hk0.1 hk0.2 g1 ?_
    refine pw_istore C dX8_canWork_18 (by decide) rfl ?_
    refine pw_aload_n C dX8_canWork_20 rfl 1 rfl ?_
    refine pw_iload_n C dX8_canWork_21 rfl 4 rfl ?_
    refine pw_iconst (v := 1) C dX8_canWork_22 (by decide) ?_
    refine pw_callS C dX8_canWork_23 (k_X8_wireAt v3 1 σ ) gm_X8_wireAt gl_RX8_73 rfl hR (by decide) (by decide) rfl (Nat.le_of_ble_eq_true rfl) ?_
    rintro _ _ ⟨_, rfl, rfl, rfl⟩
    show PW x G 7 26 [(4, .int (σ.1 k0 (((26 + (5 * v3)) + 4).toNatClampNeg))), (0, .ref (G.1 + k0)), (1, .int v1), (2, .int (gz v2)), (3, .int v3)] [.int ((26 + (5 * v3)) + 1), .ref (G.1 + k0)] σ
    obtain ⟨g2, h⟩ := h
    refine pw_iald C dX8_canWork_26 hk0.1 hk0.2 g2 ?_
    refine pw_iload_n C dX8_canWork_27 rfl 2 rfl ?_
    have hJ : ∀ w0 : Bool, (if (σ.1 k0 (((26 + (5 * v3)) + 1).toNatClampNeg)) = v1 then true else false : Bool) = w0 → PW x G 7 36 [(4, .int (σ.1 k0 (((26 + (5 * v3)) + 4).toNatClampNeg))), (0, .ref (G.1 + k0)), (1, .int v1), (2, .int (gz v2)), (3, .int v3)] [.int (gz w0)] σ := by
      rintro _ rfl
      refine pw_istore C dX8_canWork_36 (by decide) rfl ?_
      refine pw_iload_n C dX8_canWork_38 rfl 4 rfl ?_
      obtain ⟨hs, h⟩ := h
      have hJ : ∀ w0 : Bool, (if v2 = false then false else (if (if (σ.1 k0 (((26 + (5 * v3)) + 1).toNatClampNeg)) = v1 then true else false : Bool) = false then true else (if (σ.1 k0 (((26 + (5 * v3)) + 4).toNatClampNeg)) < (σ.1 k0 (((26 + (5 * v3)) + 3).toNatClampNeg)) then false else true : Bool) : Bool) : Bool) = w0 → PW x G 7 64 [(5, .int (gz (if (σ.1 k0 (((26 + (5 * v3)) + 1).toNatClampNeg)) = v1 then true else false : Bool))), (4, .int (σ.1 k0 (((26 + (5 * v3)) + 4).toNatClampNeg))), (0, .ref (G.1 + k0)), (1, .int v1), (2, .int (gz v2)), (3, .int v3)] [.int (gz w0)] σ := by
        rintro _ rfl
        refine pw_istore_n C dX8_canWork_64 rfl (by decide) rfl ?_
        refine pw_iload C dX8_canWork_65 2 rfl ?_
        refine pw_iload C dX8_canWork_67 1 rfl ?_
        obtain ⟨hs, h⟩ := h
        have hJ : ∀ w0 : Int32, (if (if (σ.1 k0 (((26 + (5 * v3)) + 1).toNatClampNeg)) = v1 then true else false : Bool) = false then 0 else σ.1 k0 (((26 + (5 * v3)) + 3).toNatClampNeg) : Int32) = w0 → PW x G 7 83 [(2, .int (gz (if v2 = false then false else (if (if (σ.1 k0 (((26 + (5 * v3)) + 1).toNatClampNeg)) = v1 then true else false : Bool) = false then true else (if (σ.1 k0 (((26 + (5 * v3)) + 4).toNatClampNeg)) < (σ.1 k0 (((26 + (5 * v3)) + 3).toNatClampNeg)) then false else true : Bool) : Bool) : Bool))), (5, .int (gz (if (σ.1 k0 (((26 + (5 * v3)) + 1).toNatClampNeg)) = v1 then true else false : Bool))), (4, .int (σ.1 k0 (((26 + (5 * v3)) + 4).toNatClampNeg))), (0, .ref (G.1 + k0)), (1, .int v1), (3, .int v3)] [.int w0, .int (σ.1 k0 (((26 + (5 * v3)) + 4).toNatClampNeg))] σ := by
          rintro _ rfl
          refine pw_isub C dX8_canWork_83 ?_
          refine pw_aload_n C dX8_canWork_84 rfl 3 rfl ?_
          refine pw_iload_n C dX8_canWork_85 rfl 5 rfl ?_
          refine pw_iconst (v := 2) C dX8_canWork_86 (by decide) ?_
          refine pw_callS C dX8_canWork_87 (k_X8_wireAt v3 2 σ ) gm_X8_wireAt gl_RX8_73 rfl hR (by decide) (by decide) rfl (Nat.le_of_ble_eq_true rfl) ?_
          rintro _ _ ⟨_, rfl, rfl, rfl⟩
          show PW x G 7 90 [(2, .int (gz (if v2 = false then false else (if (if (σ.1 k0 (((26 + (5 * v3)) + 1).toNatClampNeg)) = v1 then true else false : Bool) = false then true else (if (σ.1 k0 (((26 + (5 * v3)) + 4).toNatClampNeg)) < (σ.1 k0 (((26 + (5 * v3)) + 3).toNatClampNeg)) then false else true : Bool) : Bool) : Bool))), (5, .int (gz (if (σ.1 k0 (((26 + (5 * v3)) + 1).toNatClampNeg)) = v1 then true else false : Bool))), (4, .int (σ.1 k0 (((26 + (5 * v3)) + 4).toNatClampNeg))), (0, .ref (G.1 + k0)), (1, .int v1), (3, .int v3)] [.int ((26 + (5 * v3)) + 2), .ref (G.1 + k0), .int ((σ.1 k0 (((26 + (5 * v3)) + 4).toNatClampNeg)) - (if (if (σ.1 k0 (((26 + (5 * v3)) + 1).toNatClampNeg)) = v1 then true else false : Bool) = false then 0 else σ.1 k0 (((26 + (5 * v3)) + 3).toNatClampNeg) : Int32))] σ
          obtain ⟨g5, h⟩ := h
          refine pw_iald C dX8_canWork_90 hk0.1 hk0.2 g5 ?_
          refine pw_iadd C dX8_canWork_91 ?_
          refine pw_istore C dX8_canWork_92 (by decide) rfl ?_
          refine pw_iload_n C dX8_canWork_94 rfl 1 rfl ?_
          obtain ⟨hs, h⟩ := h
          have hJ : ∀ w0 : Bool, (if (if v2 = false then false else (if (if (σ.1 k0 (((26 + (5 * v3)) + 1).toNatClampNeg)) = v1 then true else false : Bool) = false then true else (if (σ.1 k0 (((26 + (5 * v3)) + 4).toNatClampNeg)) < (σ.1 k0 (((26 + (5 * v3)) + 3).toNatClampNeg)) then false else true : Bool) : Bool) : Bool) = false then false else (if (σ.1 k0 (((26 + (5 * v3)) + 0).toNatClampNeg)) = v1 then (if 999 < (((σ.1 k0 (((26 + (5 * v3)) + 4).toNatClampNeg)) - (if (if (σ.1 k0 (((26 + (5 * v3)) + 1).toNatClampNeg)) = v1 then true else false : Bool) = false then 0 else σ.1 k0 (((26 + (5 * v3)) + 3).toNatClampNeg) : Int32)) + (σ.1 k0 (((26 + (5 * v3)) + 2).toNatClampNeg))) then false else true : Bool) else true : Bool) : Bool) = w0 → PW x G 7 122 [(6, .int (((σ.1 k0 (((26 + (5 * v3)) + 4).toNatClampNeg)) - (if (if (σ.1 k0 (((26 + (5 * v3)) + 1).toNatClampNeg)) = v1 then true else false : Bool) = false then 0 else σ.1 k0 (((26 + (5 * v3)) + 3).toNatClampNeg) : Int32)) + (σ.1 k0 (((26 + (5 * v3)) + 2).toNatClampNeg)))), (2, .int (gz (if v2 = false then false else (if (if (σ.1 k0 (((26 + (5 * v3)) + 1).toNatClampNeg)) = v1 then true else false : Bool) = false then true else (if (σ.1 k0 (((26 + (5 * v3)) + 4).toNatClampNeg)) < (σ.1 k0 (((26 + (5 * v3)) + 3).toNatClampNeg)) then false else true : Bool) : Bool) : Bool))), (5, .int (gz (if (σ.1 k0 (((26 + (5 * v3)) + 1).toNatClampNeg)) = v1 then true else false : Bool))), (4, .int (σ.1 k0 (((26 + (5 * v3)) + 4).toNatClampNeg))), (0, .ref (G.1 + k0)), (1, .int v1), (3, .int v3)] [.int (gz w0)] σ := by
            rintro _ rfl
            refine pw_istore_n C dX8_canWork_122 rfl (by decide) rfl ?_
            refine pw_iinc (v := (v3 + 1)) (j := 6) C dX8_canWork_123 rfl rfl (by decide) rfl ?_
            refine pw_goto (tgt := 4) C dX8_canWork_126 (by decide) ?_
            exact pw_sub [5, 6, 1, 0] rfl h
          clear h
          refine pw_z_eq (tgt := 121) C dX8_canWork_95 (by decide) (fun q5 => ?_) (fun q5 => ?_)
          · replace hs := hs.1 q5
            refine pw_iconst (v := 0) C dX8_canWork_121 (by decide) ?_
            exact hJ false (if_pos q5)
          · replace hs := hs.2 q5
            refine pw_aload_n C dX8_canWork_98 rfl 4 rfl ?_
            refine pw_iload_n C dX8_canWork_99 rfl 6 rfl ?_
            refine pw_iconst (v := 0) C dX8_canWork_100 (by decide) ?_
            refine pw_callS C dX8_canWork_101 (k_X8_wireAt v3 0 σ ) gm_X8_wireAt gl_RX8_73 rfl hR (by decide) (by decide) rfl (Nat.le_of_ble_eq_true rfl) ?_
            rintro _ _ ⟨_, rfl, rfl, rfl⟩
            show PW x G 7 104 [(6, .int (((σ.1 k0 (((26 + (5 * v3)) + 4).toNatClampNeg)) - (if (if (σ.1 k0 (((26 + (5 * v3)) + 1).toNatClampNeg)) = v1 then true else false : Bool) = false then 0 else σ.1 k0 (((26 + (5 * v3)) + 3).toNatClampNeg) : Int32)) + (σ.1 k0 (((26 + (5 * v3)) + 2).toNatClampNeg)))), (2, .int (gz (if v2 = false then false else (if (if (σ.1 k0 (((26 + (5 * v3)) + 1).toNatClampNeg)) = v1 then true else false : Bool) = false then true else (if (σ.1 k0 (((26 + (5 * v3)) + 4).toNatClampNeg)) < (σ.1 k0 (((26 + (5 * v3)) + 3).toNatClampNeg)) then false else true : Bool) : Bool) : Bool))), (5, .int (gz (if (σ.1 k0 (((26 + (5 * v3)) + 1).toNatClampNeg)) = v1 then true else false : Bool))), (4, .int (σ.1 k0 (((26 + (5 * v3)) + 4).toNatClampNeg))), (0, .ref (G.1 + k0)), (1, .int v1), (3, .int v3)] [.int ((26 + (5 * v3)) + 0), .ref (G.1 + k0)] σ
            obtain ⟨g6, hs⟩ := hs
            refine pw_iald C dX8_canWork_104 hk0.1 hk0.2 g6 ?_
            refine pw_iload_n C dX8_canWork_105 rfl 5 rfl ?_
            refine pw_icmp_ne (tgt := 117) C dX8_canWork_106 (by decide) (fun q6 => ?_) (fun q6 => ?_)
            · refine pw_iconst (v := 1) C dX8_canWork_117 (by decide) ?_
              refine pw_goto (tgt := 122) C dX8_canWork_118 (by decide) ?_
              exact hJ true ((if_neg q5).trans (if_neg q6))
            · refine pw_iload C dX8_canWork_109 0 rfl ?_
              refine pw_sipush (v := 999) C dX8_canWork_111 (by decide) ?_
              refine pw_icmp_gt (tgt := 121) C dX8_canWork_114 (by decide) (fun q7 => ?_) (fun q7 => ?_)
              · refine pw_iconst (v := 0) C dX8_canWork_121 (by decide) ?_
                exact hJ false ((if_neg q5).trans ((if_pos q6).trans (if_pos q7)))
              · refine pw_iconst (v := 1) C dX8_canWork_117 (by decide) ?_
                refine pw_goto (tgt := 122) C dX8_canWork_118 (by decide) ?_
                exact hJ true ((if_neg q5).trans ((if_pos q6).trans (if_neg q7)))
        clear h
        refine pw_z_eq (tgt := 82) C dX8_canWork_69 (by decide) (fun q4 => ?_) (fun q4 => ?_)
        · replace hs := hs.1 q4
          refine pw_iconst (v := 0) C dX8_canWork_82 (by decide) ?_
          exact hJ 0 (if_pos q4)
        · replace hs := hs.2 q4
          refine pw_aload_n C dX8_canWork_72 rfl 3 rfl ?_
          refine pw_iload_n C dX8_canWork_73 rfl 5 rfl ?_
          refine pw_iconst (v := 3) C dX8_canWork_74 (by decide) ?_
          refine pw_callS C dX8_canWork_75 (k_X8_wireAt v3 3 σ ) gm_X8_wireAt gl_RX8_73 rfl hR (by decide) (by decide) rfl (Nat.le_of_ble_eq_true rfl) ?_
          rintro _ _ ⟨_, rfl, rfl, rfl⟩
          show PW x G 7 78 [(2, .int (gz (if v2 = false then false else (if (if (σ.1 k0 (((26 + (5 * v3)) + 1).toNatClampNeg)) = v1 then true else false : Bool) = false then true else (if (σ.1 k0 (((26 + (5 * v3)) + 4).toNatClampNeg)) < (σ.1 k0 (((26 + (5 * v3)) + 3).toNatClampNeg)) then false else true : Bool) : Bool) : Bool))), (5, .int (gz (if (σ.1 k0 (((26 + (5 * v3)) + 1).toNatClampNeg)) = v1 then true else false : Bool))), (4, .int (σ.1 k0 (((26 + (5 * v3)) + 4).toNatClampNeg))), (0, .ref (G.1 + k0)), (1, .int v1), (3, .int v3)] [.int ((26 + (5 * v3)) + 3), .ref (G.1 + k0), .int (σ.1 k0 (((26 + (5 * v3)) + 4).toNatClampNeg))] σ
          obtain ⟨g4, hs⟩ := hs
          refine pw_iald C dX8_canWork_78 hk0.1 hk0.2 g4 ?_
          refine pw_goto (tgt := 83) C dX8_canWork_79 (by decide) ?_
          exact hJ (σ.1 k0 (((26 + (5 * v3)) + 3).toNatClampNeg)) (if_neg q4)
      clear h
      refine pw_z_eq (tgt := 63) C dX8_canWork_39 (by decide) (fun q3 => ?_) (fun q3 => ?_)
      · replace hs := hs.1 q3
        refine pw_iconst (v := 0) C dX8_canWork_63 (by decide) ?_
        exact hJ false (if_pos q3)
      · replace hs := hs.2 q3
        refine pw_iload C dX8_canWork_42 0 rfl ?_
        refine pw_z_eq (tgt := 59) C dX8_canWork_44 (by decide) (fun q4 => ?_) (fun q4 => ?_)
        · replace hs := hs.1 q4
          refine pw_iconst (v := 1) C dX8_canWork_59 (by decide) ?_
          refine pw_goto (tgt := 64) C dX8_canWork_60 (by decide) ?_
          exact hJ true ((if_neg q3).trans (if_pos q4))
        · replace hs := hs.2 q4
          refine pw_iload C dX8_canWork_47 1 rfl ?_
          refine pw_aload_n C dX8_canWork_49 rfl 2 rfl ?_
          refine pw_iload_n C dX8_canWork_50 rfl 5 rfl ?_
          refine pw_iconst (v := 3) C dX8_canWork_51 (by decide) ?_
          refine pw_callS C dX8_canWork_52 (k_X8_wireAt v3 3 σ ) gm_X8_wireAt gl_RX8_73 rfl hR (by decide) (by decide) rfl (Nat.le_of_ble_eq_true rfl) ?_
          rintro _ _ ⟨_, rfl, rfl, rfl⟩
          show PW x G 7 55 [(5, .int (gz (if (σ.1 k0 (((26 + (5 * v3)) + 1).toNatClampNeg)) = v1 then true else false : Bool))), (4, .int (σ.1 k0 (((26 + (5 * v3)) + 4).toNatClampNeg))), (0, .ref (G.1 + k0)), (1, .int v1), (2, .int (gz v2)), (3, .int v3)] [.int ((26 + (5 * v3)) + 3), .ref (G.1 + k0), .int (σ.1 k0 (((26 + (5 * v3)) + 4).toNatClampNeg))] σ
          obtain ⟨g3, hs⟩ := hs
          refine pw_iald C dX8_canWork_55 hk0.1 hk0.2 g3 ?_
          refine pw_icmp_lt (tgt := 63) C dX8_canWork_56 (by decide) (fun q5 => ?_) (fun q5 => ?_)
          · refine pw_iconst (v := 0) C dX8_canWork_63 (by decide) ?_
            exact hJ false ((if_neg q3).trans ((if_neg q4).trans (if_pos q5)))
          · refine pw_iconst (v := 1) C dX8_canWork_59 (by decide) ?_
            refine pw_goto (tgt := 64) C dX8_canWork_60 (by decide) ?_
            exact hJ true ((if_neg q3).trans ((if_neg q4).trans (if_neg q5)))
    clear h
    refine pw_icmp_ne (tgt := 35) C dX8_canWork_28 (by decide) (fun q2 => ?_) (fun q2 => ?_)
    · refine pw_iconst (v := 0) C dX8_canWork_35 (by decide) ?_
      exact hJ false (if_neg q2)
    · refine pw_iconst (v := 1) C dX8_canWork_31 (by decide) ?_
      refine pw_goto (tgt := 36) C dX8_canWork_32 (by decide) ?_
      exact hJ true (if_pos q2)
set_option maxRecDepth 4000 in
theorem sg_X8_workIn_0 {x : gw_X} {G : gw_G} {Φ : gw_S → Prop} (C : XC x G RX8 cX8_workIn 3 none) (hR : gw_ok x 1) (hT : RT x G (fv Φ)) (k0 : Nat) (v1 : Int32) (hk0 : gw_ia k0 96) (σ : gw_S)
    (h : PW x G 3 2 [(0, .ref (G.1 + k0)), (1, .int v1), (2, .int 0)] [] σ) : PW x G 3 0 [(0, .ref (G.1 + k0)), (1, .int v1)] [] σ := by
  refine pw_iconst (v := 0) C dX8_workIn_0 (by decide) ?_
  refine pw_istore_n C dX8_workIn_1 rfl (by decide) rfl ?_
  exact pw_sub [1, 2, 0] rfl h
set_option maxRecDepth 4000 in
theorem sg_X8_workIn_2 {x : gw_X} {G : gw_G} {Φ : gw_S → Prop} (C : XC x G RX8 cX8_workIn 3 none) (hR : gw_ok x 1) (hT : RT x G (fv Φ)) (k0 : Nat) (hk0 : gw_ia k0 96) (v1 : Int32) (v2 : Int32) (σ : gw_S)
    (h : ((σ.1 k0 ((1 : Int32).toNatClampNeg)) ≤ v2 → vp_in ((2 + (3 * v1)) + 2) 96 ∧ (∀ τ2 : gw_S, τ2 = gw_u σ k0 (((2 + (3 * v1)) + 2).toNatClampNeg) ((σ.1 k0 (((2 + (3 * v1)) + 2).toNatClampNeg)) + 1) → (Φ τ2))) ∧ (¬ ((σ.1 k0 ((1 : Int32).toNatClampNeg)) ≤ v2) → vp_in ((26 + (5 * v2)) + 4) 96 ∧ (vp_in ((26 + (5 * v2)) + 1) 96 ∧ (((¬ ((σ.1 k0 (((26 + (5 * v2)) + 1).toNatClampNeg)) = v1) → True) ∧ ((σ.1 k0 (((26 + (5 * v2)) + 1).toNatClampNeg)) = v1 → vp_in ((26 + (5 * v2)) + 3) 96 ∧ (True))) ∧ (∀ τ6 : gw_S, τ6 = gw_u σ k0 (((26 + (5 * v2)) + 4).toNatClampNeg) ((σ.1 k0 (((26 + (5 * v2)) + 4).toNatClampNeg)) - (if (σ.1 k0 (((26 + (5 * v2)) + 1).toNatClampNeg)) = v1 then σ.1 k0 (((26 + (5 * v2)) + 3).toNatClampNeg) else 0 : Int32)) → (vp_in ((26 + (5 * v2)) + 0) 96 ∧ (((¬ ((τ6.1 k0 (((26 + (5 * v2)) + 0).toNatClampNeg)) = v1) → True) ∧ ((τ6.1 k0 (((26 + (5 * v2)) + 0).toNatClampNeg)) = v1 → vp_in ((26 + (5 * v2)) + 2) 96 ∧ (True))) ∧ (∀ τ9 : gw_S, τ9 = gw_u τ6 k0 (((26 + (5 * v2)) + 4).toNatClampNeg) ((τ6.1 k0 (((26 + (5 * v2)) + 4).toNatClampNeg)) + (if (τ6.1 k0 (((26 + (5 * v2)) + 0).toNatClampNeg)) = v1 then τ6.1 k0 (((26 + (5 * v2)) + 2).toNatClampNeg) else 0 : Int32)) → (PW x G 3 2 [(0, .ref (G.1 + k0)), (1, .int v1), (2, .int (v2 + 1))] [] τ9))))))))) : PW x G 3 2 [(0, .ref (G.1 + k0)), (1, .int v1), (2, .int v2)] [] σ := by
  refine pw_iload_n C dX8_workIn_2 rfl 2 rfl ?_
  refine pw_aload_n C dX8_workIn_3 rfl 0 rfl ?_
  refine pw_iconst (v := 1) C dX8_workIn_4 (by decide) ?_
  refine pw_iald C dX8_workIn_5 hk0.1 hk0.2 (by show ¬ (_ ∨ _); decide) ?_
  refine pw_icmp_ge (tgt := 79) C dX8_workIn_6 (by decide) (fun q => ?_) (fun q => ?_)
  · replace h := h.1 q
    refine pw_aload_n C dX8_workIn_79 rfl 0 rfl ?_
    refine pw_iload_n C dX8_workIn_80 rfl 1 rfl ?_
    refine pw_iconst (v := 2) C dX8_workIn_81 (by decide) ?_
    refine pw_callS C dX8_workIn_82 (k_X8_moduleAt v1 2 σ ) gm_X8_moduleAt gl_RX8_77 rfl hR (by decide) (by decide) rfl (Nat.le_of_ble_eq_true rfl) ?_
    rintro _ _ ⟨_, rfl, rfl, rfl⟩
    show PW x G 3 85 [(0, .ref (G.1 + k0)), (1, .int v1), (2, .int v2)] [.int ((2 + (3 * v1)) + 2), .ref (G.1 + k0)] σ
    refine pw_dup2 C dX8_workIn_85 rfl rfl ?_
    obtain ⟨g1, h⟩ := h
    refine pw_iald C dX8_workIn_86 hk0.1 hk0.2 g1 ?_
    refine pw_iconst (v := 1) C dX8_workIn_87 (by decide) ?_
    refine pw_iadd C dX8_workIn_88 ?_
    refine pw_iast C dX8_workIn_89 hk0.1 hk0.2 g1 ?_
    generalize hτ2 : gw_u σ k0 (((2 + (3 * v1)) + 2).toNatClampNeg) ((σ.1 k0 (((2 + (3 * v1)) + 2).toNatClampNeg)) + 1) = τ2
    replace h := h τ2 hτ2.symm
    show PW x G 3 90 [(0, .ref (G.1 + k0)), (1, .int v1), (2, .int v2)] [] τ2
    exact pw_vret C hT dX8_workIn_90 h
  · replace h := h.2 q
    refine pw_aload_n C dX8_workIn_9 rfl 0 rfl ?_
    refine pw_iload_n C dX8_workIn_10 rfl 2 rfl ?_
    refine pw_iconst (v := 4) C dX8_workIn_11 (by decide) ?_
    refine pw_callS C dX8_workIn_12 (k_X8_wireAt v2 4 σ ) gm_X8_wireAt gl_RX8_73 rfl hR (by decide) (by decide) rfl (Nat.le_of_ble_eq_true rfl) ?_
    rintro _ _ ⟨_, rfl, rfl, rfl⟩
    show PW x G 3 15 [(0, .ref (G.1 + k0)), (1, .int v1), (2, .int v2)] [.int ((26 + (5 * v2)) + 4), .ref (G.1 + k0)] σ
    refine pw_dup2 C dX8_workIn_15 rfl rfl ?_
    obtain ⟨g3, h⟩ := h
    refine pw_iald C dX8_workIn_16 hk0.1 hk0.2 g3 ?_
    refine pw_aload_n C dX8_workIn_17 rfl 0 rfl ?_
    refine pw_iload_n C dX8_workIn_18 rfl 2 rfl ?_
    refine pw_iconst (v := 1) C dX8_workIn_19 (by decide) ?_
    refine pw_callS C dX8_workIn_20 (k_X8_wireAt v2 1 σ ) gm_X8_wireAt gl_RX8_73 rfl hR (by decide) (by decide) rfl (Nat.le_of_ble_eq_true rfl) ?_
    rintro _ _ ⟨_, rfl, rfl, rfl⟩
    show PW x G 3 23 [(0, .ref (G.1 + k0)), (1, .int v1), (2, .int v2)] [.int ((26 + (5 * v2)) + 1), .ref (G.1 + k0), .int (σ.1 k0 (((26 + (5 * v2)) + 4).toNatClampNeg)), .int ((26 + (5 * v2)) + 4), .ref (G.1 + k0)] σ
    obtain ⟨g4, h⟩ := h
    refine pw_iald C dX8_workIn_23 hk0.1 hk0.2 g4 ?_
    refine pw_iload_n C dX8_workIn_24 rfl 1 rfl ?_
    obtain ⟨hs, h⟩ := h
    have hJ : ∀ w0 : Int32, (if (σ.1 k0 (((26 + (5 * v2)) + 1).toNatClampNeg)) = v1 then σ.1 k0 (((26 + (5 * v2)) + 3).toNatClampNeg) else 0 : Int32) = w0 → PW x G 3 39 [(0, .ref (G.1 + k0)), (1, .int v1), (2, .int v2)] [.int w0, .int (σ.1 k0 (((26 + (5 * v2)) + 4).toNatClampNeg)), .int ((26 + (5 * v2)) + 4), .ref (G.1 + k0)] σ := by
      rintro _ rfl
      refine pw_isub C dX8_workIn_39 ?_
      refine pw_iast C dX8_workIn_40 hk0.1 hk0.2 g3 ?_
      generalize hτ6 : gw_u σ k0 (((26 + (5 * v2)) + 4).toNatClampNeg) ((σ.1 k0 (((26 + (5 * v2)) + 4).toNatClampNeg)) - (if (σ.1 k0 (((26 + (5 * v2)) + 1).toNatClampNeg)) = v1 then σ.1 k0 (((26 + (5 * v2)) + 3).toNatClampNeg) else 0 : Int32)) = τ6
      replace h := h τ6 hτ6.symm
      show PW x G 3 41 [(0, .ref (G.1 + k0)), (1, .int v1), (2, .int v2)] [] τ6
      refine pw_aload_n C dX8_workIn_41 rfl 0 rfl ?_
      refine pw_iload_n C dX8_workIn_42 rfl 2 rfl ?_
      refine pw_iconst (v := 4) C dX8_workIn_43 (by decide) ?_
      refine pw_callS C dX8_workIn_44 (k_X8_wireAt v2 4 τ6 ) gm_X8_wireAt gl_RX8_73 rfl hR (by decide) (by decide) rfl (Nat.le_of_ble_eq_true rfl) ?_
      rintro _ _ ⟨_, rfl, rfl, rfl⟩
      show PW x G 3 47 [(0, .ref (G.1 + k0)), (1, .int v1), (2, .int v2)] [.int ((26 + (5 * v2)) + 4), .ref (G.1 + k0)] τ6
      refine pw_dup2 C dX8_workIn_47 rfl rfl ?_
      refine pw_iald C dX8_workIn_48 hk0.1 hk0.2 g3 ?_
      refine pw_aload_n C dX8_workIn_49 rfl 0 rfl ?_
      refine pw_iload_n C dX8_workIn_50 rfl 2 rfl ?_
      refine pw_iconst (v := 0) C dX8_workIn_51 (by decide) ?_
      refine pw_callS C dX8_workIn_52 (k_X8_wireAt v2 0 τ6 ) gm_X8_wireAt gl_RX8_73 rfl hR (by decide) (by decide) rfl (Nat.le_of_ble_eq_true rfl) ?_
      rintro _ _ ⟨_, rfl, rfl, rfl⟩
      show PW x G 3 55 [(0, .ref (G.1 + k0)), (1, .int v1), (2, .int v2)] [.int ((26 + (5 * v2)) + 0), .ref (G.1 + k0), .int (τ6.1 k0 (((26 + (5 * v2)) + 4).toNatClampNeg)), .int ((26 + (5 * v2)) + 4), .ref (G.1 + k0)] τ6
      obtain ⟨g7, h⟩ := h
      refine pw_iald C dX8_workIn_55 hk0.1 hk0.2 g7 ?_
      refine pw_iload_n C dX8_workIn_56 rfl 1 rfl ?_
      obtain ⟨hs, h⟩ := h
      have hJ : ∀ w0 : Int32, (if (τ6.1 k0 (((26 + (5 * v2)) + 0).toNatClampNeg)) = v1 then τ6.1 k0 (((26 + (5 * v2)) + 2).toNatClampNeg) else 0 : Int32) = w0 → PW x G 3 71 [(0, .ref (G.1 + k0)), (1, .int v1), (2, .int v2)] [.int w0, .int (τ6.1 k0 (((26 + (5 * v2)) + 4).toNatClampNeg)), .int ((26 + (5 * v2)) + 4), .ref (G.1 + k0)] τ6 := by
        rintro _ rfl
        refine pw_iadd C dX8_workIn_71 ?_
        refine pw_iast C dX8_workIn_72 hk0.1 hk0.2 g3 ?_
        generalize hτ9 : gw_u τ6 k0 (((26 + (5 * v2)) + 4).toNatClampNeg) ((τ6.1 k0 (((26 + (5 * v2)) + 4).toNatClampNeg)) + (if (τ6.1 k0 (((26 + (5 * v2)) + 0).toNatClampNeg)) = v1 then τ6.1 k0 (((26 + (5 * v2)) + 2).toNatClampNeg) else 0 : Int32)) = τ9
        replace h := h τ9 hτ9.symm
        show PW x G 3 73 [(0, .ref (G.1 + k0)), (1, .int v1), (2, .int v2)] [] τ9
        refine pw_iinc (v := (v2 + 1)) (j := 2) C dX8_workIn_73 rfl rfl (by decide) rfl ?_
        refine pw_goto (tgt := 2) C dX8_workIn_76 (by decide) ?_
        exact pw_sub [1, 2, 0] rfl h
      clear h
      refine pw_icmp_ne (tgt := 70) C dX8_workIn_57 (by decide) (fun q3 => ?_) (fun q3 => ?_)
      · replace hs := hs.1 q3
        refine pw_iconst (v := 0) C dX8_workIn_70 (by decide) ?_
        exact hJ 0 (if_neg q3)
      · replace hs := hs.2 q3
        refine pw_aload_n C dX8_workIn_60 rfl 0 rfl ?_
        refine pw_iload_n C dX8_workIn_61 rfl 2 rfl ?_
        refine pw_iconst (v := 2) C dX8_workIn_62 (by decide) ?_
        refine pw_callS C dX8_workIn_63 (k_X8_wireAt v2 2 τ6 ) gm_X8_wireAt gl_RX8_73 rfl hR (by decide) (by decide) rfl (Nat.le_of_ble_eq_true rfl) ?_
        rintro _ _ ⟨_, rfl, rfl, rfl⟩
        show PW x G 3 66 [(0, .ref (G.1 + k0)), (1, .int v1), (2, .int v2)] [.int ((26 + (5 * v2)) + 2), .ref (G.1 + k0), .int (τ6.1 k0 (((26 + (5 * v2)) + 4).toNatClampNeg)), .int ((26 + (5 * v2)) + 4), .ref (G.1 + k0)] τ6
        obtain ⟨g8, hs⟩ := hs
        refine pw_iald C dX8_workIn_66 hk0.1 hk0.2 g8 ?_
        refine pw_goto (tgt := 71) C dX8_workIn_67 (by decide) ?_
        exact hJ (τ6.1 k0 (((26 + (5 * v2)) + 2).toNatClampNeg)) (if_pos q3)
    clear h
    refine pw_icmp_ne (tgt := 38) C dX8_workIn_25 (by decide) (fun q2 => ?_) (fun q2 => ?_)
    · replace hs := hs.1 q2
      refine pw_iconst (v := 0) C dX8_workIn_38 (by decide) ?_
      exact hJ 0 (if_neg q2)
    · replace hs := hs.2 q2
      refine pw_aload_n C dX8_workIn_28 rfl 0 rfl ?_
      refine pw_iload_n C dX8_workIn_29 rfl 2 rfl ?_
      refine pw_iconst (v := 3) C dX8_workIn_30 (by decide) ?_
      refine pw_callS C dX8_workIn_31 (k_X8_wireAt v2 3 σ ) gm_X8_wireAt gl_RX8_73 rfl hR (by decide) (by decide) rfl (Nat.le_of_ble_eq_true rfl) ?_
      rintro _ _ ⟨_, rfl, rfl, rfl⟩
      show PW x G 3 34 [(0, .ref (G.1 + k0)), (1, .int v1), (2, .int v2)] [.int ((26 + (5 * v2)) + 3), .ref (G.1 + k0), .int (σ.1 k0 (((26 + (5 * v2)) + 4).toNatClampNeg)), .int ((26 + (5 * v2)) + 4), .ref (G.1 + k0)] σ
      obtain ⟨g5, hs⟩ := hs
      refine pw_iald C dX8_workIn_34 hk0.1 hk0.2 g5 ?_
      refine pw_goto (tgt := 39) C dX8_workIn_35 (by decide) ?_
      exact hJ (σ.1 k0 (((26 + (5 * v2)) + 3).toNatClampNeg)) (if_pos q2)
set_option maxRecDepth 4000 in
theorem sg_X8_gain_0 {x : gw_X} {G : gw_G} {Φ : Int32 → gw_S → Prop} (C : XC x G RX8 cX8_gain 4 (some .int)) (hR : gw_ok x 1) (hT : RT x G (fi Φ)) (k0 : Nat) (v1 : Int32) (hk0 : gw_ia k0 96) (σ : gw_S)
    (h : PW x G 4 4 [(0, .ref (G.1 + k0)), (1, .int v1), (2, .int 0), (3, .int 0)] [] σ) : PW x G 4 0 [(0, .ref (G.1 + k0)), (1, .int v1)] [] σ := by
  refine pw_iconst (v := 0) C dX8_gain_0 (by decide) ?_
  refine pw_istore_n C dX8_gain_1 rfl (by decide) rfl ?_
  refine pw_iconst (v := 0) C dX8_gain_2 (by decide) ?_
  refine pw_istore_n C dX8_gain_3 rfl (by decide) rfl ?_
  exact pw_sub [2, 3, 1, 0] rfl h
set_option maxRecDepth 4000 in
theorem sg_X8_gain_4 {x : gw_X} {G : gw_G} {Φ : Int32 → gw_S → Prop} (C : XC x G RX8 cX8_gain 4 (some .int)) (hR : gw_ok x 1) (hT : RT x G (fi Φ)) (k0 : Nat) (hk0 : gw_ia k0 96) (v1 : Int32) (v2 : Int32) (v3 : Int32) (σ : gw_S)
    (h : ((σ.1 k0 ((1 : Int32).toNatClampNeg)) ≤ v3 → Φ v2 σ) ∧ (¬ ((σ.1 k0 ((1 : Int32).toNatClampNeg)) ≤ v3) → vp_in ((26 + (5 * v3)) + 0) 96 ∧ (((¬ ((σ.1 k0 (((26 + (5 * v3)) + 0).toNatClampNeg)) = v1) → True) ∧ ((σ.1 k0 (((26 + (5 * v3)) + 0).toNatClampNeg)) = v1 → vp_in ((26 + (5 * v3)) + 2) 96 ∧ (True))) ∧ (vp_in ((26 + (5 * v3)) + 1) 96 ∧ (((¬ ((σ.1 k0 (((26 + (5 * v3)) + 1).toNatClampNeg)) = v1) → True) ∧ ((σ.1 k0 (((26 + (5 * v3)) + 1).toNatClampNeg)) = v1 → vp_in ((26 + (5 * v3)) + 3) 96 ∧ (True))) ∧ (PW x G 4 4 [(0, .ref (G.1 + k0)), (1, .int v1), (2, .int (v2 + ((if (σ.1 k0 (((26 + (5 * v3)) + 0).toNatClampNeg)) = v1 then σ.1 k0 (((26 + (5 * v3)) + 2).toNatClampNeg) else 0 : Int32) - (if (σ.1 k0 (((26 + (5 * v3)) + 1).toNatClampNeg)) = v1 then σ.1 k0 (((26 + (5 * v3)) + 3).toNatClampNeg) else 0 : Int32)))), (3, .int (v3 + 1))] [] σ)))))) : PW x G 4 4 [(0, .ref (G.1 + k0)), (1, .int v1), (2, .int v2), (3, .int v3)] [] σ := by
  refine pw_iload_n C dX8_gain_4 rfl 3 rfl ?_
  refine pw_aload_n C dX8_gain_5 rfl 0 rfl ?_
  refine pw_iconst (v := 1) C dX8_gain_6 (by decide) ?_
  refine pw_iald C dX8_gain_7 hk0.1 hk0.2 (by show ¬ (_ ∨ _); decide) ?_
  refine pw_icmp_ge (tgt := 65) C dX8_gain_8 (by decide) (fun q => ?_) (fun q => ?_)
  · replace h := h.1 q
    refine pw_iload_n C dX8_gain_65 rfl 2 rfl ?_
    exact pw_iret C hT dX8_gain_66 h
  · replace h := h.2 q
    refine pw_iload_n C dX8_gain_11 rfl 2 rfl ?_
    refine pw_aload_n C dX8_gain_12 rfl 0 rfl ?_
    refine pw_iload_n C dX8_gain_13 rfl 3 rfl ?_
    refine pw_iconst (v := 0) C dX8_gain_14 (by decide) ?_
    refine pw_callS C dX8_gain_15 (k_X8_wireAt v3 0 σ ) gm_X8_wireAt gl_RX8_73 rfl hR (by decide) (by decide) rfl (Nat.le_of_ble_eq_true rfl) ?_
    rintro _ _ ⟨_, rfl, rfl, rfl⟩
    show PW x G 4 18 [(0, .ref (G.1 + k0)), (1, .int v1), (2, .int v2), (3, .int v3)] [.int ((26 + (5 * v3)) + 0), .ref (G.1 + k0), .int v2] σ
    obtain ⟨g1, h⟩ := h
    refine pw_iald C dX8_gain_18 hk0.1 hk0.2 g1 ?_
    refine pw_iload_n C dX8_gain_19 rfl 1 rfl ?_
    obtain ⟨hs, h⟩ := h
    have hJ : ∀ w0 : Int32, (if (σ.1 k0 (((26 + (5 * v3)) + 0).toNatClampNeg)) = v1 then σ.1 k0 (((26 + (5 * v3)) + 2).toNatClampNeg) else 0 : Int32) = w0 → PW x G 4 34 [(0, .ref (G.1 + k0)), (1, .int v1), (2, .int v2), (3, .int v3)] [.int w0, .int v2] σ := by
      rintro _ rfl
      refine pw_aload_n C dX8_gain_34 rfl 0 rfl ?_
      refine pw_iload_n C dX8_gain_35 rfl 3 rfl ?_
      refine pw_iconst (v := 1) C dX8_gain_36 (by decide) ?_
      refine pw_callS C dX8_gain_37 (k_X8_wireAt v3 1 σ ) gm_X8_wireAt gl_RX8_73 rfl hR (by decide) (by decide) rfl (Nat.le_of_ble_eq_true rfl) ?_
      rintro _ _ ⟨_, rfl, rfl, rfl⟩
      show PW x G 4 40 [(0, .ref (G.1 + k0)), (1, .int v1), (2, .int v2), (3, .int v3)] [.int ((26 + (5 * v3)) + 1), .ref (G.1 + k0), .int (if (σ.1 k0 (((26 + (5 * v3)) + 0).toNatClampNeg)) = v1 then σ.1 k0 (((26 + (5 * v3)) + 2).toNatClampNeg) else 0 : Int32), .int v2] σ
      obtain ⟨g3, h⟩ := h
      refine pw_iald C dX8_gain_40 hk0.1 hk0.2 g3 ?_
      refine pw_iload_n C dX8_gain_41 rfl 1 rfl ?_
      obtain ⟨hs, h⟩ := h
      have hJ : ∀ w0 : Int32, (if (σ.1 k0 (((26 + (5 * v3)) + 1).toNatClampNeg)) = v1 then σ.1 k0 (((26 + (5 * v3)) + 3).toNatClampNeg) else 0 : Int32) = w0 → PW x G 4 56 [(0, .ref (G.1 + k0)), (1, .int v1), (2, .int v2), (3, .int v3)] [.int w0, .int (if (σ.1 k0 (((26 + (5 * v3)) + 0).toNatClampNeg)) = v1 then σ.1 k0 (((26 + (5 * v3)) + 2).toNatClampNeg) else 0 : Int32), .int v2] σ := by
        rintro _ rfl
        refine pw_isub C dX8_gain_56 ?_
        refine pw_iadd C dX8_gain_57 ?_
        refine pw_istore_n C dX8_gain_58 rfl (by decide) rfl ?_
        refine pw_iinc (v := (v3 + 1)) (j := 3) C dX8_gain_59 rfl rfl (by decide) rfl ?_
        refine pw_goto (tgt := 4) C dX8_gain_62 (by decide) ?_
        exact pw_sub [2, 3, 1, 0] rfl h
      clear h
      refine pw_icmp_ne (tgt := 55) C dX8_gain_42 (by decide) (fun q3 => ?_) (fun q3 => ?_)
      · replace hs := hs.1 q3
        refine pw_iconst (v := 0) C dX8_gain_55 (by decide) ?_
        exact hJ 0 (if_neg q3)
      · replace hs := hs.2 q3
        refine pw_aload_n C dX8_gain_45 rfl 0 rfl ?_
        refine pw_iload_n C dX8_gain_46 rfl 3 rfl ?_
        refine pw_iconst (v := 3) C dX8_gain_47 (by decide) ?_
        refine pw_callS C dX8_gain_48 (k_X8_wireAt v3 3 σ ) gm_X8_wireAt gl_RX8_73 rfl hR (by decide) (by decide) rfl (Nat.le_of_ble_eq_true rfl) ?_
        rintro _ _ ⟨_, rfl, rfl, rfl⟩
        show PW x G 4 51 [(0, .ref (G.1 + k0)), (1, .int v1), (2, .int v2), (3, .int v3)] [.int ((26 + (5 * v3)) + 3), .ref (G.1 + k0), .int (if (σ.1 k0 (((26 + (5 * v3)) + 0).toNatClampNeg)) = v1 then σ.1 k0 (((26 + (5 * v3)) + 2).toNatClampNeg) else 0 : Int32), .int v2] σ
        obtain ⟨g4, hs⟩ := hs
        refine pw_iald C dX8_gain_51 hk0.1 hk0.2 g4 ?_
        refine pw_goto (tgt := 56) C dX8_gain_52 (by decide) ?_
        exact hJ (σ.1 k0 (((26 + (5 * v3)) + 3).toNatClampNeg)) (if_pos q3)
    clear h
    refine pw_icmp_ne (tgt := 33) C dX8_gain_20 (by decide) (fun q2 => ?_) (fun q2 => ?_)
    · replace hs := hs.1 q2
      refine pw_iconst (v := 0) C dX8_gain_33 (by decide) ?_
      exact hJ 0 (if_neg q2)
    · replace hs := hs.2 q2
      refine pw_aload_n C dX8_gain_23 rfl 0 rfl ?_
      refine pw_iload_n C dX8_gain_24 rfl 3 rfl ?_
      refine pw_iconst (v := 2) C dX8_gain_25 (by decide) ?_
      refine pw_callS C dX8_gain_26 (k_X8_wireAt v3 2 σ ) gm_X8_wireAt gl_RX8_73 rfl hR (by decide) (by decide) rfl (Nat.le_of_ble_eq_true rfl) ?_
      rintro _ _ ⟨_, rfl, rfl, rfl⟩
      show PW x G 4 29 [(0, .ref (G.1 + k0)), (1, .int v1), (2, .int v2), (3, .int v3)] [.int ((26 + (5 * v3)) + 2), .ref (G.1 + k0), .int v2] σ
      obtain ⟨g2, hs⟩ := hs
      refine pw_iald C dX8_gain_29 hk0.1 hk0.2 g2 ?_
      refine pw_goto (tgt := 34) C dX8_gain_30 (by decide) ?_
      exact hJ (σ.1 k0 (((26 + (5 * v3)) + 2).toNatClampNeg)) (if_pos q2)
set_option maxRecDepth 4000 in
theorem sg_X8_choice_0 {x : gw_X} {G : gw_G} {Φ : Int32 → gw_S → Prop} (C : XC x G RX8 cX8_choice 10 (some .int)) (hR : gw_ok x 2) (hT : RT x G (fi Φ)) (k1 : Nat) (v2 : Int32) (v3 : Int32) (hk1 : gw_ia k1 96) (σ : gw_S)
    (h : PW x G 10 11 [(0, .ref (G.1 + 189)), (1, .ref (G.1 + k1)), (2, .int v2), (3, .int v3), (4, .int (-1)), (5, .int (σ.1 k1 ((0 : Int32).toNatClampNeg))), (6, .int 0)] [] σ) : PW x G 10 0 [(0, .ref (G.1 + 189)), (1, .ref (G.1 + k1)), (2, .int v2), (3, .int v3)] [] σ := by
  refine pw_iconst (v := (-1)) C dX8_choice_0 (by decide) ?_
  refine pw_istore C dX8_choice_1 (by decide) rfl ?_
  refine pw_aload_n C dX8_choice_3 rfl 2 rfl ?_
  refine pw_iconst (v := 0) C dX8_choice_4 (by decide) ?_
  refine pw_iald C dX8_choice_5 hk1.1 hk1.2 (by show ¬ (_ ∨ _); decide) ?_
  refine pw_istore C dX8_choice_6 (by decide) rfl ?_
  refine pw_iconst (v := 0) C dX8_choice_8 (by decide) ?_
  refine pw_istore C dX8_choice_9 (by decide) rfl ?_
  exact pw_sub [3, 4, 5, 6, 2, 1, 0] rfl h
set_option maxRecDepth 4000 in
theorem sg_X8_choice_11 {x : gw_X} {G : gw_G} {Φ : Int32 → gw_S → Prop} (C : XC x G RX8 cX8_choice 10 (some .int)) (hR : gw_ok x 2) (hT : RT x G (fi Φ)) (k1 : Nat) (hk1 : gw_ia k1 96) (v2 : Int32) (v3 : Int32) (v4 : Int32) (v5 : Int32) (v6 : Int32) (σ : gw_S)
    (h : (v5 ≤ v6 → Φ v4 σ) ∧ (¬ (v5 ≤ v6) → ((¬ (v2 = 2) → True) ∧ (v2 = 2 → ¬ v5 = 0 ∧ (True))) ∧ (vp_in (if v2 = 2 then ((v3 + 1) + v6) - ((v3 + 1) + v6) / v5 * v5 else v6 : Int32) 8 ∧ (((σ.1 197 ((if v2 = 2 then ((v3 + 1) + v6) - ((v3 + 1) + v6) / v5 * v5 else v6 : Int32).toNatClampNeg)) ≤ (σ.1 201 ((if v2 = 2 then ((v3 + 1) + v6) - ((v3 + 1) + v6) / v5 * v5 else v6 : Int32).toNatClampNeg)) → (v4 = (-1) → PW x G 10 11 [(0, .ref (G.1 + 189)), (1, .ref (G.1 + k1)), (2, .int v2), (3, .int v3), (4, .int v4), (5, .int v5), (6, .int (v6 + 1))] [] σ) ∧ (¬ (v4 = (-1)) → (¬ (v2 = 1) → PW x G 10 11 [(0, .ref (G.1 + 189)), (1, .ref (G.1 + k1)), (2, .int v2), (3, .int v3), (4, .int v4), (5, .int v5), (6, .int (v6 + 1))] [] σ) ∧ (v2 = 1 → ∃ Φ3 : Int32 → gw_S → Prop, gw_M (xl x) G yX8_gain cX8_gain 4 (some .int) 1 [.ref (G.1 + k1), .int (if v2 = 2 then ((v3 + 1) + v6) - ((v3 + 1) + v6) / v5 * v5 else v6 : Int32)] σ (fi Φ3) ∧ ∀ (r5 : Int32) (τ4 : gw_S), Φ3 r5 τ4 → (∃ Φ6 : Int32 → gw_S → Prop, gw_M (xl x) G yX8_gain cX8_gain 4 (some .int) 1 [.ref (G.1 + k1), .int v4] τ4 (fi Φ6) ∧ ∀ (r8 : Int32) (τ7 : gw_S), Φ6 r8 τ7 → (PW x G 10 11 [(0, .ref (G.1 + 189)), (1, .ref (G.1 + k1)), (2, .int v2), (3, .int v3), (4, .int v4), (5, .int v5), (6, .int (v6 + 1))] [] τ7))))) ∧ (¬ ((σ.1 197 ((if v2 = 2 then ((v3 + 1) + v6) - ((v3 + 1) + v6) / v5 * v5 else v6 : Int32).toNatClampNeg)) ≤ (σ.1 201 ((if v2 = 2 then ((v3 + 1) + v6) - ((v3 + 1) + v6) / v5 * v5 else v6 : Int32).toNatClampNeg))) → ∃ Φ9 : Bool → gw_S → Prop, gw_M (xl x) G yX8_canWork cX8_canWork 7 (some .boolean) 1 [.ref (G.1 + k1), .int (if v2 = 2 then ((v3 + 1) + v6) - ((v3 + 1) + v6) / v5 * v5 else v6 : Int32)] σ (fz Φ9) ∧ ∀ (r11 : Bool) (τ10 : gw_S), Φ9 r11 τ10 → ((v4 = (-1) → PW x G 10 11 [(0, .ref (G.1 + 189)), (1, .ref (G.1 + k1)), (2, .int v2), (3, .int v3), (4, .int (if (if r11 = false then false else true : Bool) = false then v4 else (if v2 = 2 then ((v3 + 1) + v6) - ((v3 + 1) + v6) / v5 * v5 else v6 : Int32) : Int32)), (5, .int v5), (6, .int (v6 + 1))] [] τ10) ∧ (¬ (v4 = (-1)) → (¬ (v2 = 1) → PW x G 10 11 [(0, .ref (G.1 + 189)), (1, .ref (G.1 + k1)), (2, .int v2), (3, .int v3), (4, .int v4), (5, .int v5), (6, .int (v6 + 1))] [] τ10) ∧ (v2 = 1 → ∃ Φ12 : Int32 → gw_S → Prop, gw_M (xl x) G yX8_gain cX8_gain 4 (some .int) 1 [.ref (G.1 + k1), .int (if v2 = 2 then ((v3 + 1) + v6) - ((v3 + 1) + v6) / v5 * v5 else v6 : Int32)] τ10 (fi Φ12) ∧ ∀ (r14 : Int32) (τ13 : gw_S), Φ12 r14 τ13 → (∃ Φ15 : Int32 → gw_S → Prop, gw_M (xl x) G yX8_gain cX8_gain 4 (some .int) 1 [.ref (G.1 + k1), .int v4] τ13 (fi Φ15) ∧ ∀ (r17 : Int32) (τ16 : gw_S), Φ15 r17 τ16 → (PW x G 10 11 [(0, .ref (G.1 + 189)), (1, .ref (G.1 + k1)), (2, .int v2), (3, .int v3), (4, .int (if (if r11 = false then false else true : Bool) = false then v4 else (if (if r17 ≤ r14 then false else true : Bool) = false then v4 else (if v2 = 2 then ((v3 + 1) + v6) - ((v3 + 1) + v6) / v5 * v5 else v6 : Int32) : Int32) : Int32)), (5, .int v5), (6, .int (v6 + 1))] [] τ16)))))))))) : PW x G 10 11 [(0, .ref (G.1 + 189)), (1, .ref (G.1 + k1)), (2, .int v2), (3, .int v3), (4, .int v4), (5, .int v5), (6, .int v6)] [] σ := by
  refine pw_iload C dX8_choice_11 6 rfl ?_
  refine pw_iload C dX8_choice_13 5 rfl ?_
  refine pw_icmp_ge (tgt := 130) C dX8_choice_15 (by decide) (fun q => ?_) (fun q => ?_)
  · replace h := h.1 q
    refine pw_iload C dX8_choice_130 4 rfl ?_
    exact pw_iret C hT dX8_choice_132 h
  · replace h := h.2 q
    refine pw_iload_n C dX8_choice_18 rfl 2 rfl ?_
    refine pw_iconst (v := 2) C dX8_choice_19 (by decide) ?_
    obtain ⟨hs, h⟩ := h
    have hJ : ∀ w0 : Int32, (if v2 = 2 then ((v3 + 1) + v6) - ((v3 + 1) + v6) / v5 * v5 else v6 : Int32) = w0 → PW x G 10 37 [(0, .ref (G.1 + 189)), (1, .ref (G.1 + k1)), (2, .int v2), (3, .int v3), (4, .int v4), (5, .int v5), (6, .int v6)] [.int w0] σ := by
      rintro _ rfl
      refine pw_istore C dX8_choice_37 (by decide) rfl ?_
      refine pw_aload_n C dX8_choice_39 rfl 1 rfl ?_
      refine pw_getr C dX8_choice_40 gf_RX8_45 gk_189.1 gk_189.2 rfl ?_
      refine pw_iload C dX8_choice_43 0 rfl ?_
      obtain ⟨g2, h⟩ := h
      refine pw_iald C dX8_choice_45 gk_201.1 gk_201.2 g2 ?_
      refine pw_aload_n C dX8_choice_46 rfl 1 rfl ?_
      refine pw_getr C dX8_choice_47 gf_RX8_32 gk_189.1 gk_189.2 rfl ?_
      refine pw_iload C dX8_choice_50 0 rfl ?_
      refine pw_iald C dX8_choice_52 gk_197.1 gk_197.2 g2 ?_
      refine pw_icmp_ge (tgt := 69) C dX8_choice_53 (by decide) (fun q => ?_) (fun q => ?_)
      · replace h := h.1 q
        refine pw_iconst (v := 0) C dX8_choice_69 (by decide) ?_
        refine pw_istore C dX8_choice_70 (by decide) rfl ?_
        refine pw_iload C dX8_choice_72 6 rfl ?_
        refine pw_iconst (v := (-1)) C dX8_choice_74 (by decide) ?_
        refine pw_icmp_eq (tgt := 98) C dX8_choice_75 (by decide) (fun q => ?_) (fun q => ?_)
        · replace h := h.1 q
          refine pw_iconst (v := 1) C dX8_choice_98 (by decide) ?_
          refine pw_goto (tgt := 103) C dX8_choice_99 (by decide) ?_
          refine pw_istore C dX8_choice_103 (by decide) rfl ?_
          refine pw_iload C dX8_choice_105 1 rfl ?_
          refine pw_if_eq (tgt := 120) C dX8_choice_107 (by decide) (fun _ => ?_) (fun q => absurd q (by decide))
          refine pw_iload C dX8_choice_120 7 rfl ?_
          refine pw_istore C dX8_choice_122 (by decide) rfl ?_
          refine pw_iinc (v := (v6 + 1)) (j := 9) C dX8_choice_124 rfl rfl (by decide) rfl ?_
          refine pw_goto (tgt := 11) C dX8_choice_127 (by decide) ?_
          exact pw_sub [5, 6, 7, 8, 1, 9, 0] rfl h
        · replace h := h.2 q
          refine pw_iload_n C dX8_choice_78 rfl 4 rfl ?_
          refine pw_iconst (v := 1) C dX8_choice_79 (by decide) ?_
          refine pw_icmp_ne (tgt := 102) C dX8_choice_80 (by decide) (fun q => ?_) (fun q => ?_)
          · replace h := h.1 q
            refine pw_iconst (v := 0) C dX8_choice_102 (by decide) ?_
            refine pw_istore C dX8_choice_103 (by decide) rfl ?_
            refine pw_iload C dX8_choice_105 1 rfl ?_
            refine pw_if_eq (tgt := 120) C dX8_choice_107 (by decide) (fun _ => ?_) (fun q => absurd q (by decide))
            refine pw_iload C dX8_choice_120 7 rfl ?_
            refine pw_istore C dX8_choice_122 (by decide) rfl ?_
            refine pw_iinc (v := (v6 + 1)) (j := 9) C dX8_choice_124 rfl rfl (by decide) rfl ?_
            refine pw_goto (tgt := 11) C dX8_choice_127 (by decide) ?_
            exact pw_sub [5, 6, 7, 8, 1, 9, 0] rfl h
          · replace h := h.2 q
            refine pw_aload_n C dX8_choice_83 rfl 3 rfl ?_
            refine pw_iload C dX8_choice_84 1 rfl ?_
            obtain ⟨Φ3, hM, h⟩ := h
            refine pw_callS C dX8_choice_86 hM gm_X8_gain gl_RX8_110 rfl hR (by decide) (by decide) rfl (Nat.le_of_ble_eq_true rfl) ?_
            rintro _ τ4 ⟨r5, rfl, hv⟩
            replace h := h r5 τ4 hv
            show PW x G 10 89 [(8, .int 0), (7, .int (if v2 = 2 then ((v3 + 1) + v6) - ((v3 + 1) + v6) / v5 * v5 else v6 : Int32)), (0, .ref (G.1 + 189)), (1, .ref (G.1 + k1)), (2, .int v2), (3, .int v3), (4, .int v4), (5, .int v5), (6, .int v6)] [.int r5] τ4
            refine pw_aload_n C dX8_choice_89 rfl 3 rfl ?_
            refine pw_iload C dX8_choice_90 6 rfl ?_
            obtain ⟨Φ6, hM, h⟩ := h
            refine pw_callS C dX8_choice_92 hM gm_X8_gain gl_RX8_110 rfl hR (by decide) (by decide) rfl (Nat.le_of_ble_eq_true rfl) ?_
            rintro _ τ7 ⟨r8, rfl, hv⟩
            replace h := h r8 τ7 hv
            show PW x G 10 95 [(8, .int 0), (7, .int (if v2 = 2 then ((v3 + 1) + v6) - ((v3 + 1) + v6) / v5 * v5 else v6 : Int32)), (0, .ref (G.1 + 189)), (1, .ref (G.1 + k1)), (2, .int v2), (3, .int v3), (4, .int v4), (5, .int v5), (6, .int v6)] [.int r8, .int r5] τ7
            have hJ : ∀ w0 : Bool, (if r8 ≤ r5 then false else true : Bool) = w0 → PW x G 10 103 [(8, .int 0), (7, .int (if v2 = 2 then ((v3 + 1) + v6) - ((v3 + 1) + v6) / v5 * v5 else v6 : Int32)), (0, .ref (G.1 + 189)), (1, .ref (G.1 + k1)), (2, .int v2), (3, .int v3), (4, .int v4), (5, .int v5), (6, .int v6)] [.int (gz w0)] τ7 := by
              rintro _ rfl
              refine pw_istore C dX8_choice_103 (by decide) rfl ?_
              refine pw_iload C dX8_choice_105 1 rfl ?_
              refine pw_if_eq (tgt := 120) C dX8_choice_107 (by decide) (fun _ => ?_) (fun q => absurd q (by decide))
              refine pw_iload C dX8_choice_120 7 rfl ?_
              refine pw_istore C dX8_choice_122 (by decide) rfl ?_
              refine pw_iinc (v := (v6 + 1)) (j := 9) C dX8_choice_124 rfl rfl (by decide) rfl ?_
              refine pw_goto (tgt := 11) C dX8_choice_127 (by decide) ?_
              exact pw_sub [5, 6, 7, 8, 1, 9, 0] rfl h
            clear h
            refine pw_icmp_ge (tgt := 102) C dX8_choice_95 (by decide) (fun q6 => ?_) (fun q6 => ?_)
            · refine pw_iconst (v := 0) C dX8_choice_102 (by decide) ?_
              exact hJ false (if_pos q6)
            · refine pw_iconst (v := 1) C dX8_choice_98 (by decide) ?_
              refine pw_goto (tgt := 103) C dX8_choice_99 (by decide) ?_
              exact hJ true (if_neg q6)
      · replace h := h.2 q
        refine pw_aload_n C dX8_choice_56 rfl 2 rfl ?_
        refine pw_iload C dX8_choice_57 0 rfl ?_
        obtain ⟨Φ9, hM, h⟩ := h
        refine pw_callS C dX8_choice_59 hM gm_X8_canWork gl_RX8_106 rfl hR (by decide) (by decide) rfl (Nat.le_of_ble_eq_true rfl) ?_
        rintro _ τ10 ⟨r11, rfl, hv⟩
        replace h := h r11 τ10 hv
        show PW x G 10 62 [(7, .int (if v2 = 2 then ((v3 + 1) + v6) - ((v3 + 1) + v6) / v5 * v5 else v6 : Int32)), (0, .ref (G.1 + 189)), (1, .ref (G.1 + k1)), (2, .int v2), (3, .int v3), (4, .int v4), (5, .int v5), (6, .int v6)] [.int (gz r11)] τ10
        have hJ : ∀ w0 : Bool, (if r11 = false then false else true : Bool) = w0 → PW x G 10 70 [(7, .int (if v2 = 2 then ((v3 + 1) + v6) - ((v3 + 1) + v6) / v5 * v5 else v6 : Int32)), (0, .ref (G.1 + 189)), (1, .ref (G.1 + k1)), (2, .int v2), (3, .int v3), (4, .int v4), (5, .int v5), (6, .int v6)] [.int (gz w0)] τ10 := by
          rintro _ rfl
          refine pw_istore C dX8_choice_70 (by decide) rfl ?_
          refine pw_iload C dX8_choice_72 6 rfl ?_
          refine pw_iconst (v := (-1)) C dX8_choice_74 (by decide) ?_
          refine pw_icmp_eq (tgt := 98) C dX8_choice_75 (by decide) (fun q => ?_) (fun q => ?_)
          · replace h := h.1 q
            refine pw_iconst (v := 1) C dX8_choice_98 (by decide) ?_
            refine pw_goto (tgt := 103) C dX8_choice_99 (by decide) ?_
            refine pw_istore C dX8_choice_103 (by decide) rfl ?_
            refine pw_iload C dX8_choice_105 1 rfl ?_
            have hJ : ∀ w0 : Int32, (if (if r11 = false then false else true : Bool) = false then v4 else (if v2 = 2 then ((v3 + 1) + v6) - ((v3 + 1) + v6) / v5 * v5 else v6 : Int32) : Int32) = w0 → PW x G 10 122 [(9, .int 1), (8, .int (gz (if r11 = false then false else true : Bool))), (7, .int (if v2 = 2 then ((v3 + 1) + v6) - ((v3 + 1) + v6) / v5 * v5 else v6 : Int32)), (0, .ref (G.1 + 189)), (1, .ref (G.1 + k1)), (2, .int v2), (3, .int v3), (4, .int v4), (5, .int v5), (6, .int v6)] [.int w0] τ10 := by
              rintro _ rfl
              refine pw_istore C dX8_choice_122 (by decide) rfl ?_
              refine pw_iinc (v := (v6 + 1)) (j := 9) C dX8_choice_124 rfl rfl (by decide) rfl ?_
              refine pw_goto (tgt := 11) C dX8_choice_127 (by decide) ?_
              exact pw_sub [5, 6, 7, 8, 1, 9, 0] rfl h
            clear h
            refine pw_z_eq (tgt := 120) C dX8_choice_107 (by decide) (fun q6 => ?_) (fun q6 => ?_)
            · refine pw_iload C dX8_choice_120 7 rfl ?_
              exact hJ v4 (if_pos q6)
            · refine pw_iload C dX8_choice_110 0 rfl ?_
              refine pw_if_eq (tgt := 120) C dX8_choice_112 (by decide) (fun q => absurd q (by decide)) (fun _ => ?_)
              refine pw_iload C dX8_choice_115 2 rfl ?_
              refine pw_goto (tgt := 122) C dX8_choice_117 (by decide) ?_
              exact hJ (if v2 = 2 then ((v3 + 1) + v6) - ((v3 + 1) + v6) / v5 * v5 else v6 : Int32) (if_neg q6)
          · replace h := h.2 q
            refine pw_iload_n C dX8_choice_78 rfl 4 rfl ?_
            refine pw_iconst (v := 1) C dX8_choice_79 (by decide) ?_
            refine pw_icmp_ne (tgt := 102) C dX8_choice_80 (by decide) (fun q => ?_) (fun q => ?_)
            · replace h := h.1 q
              refine pw_iconst (v := 0) C dX8_choice_102 (by decide) ?_
              refine pw_istore C dX8_choice_103 (by decide) rfl ?_
              refine pw_iload C dX8_choice_105 1 rfl ?_
              have hJ : PW x G 10 122 [(9, .int 0), (8, .int (gz (if r11 = false then false else true : Bool))), (7, .int (if v2 = 2 then ((v3 + 1) + v6) - ((v3 + 1) + v6) / v5 * v5 else v6 : Int32)), (0, .ref (G.1 + 189)), (1, .ref (G.1 + k1)), (2, .int v2), (3, .int v3), (4, .int v4), (5, .int v5), (6, .int v6)] [.int v4] τ10 := by
                refine pw_istore C dX8_choice_122 (by decide) rfl ?_
                refine pw_iinc (v := (v6 + 1)) (j := 9) C dX8_choice_124 rfl rfl (by decide) rfl ?_
                refine pw_goto (tgt := 11) C dX8_choice_127 (by decide) ?_
                exact pw_sub [5, 6, 7, 8, 1, 9, 0] rfl h
              clear h
              refine pw_z_eq (tgt := 120) C dX8_choice_107 (by decide) (fun q7 => ?_) (fun q7 => ?_)
              · refine pw_iload C dX8_choice_120 7 rfl ?_
                exact hJ
              · refine pw_iload C dX8_choice_110 0 rfl ?_
                refine pw_if_eq (tgt := 120) C dX8_choice_112 (by decide) (fun _ => ?_) (fun q => absurd q (by decide))
                refine pw_iload C dX8_choice_120 7 rfl ?_
                exact hJ
            · replace h := h.2 q
              refine pw_aload_n C dX8_choice_83 rfl 3 rfl ?_
              refine pw_iload C dX8_choice_84 1 rfl ?_
              obtain ⟨Φ12, hM, h⟩ := h
              refine pw_callS C dX8_choice_86 hM gm_X8_gain gl_RX8_110 rfl hR (by decide) (by decide) rfl (Nat.le_of_ble_eq_true rfl) ?_
              rintro _ τ13 ⟨r14, rfl, hv⟩
              replace h := h r14 τ13 hv
              show PW x G 10 89 [(8, .int (gz (if r11 = false then false else true : Bool))), (7, .int (if v2 = 2 then ((v3 + 1) + v6) - ((v3 + 1) + v6) / v5 * v5 else v6 : Int32)), (0, .ref (G.1 + 189)), (1, .ref (G.1 + k1)), (2, .int v2), (3, .int v3), (4, .int v4), (5, .int v5), (6, .int v6)] [.int r14] τ13
              refine pw_aload_n C dX8_choice_89 rfl 3 rfl ?_
              refine pw_iload C dX8_choice_90 6 rfl ?_
              obtain ⟨Φ15, hM, h⟩ := h
              refine pw_callS C dX8_choice_92 hM gm_X8_gain gl_RX8_110 rfl hR (by decide) (by decide) rfl (Nat.le_of_ble_eq_true rfl) ?_
              rintro _ τ16 ⟨r17, rfl, hv⟩
              replace h := h r17 τ16 hv
              show PW x G 10 95 [(8, .int (gz (if r11 = false then false else true : Bool))), (7, .int (if v2 = 2 then ((v3 + 1) + v6) - ((v3 + 1) + v6) / v5 * v5 else v6 : Int32)), (0, .ref (G.1 + 189)), (1, .ref (G.1 + k1)), (2, .int v2), (3, .int v3), (4, .int v4), (5, .int v5), (6, .int v6)] [.int r17, .int r14] τ16
              have hJ : ∀ w0 : Bool, (if r17 ≤ r14 then false else true : Bool) = w0 → PW x G 10 103 [(8, .int (gz (if r11 = false then false else true : Bool))), (7, .int (if v2 = 2 then ((v3 + 1) + v6) - ((v3 + 1) + v6) / v5 * v5 else v6 : Int32)), (0, .ref (G.1 + 189)), (1, .ref (G.1 + k1)), (2, .int v2), (3, .int v3), (4, .int v4), (5, .int v5), (6, .int v6)] [.int (gz w0)] τ16 := by
                rintro _ rfl
                refine pw_istore C dX8_choice_103 (by decide) rfl ?_
                refine pw_iload C dX8_choice_105 1 rfl ?_
                have hJ : ∀ w0 : Int32, (if (if r11 = false then false else true : Bool) = false then v4 else (if (if r17 ≤ r14 then false else true : Bool) = false then v4 else (if v2 = 2 then ((v3 + 1) + v6) - ((v3 + 1) + v6) / v5 * v5 else v6 : Int32) : Int32) : Int32) = w0 → PW x G 10 122 [(9, .int (gz (if r17 ≤ r14 then false else true : Bool))), (8, .int (gz (if r11 = false then false else true : Bool))), (7, .int (if v2 = 2 then ((v3 + 1) + v6) - ((v3 + 1) + v6) / v5 * v5 else v6 : Int32)), (0, .ref (G.1 + 189)), (1, .ref (G.1 + k1)), (2, .int v2), (3, .int v3), (4, .int v4), (5, .int v5), (6, .int v6)] [.int w0] τ16 := by
                  rintro _ rfl
                  refine pw_istore C dX8_choice_122 (by decide) rfl ?_
                  refine pw_iinc (v := (v6 + 1)) (j := 9) C dX8_choice_124 rfl rfl (by decide) rfl ?_
                  refine pw_goto (tgt := 11) C dX8_choice_127 (by decide) ?_
                  exact pw_sub [5, 6, 7, 8, 1, 9, 0] rfl h
                clear h
                refine pw_z_eq (tgt := 120) C dX8_choice_107 (by decide) (fun q8 => ?_) (fun q8 => ?_)
                · refine pw_iload C dX8_choice_120 7 rfl ?_
                  exact hJ v4 (if_pos q8)
                · refine pw_iload C dX8_choice_110 0 rfl ?_
                  refine pw_z_eq (tgt := 120) C dX8_choice_112 (by decide) (fun q9 => ?_) (fun q9 => ?_)
                  · refine pw_iload C dX8_choice_120 7 rfl ?_
                    exact hJ v4 ((if_neg q8).trans (if_pos q9))
                  · refine pw_iload C dX8_choice_115 2 rfl ?_
                    refine pw_goto (tgt := 122) C dX8_choice_117 (by decide) ?_
                    exact hJ (if v2 = 2 then ((v3 + 1) + v6) - ((v3 + 1) + v6) / v5 * v5 else v6 : Int32) ((if_neg q8).trans (if_neg q9))
              clear h
              refine pw_icmp_ge (tgt := 102) C dX8_choice_95 (by decide) (fun q7 => ?_) (fun q7 => ?_)
              · refine pw_iconst (v := 0) C dX8_choice_102 (by decide) ?_
                exact hJ false (if_pos q7)
              · refine pw_iconst (v := 1) C dX8_choice_98 (by decide) ?_
                refine pw_goto (tgt := 103) C dX8_choice_99 (by decide) ?_
                exact hJ true (if_neg q7)
        clear h
        refine pw_z_eq (tgt := 69) C dX8_choice_62 (by decide) (fun q4 => ?_) (fun q4 => ?_)
        · refine pw_iconst (v := 0) C dX8_choice_69 (by decide) ?_
          exact hJ false (if_pos q4)
        · refine pw_iconst (v := 1) C dX8_choice_65 (by decide) ?_
          refine pw_goto (tgt := 70) C dX8_choice_66 (by decide) ?_
          exact hJ true (if_neg q4)
    clear h
    refine pw_icmp_ne (tgt := 35) C dX8_choice_20 (by decide) (fun q2 => ?_) (fun q2 => ?_)
    · replace hs := hs.1 q2
      refine pw_iload C dX8_choice_35 6 rfl ?_
      exact hJ v6 (if_neg q2)
    · replace hs := hs.2 q2
      refine pw_iload_n C dX8_choice_23 rfl 3 rfl ?_
      refine pw_iconst (v := 1) C dX8_choice_24 (by decide) ?_
      refine pw_iadd C dX8_choice_25 ?_
      refine pw_iload C dX8_choice_26 6 rfl ?_
      refine pw_iadd C dX8_choice_28 ?_
      refine pw_iload C dX8_choice_29 5 rfl ?_
      obtain ⟨g1, hs⟩ := hs
      refine pw_irem C dX8_choice_31 g1 ?_
      refine pw_goto (tgt := 37) C dX8_choice_32 (by decide) ?_
      exact hJ (((v3 + 1) + v6) - ((v3 + 1) + v6) / v5 * v5) (if_pos q2)
set_option maxRecDepth 4000 in
theorem sg_X8_note_0 {x : gw_X} {G : gw_G} {Φ : gw_S → Prop} (C : XC x G RX8 cX8_note 3 none) (hR : gw_ok x 1) (hT : RT x G (fv Φ)) (k1 : Nat) (hk1 : gw_ia k1 96) (σ : gw_S)
    (h : PW x G 3 2 [(0, .ref (G.1 + 189)), (1, .ref (G.1 + k1)), (2, .int 0)] [] σ) : PW x G 3 0 [(0, .ref (G.1 + 189)), (1, .ref (G.1 + k1))] [] σ := by
  refine pw_iconst (v := 0) C dX8_note_0 (by decide) ?_
  refine pw_istore_n C dX8_note_1 rfl (by decide) rfl ?_
  exact pw_sub [1, 2, 0] rfl h
set_option maxRecDepth 4000 in
theorem sg_X8_note_2 {x : gw_X} {G : gw_G} {Φ : gw_S → Prop} (C : XC x G RX8 cX8_note 3 none) (hR : gw_ok x 1) (hT : RT x G (fv Φ)) (k1 : Nat) (hk1 : gw_ia k1 96) (v2 : Int32) (σ : gw_S)
    (h : ((σ.1 k1 ((1 : Int32).toNatClampNeg)) ≤ v2 → Φ σ) ∧ (¬ ((σ.1 k1 ((1 : Int32).toNatClampNeg)) ≤ v2) → vp_in ((26 + (5 * v2)) + 4) 96 ∧ (vp_in v2 14 ∧ (∀ τ3 : gw_S, τ3 = gw_u σ 203 v2.toNatClampNeg (if (σ.1 k1 (((26 + (5 * v2)) + 4).toNatClampNeg)) ≤ (σ.1 203 v2.toNatClampNeg) then σ.1 203 v2.toNatClampNeg else σ.1 k1 (((26 + (5 * v2)) + 4).toNatClampNeg) : Int32) → (PW x G 3 2 [(0, .ref (G.1 + 189)), (1, .ref (G.1 + k1)), (2, .int (v2 + 1))] [] τ3))))) : PW x G 3 2 [(0, .ref (G.1 + 189)), (1, .ref (G.1 + k1)), (2, .int v2)] [] σ := by
  refine pw_iload_n C dX8_note_2 rfl 2 rfl ?_
  refine pw_aload_n C dX8_note_3 rfl 1 rfl ?_
  refine pw_iconst (v := 1) C dX8_note_4 (by decide) ?_
  refine pw_iald C dX8_note_5 hk1.1 hk1.2 (by show ¬ (_ ∨ _); decide) ?_
  refine pw_icmp_ge (tgt := 53) C dX8_note_6 (by decide) (fun q => ?_) (fun q => ?_)
  · replace h := h.1 q
    exact pw_vret C hT dX8_note_53 h
  · replace h := h.2 q
    refine pw_aload_n C dX8_note_9 rfl 0 rfl ?_
    refine pw_getr C dX8_note_10 gf_RX8_51 gk_189.1 gk_189.2 rfl ?_
    refine pw_iload_n C dX8_note_13 rfl 2 rfl ?_
    refine pw_aload_n C dX8_note_14 rfl 1 rfl ?_
    refine pw_iload_n C dX8_note_15 rfl 2 rfl ?_
    refine pw_iconst (v := 4) C dX8_note_16 (by decide) ?_
    refine pw_callS C dX8_note_17 (k_X8_wireAt v2 4 σ ) gm_X8_wireAt gl_RX8_73 rfl hR (by decide) (by decide) rfl (Nat.le_of_ble_eq_true rfl) ?_
    rintro _ _ ⟨_, rfl, rfl, rfl⟩
    show PW x G 3 20 [(0, .ref (G.1 + 189)), (1, .ref (G.1 + k1)), (2, .int v2)] [.int ((26 + (5 * v2)) + 4), .ref (G.1 + k1), .int v2, .ref (G.1 + 203)] σ
    obtain ⟨g1, h⟩ := h
    refine pw_iald C dX8_note_20 hk1.1 hk1.2 g1 ?_
    refine pw_aload_n C dX8_note_21 rfl 0 rfl ?_
    refine pw_getr C dX8_note_22 gf_RX8_51 gk_189.1 gk_189.2 rfl ?_
    refine pw_iload_n C dX8_note_25 rfl 2 rfl ?_
    obtain ⟨g2, h⟩ := h
    refine pw_iald C dX8_note_26 gk_203.1 gk_203.2 g2 ?_
    have hJ : ∀ w0 : Int32, (if (σ.1 k1 (((26 + (5 * v2)) + 4).toNatClampNeg)) ≤ (σ.1 203 v2.toNatClampNeg) then σ.1 203 v2.toNatClampNeg else σ.1 k1 (((26 + (5 * v2)) + 4).toNatClampNeg) : Int32) = w0 → PW x G 3 46 [(0, .ref (G.1 + 189)), (1, .ref (G.1 + k1)), (2, .int v2)] [.int w0, .int v2, .ref (G.1 + 203)] σ := by
      rintro _ rfl
      refine pw_iast C dX8_note_46 gk_203.1 gk_203.2 g2 ?_
      generalize hτ3 : gw_u σ 203 v2.toNatClampNeg (if (σ.1 k1 (((26 + (5 * v2)) + 4).toNatClampNeg)) ≤ (σ.1 203 v2.toNatClampNeg) then σ.1 203 v2.toNatClampNeg else σ.1 k1 (((26 + (5 * v2)) + 4).toNatClampNeg) : Int32) = τ3
      replace h := h τ3 hτ3.symm
      show PW x G 3 47 [(0, .ref (G.1 + 189)), (1, .ref (G.1 + k1)), (2, .int v2)] [] τ3
      refine pw_iinc (v := (v2 + 1)) (j := 2) C dX8_note_47 rfl rfl (by decide) rfl ?_
      refine pw_goto (tgt := 2) C dX8_note_50 (by decide) ?_
      exact pw_sub [1, 2, 0] rfl h
    clear h
    refine pw_icmp_le (tgt := 40) C dX8_note_27 (by decide) (fun q2 => ?_) (fun q2 => ?_)
    · refine pw_aload_n C dX8_note_40 rfl 0 rfl ?_
      refine pw_getr C dX8_note_41 gf_RX8_51 gk_189.1 gk_189.2 rfl ?_
      refine pw_iload_n C dX8_note_44 rfl 2 rfl ?_
      refine pw_iald C dX8_note_45 gk_203.1 gk_203.2 g2 ?_
      exact hJ (σ.1 203 v2.toNatClampNeg) (if_pos q2)
    · refine pw_aload_n C dX8_note_30 rfl 1 rfl ?_
      refine pw_iload_n C dX8_note_31 rfl 2 rfl ?_
      refine pw_iconst (v := 4) C dX8_note_32 (by decide) ?_
      refine pw_callS C dX8_note_33 (k_X8_wireAt v2 4 σ ) gm_X8_wireAt gl_RX8_73 rfl hR (by decide) (by decide) rfl (Nat.le_of_ble_eq_true rfl) ?_
      rintro _ _ ⟨_, rfl, rfl, rfl⟩
      show PW x G 3 36 [(0, .ref (G.1 + 189)), (1, .ref (G.1 + k1)), (2, .int v2)] [.int ((26 + (5 * v2)) + 4), .ref (G.1 + k1), .int v2, .ref (G.1 + 203)] σ
      refine pw_iald C dX8_note_36 hk1.1 hk1.2 g1 ?_
      refine pw_goto (tgt := 46) C dX8_note_37 (by decide) ?_
      exact hJ (σ.1 k1 (((26 + (5 * v2)) + 4).toNatClampNeg)) (if_neg q2)
set_option maxRecDepth 4000 in
theorem sg_X8_play_0 {x : gw_X} {G : gw_G} {Φ : gw_S → Prop} (C : XC x G RX8 cX8_play 6 none) (hR : gw_ok x 3) (hT : RT x G (fv Φ)) (k1 : Nat) (v2 : Int32) (hk1 : gw_ia k1 96) (σ : gw_S)
    (h : ∀ τ1 : gw_S, τ1 = gw_u σ 189 20 0 → (PW x G 6 7 [(0, .ref (G.1 + 189)), (1, .ref (G.1 + k1)), (2, .int v2), (3, .int 0)] [] τ1)) : PW x G 6 0 [(0, .ref (G.1 + 189)), (1, .ref (G.1 + k1)), (2, .int v2)] [] σ := by
  refine pw_aload_n C dX8_play_0 rfl 0 rfl ?_
  refine pw_iconst (v := 0) C dX8_play_1 (by decide) ?_
  refine pw_puti C dX8_play_2 gf_RX8_114 rfl rfl rfl gk_189.1 gk_189.2 rfl ?_
  generalize hτ1 : gw_u σ 189 20 0 = τ1
  replace h := h τ1 hτ1.symm
  show PW x G 6 5 [(0, .ref (G.1 + 189)), (1, .ref (G.1 + k1)), (2, .int v2)] [] τ1
  refine pw_iconst (v := 0) C dX8_play_5 (by decide) ?_
  refine pw_istore_n C dX8_play_6 rfl (by decide) rfl ?_
  exact pw_sub [1, 2, 3, 0] rfl h
set_option maxRecDepth 4000 in
theorem sg_X8_play_7 {x : gw_X} {G : gw_G} {Φ : gw_S → Prop} (C : XC x G RX8 cX8_play 6 none) (hR : gw_ok x 3) (hT : RT x G (fv Φ)) (k1 : Nat) (hk1 : gw_ia k1 96) (v2 : Int32) (v3 : Int32) (σ : gw_S)
    (h : (14 ≤ v3 → PW x G 6 28 [(0, .ref (G.1 + 189)), (1, .ref (G.1 + k1)), (2, .int v2), (3, .int 0)] [] σ) ∧ (¬ (14 ≤ v3) → vp_in v3 14 ∧ (∀ τ2 : gw_S, τ2 = gw_u σ 203 v3.toNatClampNeg 0 → (PW x G 6 7 [(0, .ref (G.1 + 189)), (1, .ref (G.1 + k1)), (2, .int v2), (3, .int (v3 + 1))] [] τ2)))) : PW x G 6 7 [(0, .ref (G.1 + 189)), (1, .ref (G.1 + k1)), (2, .int v2), (3, .int v3)] [] σ := by
  refine pw_iload_n C dX8_play_7 rfl 3 rfl ?_
  refine pw_bipush (v := 14) C dX8_play_8 (by decide) ?_
  refine pw_icmp_ge (tgt := 26) C dX8_play_10 (by decide) (fun q => ?_) (fun q => ?_)
  · replace h := h.1 q
    refine pw_iconst (v := 0) C dX8_play_26 (by decide) ?_
    refine pw_istore_n C dX8_play_27 rfl (by decide) rfl ?_
    exact pw_sub [1, 2, 3, 0] rfl h
  · replace h := h.2 q
    refine pw_aload_n C dX8_play_13 rfl 0 rfl ?_
    refine pw_getr C dX8_play_14 gf_RX8_51 gk_189.1 gk_189.2 rfl ?_
    refine pw_iload_n C dX8_play_17 rfl 3 rfl ?_
    refine pw_iconst (v := 0) C dX8_play_18 (by decide) ?_
    obtain ⟨g1, h⟩ := h
    refine pw_iast C dX8_play_19 gk_203.1 gk_203.2 g1 ?_
    generalize hτ2 : gw_u σ 203 v3.toNatClampNeg 0 = τ2
    replace h := h τ2 hτ2.symm
    show PW x G 6 20 [(0, .ref (G.1 + 189)), (1, .ref (G.1 + k1)), (2, .int v2), (3, .int v3)] [] τ2
    refine pw_iinc (v := (v3 + 1)) (j := 3) C dX8_play_20 rfl rfl (by decide) rfl ?_
    refine pw_goto (tgt := 7) C dX8_play_23 (by decide) ?_
    exact pw_sub [1, 2, 3, 0] rfl h
set_option maxRecDepth 4000 in
theorem sg_X8_play_28 {x : gw_X} {G : gw_G} {Φ : gw_S → Prop} (C : XC x G RX8 cX8_play 6 none) (hR : gw_ok x 3) (hT : RT x G (fv Φ)) (k1 : Nat) (hk1 : gw_ia k1 96) (v2 : Int32) (v3 : Int32) (σ : gw_S)
    (h : (8 ≤ v3 → ∃ Φ1 : gw_S → Prop, gw_M (xl x) G yX8_note cX8_note 3 none 1 [.ref (G.1 + 189), .ref (G.1 + k1)] σ (fv Φ1) ∧ ∀ (τ2 : gw_S), Φ1 τ2 → (∃ Φ3 : Int32 → gw_S → Prop, gw_M (xl x) G yX8_choice cX8_choice 10 (some .int) 2 [.ref (G.1 + 189), .ref (G.1 + k1), .int v2, .int (-1)] τ2 (fi Φ3) ∧ ∀ (r5 : Int32) (τ4 : gw_S), Φ3 r5 τ4 → (PW x G 6 63 [(0, .ref (G.1 + 189)), (1, .ref (G.1 + k1)), (2, .int v2), (3, .int (-1)), (4, .int r5)] [] τ4))) ∧ (¬ (8 ≤ v3) → vp_in v3 8 ∧ (∀ τ7 : gw_S, τ7 = gw_u σ 201 v3.toNatClampNeg 0 → (PW x G 6 28 [(0, .ref (G.1 + 189)), (1, .ref (G.1 + k1)), (2, .int v2), (3, .int (v3 + 1))] [] τ7)))) : PW x G 6 28 [(0, .ref (G.1 + 189)), (1, .ref (G.1 + k1)), (2, .int v2), (3, .int v3)] [] σ := by
  refine pw_iload_n C dX8_play_28 rfl 3 rfl ?_
  refine pw_bipush (v := 8) C dX8_play_29 (by decide) ?_
  refine pw_icmp_ge (tgt := 47) C dX8_play_31 (by decide) (fun q => ?_) (fun q => ?_)
  · replace h := h.1 q
    refine pw_aload_n C dX8_play_47 rfl 0 rfl ?_
    refine pw_aload_n C dX8_play_48 rfl 1 rfl ?_
    obtain ⟨Φ1, hM, h⟩ := h
    refine pw_callV C dX8_play_49 hM gm_X8_note gl_RX8_117 rfl hR (by decide) (by decide) (by decide) rfl gk_189.1 gk_189.2 rfl (Nat.le_of_ble_eq_true rfl) ?_
    rintro _ τ2 ⟨rfl, hv⟩
    replace h := h τ2 hv
    show PW x G 6 52 [(0, .ref (G.1 + 189)), (1, .ref (G.1 + k1)), (2, .int v2), (3, .int v3)] [] τ2
    refine pw_iconst (v := (-1)) C dX8_play_52 (by decide) ?_
    refine pw_istore_n C dX8_play_53 rfl (by decide) rfl ?_
    refine pw_aload_n C dX8_play_54 rfl 1 rfl ?_
    refine pw_aload_n C dX8_play_55 rfl 2 rfl ?_
    refine pw_iload_n C dX8_play_56 rfl 3 rfl ?_
    refine pw_iload_n C dX8_play_57 rfl 0 rfl ?_
    obtain ⟨Φ3, hM, h⟩ := h
    refine pw_callV C dX8_play_58 hM gm_X8_choice gl_RX8_120 rfl hR (by decide) (by decide) (by decide) rfl gk_189.1 gk_189.2 rfl (Nat.le_of_ble_eq_true rfl) ?_
    rintro _ τ4 ⟨r5, rfl, hv⟩
    replace h := h r5 τ4 hv
    show PW x G 6 61 [(3, .int (-1)), (0, .ref (G.1 + 189)), (1, .ref (G.1 + k1)), (2, .int v2)] [.int r5] τ4
    refine pw_istore C dX8_play_61 (by decide) rfl ?_
    exact pw_sub [2, 3, 4, 1, 0] rfl h
  · replace h := h.2 q
    refine pw_aload_n C dX8_play_34 rfl 0 rfl ?_
    refine pw_getr C dX8_play_35 gf_RX8_45 gk_189.1 gk_189.2 rfl ?_
    refine pw_iload_n C dX8_play_38 rfl 3 rfl ?_
    refine pw_iconst (v := 0) C dX8_play_39 (by decide) ?_
    obtain ⟨g6, h⟩ := h
    refine pw_iast C dX8_play_40 gk_201.1 gk_201.2 g6 ?_
    generalize hτ7 : gw_u σ 201 v3.toNatClampNeg 0 = τ7
    replace h := h τ7 hτ7.symm
    show PW x G 6 41 [(0, .ref (G.1 + 189)), (1, .ref (G.1 + k1)), (2, .int v2), (3, .int v3)] [] τ7
    refine pw_iinc (v := (v3 + 1)) (j := 3) C dX8_play_41 rfl rfl (by decide) rfl ?_
    refine pw_goto (tgt := 28) C dX8_play_44 (by decide) ?_
    exact pw_sub [1, 2, 3, 0] rfl h
set_option maxRecDepth 4000 in
theorem sg_X8_play_63 {x : gw_X} {G : gw_G} {Φ : gw_S → Prop} (C : XC x G RX8 cX8_play 6 none) (hR : gw_ok x 3) (hT : RT x G (fv Φ)) (k1 : Nat) (hk1 : gw_ia k1 96) (v2 : Int32) (v3 : Int32) (v4 : Int32) (σ : gw_S)
    (h : (v4 = (-1) → ∀ τ1 : gw_S, τ1 = gw_u σ 189 22 1 → (PW x G 6 135 [(0, .ref (G.1 + 189)), (1, .ref (G.1 + k1)), (2, .int v2), (3, .int v3), (4, .int v4), (5, .int 0)] [] τ1)) ∧ (¬ (v4 = (-1)) → ∃ Φ2 : gw_S → Prop, gw_M (xl x) G yX8_workIn cX8_workIn 3 none 1 [.ref (G.1 + k1), .int v4] σ (fv Φ2) ∧ ∀ (τ3 : gw_S), Φ2 τ3 → (vp_in v4 8 ∧ (∀ τ5 : gw_S, τ5 = gw_u τ3 201 v4.toNatClampNeg ((τ3.1 201 v4.toNatClampNeg) + 1) → (vp_in (τ5.1 189 20) 480 ∧ (∀ τ7 : gw_S, τ7 = gw_u τ5 202 ((τ5.1 189 20).toNatClampNeg) v4 → (∀ τ8 : gw_S, τ8 = gw_u τ7 189 20 ((τ7.1 189 20) + 1) → (∃ Φ9 : gw_S → Prop, gw_M (xl x) G yX8_note cX8_note 3 none 1 [.ref (G.1 + 189), .ref (G.1 + k1)] τ8 (fv Φ9) ∧ ∀ (τ10 : gw_S), Φ9 τ10 → (∃ Φ11 : Int32 → gw_S → Prop, gw_M (xl x) G yX8_choice cX8_choice 10 (some .int) 2 [.ref (G.1 + 189), .ref (G.1 + k1), .int v2, .int v4] τ10 (fi Φ11) ∧ ∀ (r13 : Int32) (τ12 : gw_S), Φ11 r13 τ12 → (PW x G 6 63 [(0, .ref (G.1 + 189)), (1, .ref (G.1 + k1)), (2, .int v2), (3, .int v4), (4, .int r13)] [] τ12)))))))))) : PW x G 6 63 [(0, .ref (G.1 + 189)), (1, .ref (G.1 + k1)), (2, .int v2), (3, .int v3), (4, .int v4)] [] σ := by
  refine pw_iload C dX8_play_63 4 rfl ?_
  refine pw_iconst (v := (-1)) C dX8_play_65 (by decide) ?_
  refine pw_icmp_eq (tgt := 127) C dX8_play_66 (by decide) (fun q => ?_) (fun q => ?_)
  · replace h := h.1 q
    refine pw_aload_n C dX8_play_127 rfl 0 rfl ?_
    refine pw_iconst (v := 1) C dX8_play_128 (by decide) ?_
    refine pw_puti C dX8_play_129 gf_RX8_127 rfl rfl rfl gk_189.1 gk_189.2 rfl ?_
    generalize hτ1 : gw_u σ 189 22 1 = τ1
    replace h := h τ1 hτ1.symm
    show PW x G 6 132 [(0, .ref (G.1 + 189)), (1, .ref (G.1 + k1)), (2, .int v2), (3, .int v3), (4, .int v4)] [] τ1
    refine pw_iconst (v := 0) C dX8_play_132 (by decide) ?_
    refine pw_istore C dX8_play_133 (by decide) rfl ?_
    exact pw_sub [1, 2, 3, 4, 5, 0] rfl h
  · replace h := h.2 q
    refine pw_aload_n C dX8_play_69 rfl 1 rfl ?_
    refine pw_iload C dX8_play_70 4 rfl ?_
    obtain ⟨Φ2, hM, h⟩ := h
    refine pw_callS C dX8_play_72 hM gm_X8_workIn gl_RX8_124 rfl hR (by decide) (by decide) rfl (Nat.le_of_ble_eq_true rfl) ?_
    rintro _ τ3 ⟨rfl, hv⟩
    replace h := h τ3 hv
    show PW x G 6 75 [(0, .ref (G.1 + 189)), (1, .ref (G.1 + k1)), (2, .int v2), (3, .int v3), (4, .int v4)] [] τ3
    refine pw_aload_n C dX8_play_75 rfl 0 rfl ?_
    refine pw_getr C dX8_play_76 gf_RX8_45 gk_189.1 gk_189.2 rfl ?_
    refine pw_iload C dX8_play_79 4 rfl ?_
    refine pw_dup2 C dX8_play_81 rfl rfl ?_
    obtain ⟨g4, h⟩ := h
    refine pw_iald C dX8_play_82 gk_201.1 gk_201.2 g4 ?_
    refine pw_iconst (v := 1) C dX8_play_83 (by decide) ?_
    refine pw_iadd C dX8_play_84 ?_
    refine pw_iast C dX8_play_85 gk_201.1 gk_201.2 g4 ?_
    generalize hτ5 : gw_u τ3 201 v4.toNatClampNeg ((τ3.1 201 v4.toNatClampNeg) + 1) = τ5
    replace h := h τ5 hτ5.symm
    show PW x G 6 86 [(0, .ref (G.1 + 189)), (1, .ref (G.1 + k1)), (2, .int v2), (3, .int v3), (4, .int v4)] [] τ5
    refine pw_aload_n C dX8_play_86 rfl 0 rfl ?_
    refine pw_getr C dX8_play_87 gf_RX8_48 gk_189.1 gk_189.2 rfl ?_
    refine pw_aload_n C dX8_play_90 rfl 0 rfl ?_
    refine pw_geti C dX8_play_91 gf_RX8_114 gk_189.1 gk_189.2 rfl ?_
    refine pw_iload C dX8_play_94 4 rfl ?_
    obtain ⟨g6, h⟩ := h
    refine pw_iast C dX8_play_96 gk_202.1 gk_202.2 g6 ?_
    generalize hτ7 : gw_u τ5 202 ((τ5.1 189 20).toNatClampNeg) v4 = τ7
    replace h := h τ7 hτ7.symm
    show PW x G 6 97 [(0, .ref (G.1 + 189)), (1, .ref (G.1 + k1)), (2, .int v2), (3, .int v3), (4, .int v4)] [] τ7
    refine pw_aload_n C dX8_play_97 rfl 0 rfl ?_
    refine pw_dup C dX8_play_98 rfl ?_
    refine pw_geti C dX8_play_99 gf_RX8_114 gk_189.1 gk_189.2 rfl ?_
    refine pw_iconst (v := 1) C dX8_play_102 (by decide) ?_
    refine pw_iadd C dX8_play_103 ?_
    refine pw_puti C dX8_play_104 gf_RX8_114 rfl rfl rfl gk_189.1 gk_189.2 rfl ?_
    generalize hτ8 : gw_u τ7 189 20 ((τ7.1 189 20) + 1) = τ8
    replace h := h τ8 hτ8.symm
    show PW x G 6 107 [(0, .ref (G.1 + 189)), (1, .ref (G.1 + k1)), (2, .int v2), (3, .int v3), (4, .int v4)] [] τ8
    refine pw_aload_n C dX8_play_107 rfl 0 rfl ?_
    refine pw_aload_n C dX8_play_108 rfl 1 rfl ?_
    obtain ⟨Φ9, hM, h⟩ := h
    refine pw_callV C dX8_play_109 hM gm_X8_note gl_RX8_117 rfl hR (by decide) (by decide) (by decide) rfl gk_189.1 gk_189.2 rfl (Nat.le_of_ble_eq_true rfl) ?_
    rintro _ τ10 ⟨rfl, hv⟩
    replace h := h τ10 hv
    show PW x G 6 112 [(0, .ref (G.1 + 189)), (1, .ref (G.1 + k1)), (2, .int v2), (3, .int v3), (4, .int v4)] [] τ10
    refine pw_iload C dX8_play_112 4 rfl ?_
    refine pw_istore_n C dX8_play_114 rfl (by decide) rfl ?_
    refine pw_aload_n C dX8_play_115 rfl 1 rfl ?_
    refine pw_aload_n C dX8_play_116 rfl 2 rfl ?_
    refine pw_iload_n C dX8_play_117 rfl 3 rfl ?_
    refine pw_iload_n C dX8_play_118 rfl 0 rfl ?_
    obtain ⟨Φ11, hM, h⟩ := h
    refine pw_callV C dX8_play_119 hM gm_X8_choice gl_RX8_120 rfl hR (by decide) (by decide) (by decide) rfl gk_189.1 gk_189.2 rfl (Nat.le_of_ble_eq_true rfl) ?_
    rintro _ τ12 ⟨r13, rfl, hv⟩
    replace h := h r13 τ12 hv
    show PW x G 6 122 [(3, .int v4), (0, .ref (G.1 + 189)), (1, .ref (G.1 + k1)), (2, .int v2), (4, .int v4)] [.int r13] τ12
    refine pw_istore C dX8_play_122 (by decide) rfl ?_
    refine pw_goto (tgt := 63) C dX8_play_124 (by decide) ?_
    exact pw_sub [2, 3, 4, 1, 0] rfl h
set_option maxRecDepth 4000 in
theorem sg_X8_play_135 {x : gw_X} {G : gw_G} {Φ : gw_S → Prop} (C : XC x G RX8 cX8_play 6 none) (hR : gw_ok x 3) (hT : RT x G (fv Φ)) (k1 : Nat) (hk1 : gw_ia k1 96) (v2 : Int32) (v3 : Int32) (v4 : Int32) (v5 : Int32) (σ : gw_S)
    (h : ((σ.1 k1 ((0 : Int32).toNatClampNeg)) ≤ v5 → Φ σ) ∧ (¬ ((σ.1 k1 ((0 : Int32).toNatClampNeg)) ≤ v5) → (((σ.1 189 22) = 0 → True) ∧ (¬ ((σ.1 189 22) = 0) → vp_in v5 8 ∧ (True))) ∧ (∀ τ2 : gw_S, τ2 = gw_u σ 189 22 (gz (if (σ.1 189 22) = 0 then false else (if (σ.1 201 v5.toNatClampNeg) = (σ.1 197 v5.toNatClampNeg) then true else false : Bool) : Bool)) → (PW x G 6 135 [(0, .ref (G.1 + 189)), (1, .ref (G.1 + k1)), (2, .int v2), (3, .int v3), (4, .int v4), (5, .int (v5 + 1))] [] τ2)))) : PW x G 6 135 [(0, .ref (G.1 + 189)), (1, .ref (G.1 + k1)), (2, .int v2), (3, .int v3), (4, .int v4), (5, .int v5)] [] σ := by
  refine pw_iload C dX8_play_135 5 rfl ?_
  refine pw_aload_n C dX8_play_137 rfl 1 rfl ?_
  refine pw_iconst (v := 0) C dX8_play_138 (by decide) ?_
  refine pw_iald C dX8_play_139 hk1.1 hk1.2 (by show ¬ (_ ∨ _); decide) ?_
  refine pw_icmp_ge (tgt := 182) C dX8_play_140 (by decide) (fun q => ?_) (fun q => ?_)
  · replace h := h.1 q
    exact pw_vret C hT dX8_play_182 h
  · replace h := h.2 q
    refine pw_aload_n C dX8_play_143 rfl 0 rfl ?_
    refine pw_aload_n C dX8_play_144 rfl 0 rfl ?_
    refine pw_geti C dX8_play_145 gf_RX8_127 gk_189.1 gk_189.2 rfl ?_
    obtain ⟨hs, h⟩ := h
    have hJ : ∀ w0 : Bool, (if (σ.1 189 22) = 0 then false else (if (σ.1 201 v5.toNatClampNeg) = (σ.1 197 v5.toNatClampNeg) then true else false : Bool) : Bool) = w0 → PW x G 6 173 [(0, .ref (G.1 + 189)), (1, .ref (G.1 + k1)), (2, .int v2), (3, .int v3), (4, .int v4), (5, .int v5)] [.int (gz w0), .ref (G.1 + 189)] σ := by
      rintro _ rfl
      refine pw_puti C dX8_play_173 gf_RX8_127 rfl (gz_n _) (gz_fit _) gk_189.1 gk_189.2 rfl ?_
      generalize hτ2 : gw_u σ 189 22 (gz (if (σ.1 189 22) = 0 then false else (if (σ.1 201 v5.toNatClampNeg) = (σ.1 197 v5.toNatClampNeg) then true else false : Bool) : Bool)) = τ2
      replace h := h τ2 hτ2.symm
      show PW x G 6 176 [(0, .ref (G.1 + 189)), (1, .ref (G.1 + k1)), (2, .int v2), (3, .int v3), (4, .int v4), (5, .int v5)] [] τ2
      refine pw_iinc (v := (v5 + 1)) (j := 5) C dX8_play_176 rfl rfl (by decide) rfl ?_
      refine pw_goto (tgt := 135) C dX8_play_179 (by decide) ?_
      exact pw_sub [1, 2, 3, 4, 5, 0] rfl h
    clear h
    refine pw_if_eq (tgt := 172) C dX8_play_148 (by decide) (fun q2 => ?_) (fun q2 => ?_)
    · replace hs := hs.1 q2
      refine pw_iconst (v := 0) C dX8_play_172 (by decide) ?_
      exact hJ false (if_pos q2)
    · replace hs := hs.2 q2
      refine pw_aload_n C dX8_play_151 rfl 0 rfl ?_
      refine pw_getr C dX8_play_152 gf_RX8_45 gk_189.1 gk_189.2 rfl ?_
      refine pw_iload C dX8_play_155 5 rfl ?_
      obtain ⟨g1, hs⟩ := hs
      refine pw_iald C dX8_play_157 gk_201.1 gk_201.2 g1 ?_
      refine pw_aload_n C dX8_play_158 rfl 0 rfl ?_
      refine pw_getr C dX8_play_159 gf_RX8_32 gk_189.1 gk_189.2 rfl ?_
      refine pw_iload C dX8_play_162 5 rfl ?_
      refine pw_iald C dX8_play_164 gk_197.1 gk_197.2 g1 ?_
      refine pw_icmp_ne (tgt := 172) C dX8_play_165 (by decide) (fun q3 => ?_) (fun q3 => ?_)
      · refine pw_iconst (v := 0) C dX8_play_172 (by decide) ?_
        exact hJ false ((if_neg q2).trans (if_neg q3))
      · refine pw_iconst (v := 1) C dX8_play_168 (by decide) ?_
        refine pw_goto (tgt := 173) C dX8_play_169 (by decide) ?_
        exact hJ true ((if_neg q2).trans (if_pos q3))
set_option maxRecDepth 4000 in
theorem sg_X8_tryRound_0 {x : gw_X} {G : gw_G} {Φ : Bool → gw_S → Prop} (C : XC x G RX8 cX8_tryRound 3 (some .boolean)) (hR : gw_ok x 5) (hT : RT x G (fz Φ)) (v1 : Int32) (σ : gw_S)
    (h : ∃ Φ1 : gw_S → Prop, gw_M (xl x) G yX8_tryIt cX8_tryIt 1 none 1 [.ref (G.1 + 189)] σ (fv Φ1) ∧ ∀ (τ2 : gw_S), Φ1 τ2 → (∃ Φ3 : Bool → gw_S → Prop, gw_M (xl x) G yX8_layWorks cX8_layWorks 11 (some .boolean) 4 [.ref (G.1 + 189), .ref (G.1 + 193)] τ2 (fz Φ3) ∧ ∀ (r5 : Bool) (τ4 : gw_S), Φ3 r5 τ4 → ((r5 = false → Φ r5 τ4) ∧ (¬ (r5 = false) → ∃ Φ6 : gw_S → Prop, gw_M (xl x) G yX8_play cX8_play 6 none 3 [.ref (G.1 + 189), .ref (G.1 + 193), .int v1] τ4 (fv Φ6) ∧ ∀ (τ7 : gw_S), Φ6 τ7 → (Φ r5 τ7))))) : PW x G 3 0 [(0, .ref (G.1 + 189)), (1, .int v1)] [] σ := by
  refine pw_aload_n C dX8_tryRound_0 rfl 0 rfl ?_
  obtain ⟨Φ1, hM, h⟩ := h
  refine pw_callV C dX8_tryRound_1 hM gm_X8_tryIt gl_RX8_131 rfl hR (by decide) (by decide) (by decide) rfl gk_189.1 gk_189.2 rfl (Nat.le_of_ble_eq_true rfl) ?_
  rintro _ τ2 ⟨rfl, hv⟩
  replace h := h τ2 hv
  show PW x G 3 4 [(0, .ref (G.1 + 189)), (1, .int v1)] [] τ2
  refine pw_aload_n C dX8_tryRound_4 rfl 0 rfl ?_
  refine pw_aload_n C dX8_tryRound_5 rfl 0 rfl ?_
  refine pw_getr C dX8_tryRound_6 gf_RX8_19 gk_189.1 gk_189.2 rfl ?_
  obtain ⟨Φ3, hM, h⟩ := h
  refine pw_callV C dX8_tryRound_9 hM gm_X8_layWorks gl_RX8_134 rfl hR (by decide) (by decide) (by decide) rfl gk_189.1 gk_189.2 rfl (Nat.le_of_ble_eq_true rfl) ?_
  rintro _ τ4 ⟨r5, rfl, hv⟩
  replace h := h r5 τ4 hv
  show PW x G 3 12 [(0, .ref (G.1 + 189)), (1, .int v1)] [.int (gz r5)] τ4
  refine pw_istore_n C dX8_tryRound_12 rfl (by decide) rfl ?_
  refine pw_iload_n C dX8_tryRound_13 rfl 0 rfl ?_
  refine pw_z_eq (tgt := 26) C dX8_tryRound_14 (by decide) (fun q => ?_) (fun q => ?_)
  · replace h := h.1 q
    refine pw_iload_n C dX8_tryRound_26 rfl 0 rfl ?_
    exact pw_zret (b := r5) C hT dX8_tryRound_27 h
  · replace h := h.2 q
    refine pw_aload_n C dX8_tryRound_17 rfl 1 rfl ?_
    refine pw_aload_n C dX8_tryRound_18 rfl 1 rfl ?_
    refine pw_getr C dX8_tryRound_19 gf_RX8_19 gk_189.1 gk_189.2 rfl ?_
    refine pw_iload_n C dX8_tryRound_22 rfl 2 rfl ?_
    obtain ⟨Φ6, hM, h⟩ := h
    refine pw_callV C dX8_tryRound_23 hM gm_X8_play gl_RX8_138 rfl hR (by decide) (by decide) (by decide) rfl gk_189.1 gk_189.2 rfl (Nat.le_of_ble_eq_true rfl) ?_
    rintro _ τ7 ⟨rfl, hv⟩
    replace h := h τ7 hv
    show PW x G 3 26 [(2, .int (gz r5)), (0, .ref (G.1 + 189)), (1, .int v1)] [] τ7
    refine pw_iload_n C dX8_tryRound_26 rfl 0 rfl ?_
    exact pw_zret (b := r5) C hT dX8_tryRound_27 h
set_option maxRecDepth 4000 in
theorem sg_X8_cutIn_0 {x : gw_X} {G : gw_G} {Φ : gw_S → Prop} (C : XC x G RX8 cX8_cutIn 2 none) (hR : gw_ok x 1) (hT : RT x G (fv Φ)) (k0 : Nat) (v1 : Int32) (hk0 : gw_ia k0 96) (σ : gw_S)
    (h : ∃ Φ1 : gw_S → Prop, gw_M (xl x) G yX8_copy cX8_copy 6 none 0 [.ref (G.1 + k0), .int ((26 + (5 * (v1 + 1))) + 0), .ref (G.1 + k0), .int ((26 + (5 * v1)) + 0), .int (5 * (((σ.1 k0 ((1 : Int32).toNatClampNeg)) - 1) - v1))] σ (fv Φ1) ∧ ∀ (τ2 : gw_S), Φ1 τ2 → (∀ τ3 : gw_S, τ3 = gw_u τ2 k0 ((1 : Int32).toNatClampNeg) ((τ2.1 k0 ((1 : Int32).toNatClampNeg)) - 1) → (Φ τ3))) : PW x G 2 0 [(0, .ref (G.1 + k0)), (1, .int v1)] [] σ := by
  refine pw_aload_n C dX8_cutIn_0 rfl 0 rfl ?_
  refine pw_iload_n C dX8_cutIn_1 rfl 1 rfl ?_
  refine pw_iconst (v := 1) C dX8_cutIn_2 (by decide) ?_
  refine pw_iadd C dX8_cutIn_3 ?_
  refine pw_iconst (v := 0) C dX8_cutIn_4 (by decide) ?_
  refine pw_callS C dX8_cutIn_5 (k_X8_wireAt (v1 + 1) 0 σ ) gm_X8_wireAt gl_RX8_73 rfl hR (by decide) (by decide) rfl (Nat.le_of_ble_eq_true rfl) ?_
  rintro _ _ ⟨_, rfl, rfl, rfl⟩
  show PW x G 2 8 [(0, .ref (G.1 + k0)), (1, .int v1)] [.int ((26 + (5 * (v1 + 1))) + 0), .ref (G.1 + k0)] σ
  refine pw_aload_n C dX8_cutIn_8 rfl 0 rfl ?_
  refine pw_iload_n C dX8_cutIn_9 rfl 1 rfl ?_
  refine pw_iconst (v := 0) C dX8_cutIn_10 (by decide) ?_
  refine pw_callS C dX8_cutIn_11 (k_X8_wireAt v1 0 σ ) gm_X8_wireAt gl_RX8_73 rfl hR (by decide) (by decide) rfl (Nat.le_of_ble_eq_true rfl) ?_
  rintro _ _ ⟨_, rfl, rfl, rfl⟩
  show PW x G 2 14 [(0, .ref (G.1 + k0)), (1, .int v1)] [.int ((26 + (5 * v1)) + 0), .ref (G.1 + k0), .int ((26 + (5 * (v1 + 1))) + 0), .ref (G.1 + k0)] σ
  refine pw_iconst (v := 5) C dX8_cutIn_14 (by decide) ?_
  refine pw_aload_n C dX8_cutIn_15 rfl 0 rfl ?_
  refine pw_iconst (v := 1) C dX8_cutIn_16 (by decide) ?_
  refine pw_iald C dX8_cutIn_17 hk0.1 hk0.2 (by show ¬ (_ ∨ _); decide) ?_
  refine pw_iconst (v := 1) C dX8_cutIn_18 (by decide) ?_
  refine pw_isub C dX8_cutIn_19 ?_
  refine pw_iload_n C dX8_cutIn_20 rfl 1 rfl ?_
  refine pw_isub C dX8_cutIn_21 ?_
  refine pw_imul C dX8_cutIn_22 ?_
  obtain ⟨Φ1, hM, h⟩ := h
  refine pw_callS C dX8_cutIn_23 hM gm_X8_copy gl_RX8_69 rfl hR (by decide) (by decide) rfl (Nat.le_of_ble_eq_true rfl) ?_
  rintro _ τ2 ⟨rfl, hv⟩
  replace h := h τ2 hv
  show PW x G 2 26 [(0, .ref (G.1 + k0)), (1, .int v1)] [] τ2
  refine pw_aload_n C dX8_cutIn_26 rfl 0 rfl ?_
  refine pw_iconst (v := 1) C dX8_cutIn_27 (by decide) ?_
  refine pw_dup2 C dX8_cutIn_28 rfl rfl ?_
  refine pw_iald C dX8_cutIn_29 hk0.1 hk0.2 (by show ¬ (_ ∨ _); decide) ?_
  refine pw_iconst (v := 1) C dX8_cutIn_30 (by decide) ?_
  refine pw_isub C dX8_cutIn_31 ?_
  refine pw_iast C dX8_cutIn_32 hk0.1 hk0.2 (by show ¬ (_ ∨ _); decide) ?_
  generalize hτ3 : gw_u τ2 k0 ((1 : Int32).toNatClampNeg) ((τ2.1 k0 ((1 : Int32).toNatClampNeg)) - 1) = τ3
  replace h := h τ3 hτ3.symm
  show PW x G 2 33 [(0, .ref (G.1 + k0)), (1, .int v1)] [] τ3
  exact pw_vret C hT dX8_cutIn_33 h
set_option maxRecDepth 4000 in
theorem sg_X8_add_0 {x : gw_X} {G : gw_G} {Φ : gw_S → Prop} (C : XC x G RX8 cX8_add 4 none) (hR : gw_ok x 1) (hT : RT x G (fv Φ)) (k0 : Nat) (v1 : Int32) (v2 : Int32) (hk0 : gw_ia k0 96) (σ : gw_S)
    (h : vp_in ((2 + (3 * (σ.1 k0 ((0 : Int32).toNatClampNeg)))) + 0) 96 ∧ (∀ τ2 : gw_S, τ2 = gw_u σ k0 (((2 + (3 * (σ.1 k0 ((0 : Int32).toNatClampNeg)))) + 0).toNatClampNeg) v1 → (vp_in ((2 + (3 * (σ.1 k0 ((0 : Int32).toNatClampNeg)))) + 1) 96 ∧ (∀ τ4 : gw_S, τ4 = gw_u τ2 k0 (((2 + (3 * (σ.1 k0 ((0 : Int32).toNatClampNeg)))) + 1).toNatClampNeg) v2 → (vp_in ((2 + (3 * (σ.1 k0 ((0 : Int32).toNatClampNeg)))) + 2) 96 ∧ (∀ τ6 : gw_S, τ6 = gw_u τ4 k0 (((2 + (3 * (σ.1 k0 ((0 : Int32).toNatClampNeg)))) + 2).toNatClampNeg) 0 → (∀ τ7 : gw_S, τ7 = gw_u τ6 k0 ((0 : Int32).toNatClampNeg) ((τ6.1 k0 ((0 : Int32).toNatClampNeg)) + 1) → (Φ τ7)))))))) : PW x G 4 0 [(0, .ref (G.1 + k0)), (1, .int v1), (2, .int v2)] [] σ := by
  refine pw_aload_n C dX8_add_0 rfl 0 rfl ?_
  refine pw_iconst (v := 0) C dX8_add_1 (by decide) ?_
  refine pw_iald C dX8_add_2 hk0.1 hk0.2 (by show ¬ (_ ∨ _); decide) ?_
  refine pw_istore_n C dX8_add_3 rfl (by decide) rfl ?_
  refine pw_aload_n C dX8_add_4 rfl 1 rfl ?_
  refine pw_iload_n C dX8_add_5 rfl 0 rfl ?_
  refine pw_iconst (v := 0) C dX8_add_6 (by decide) ?_
  refine pw_callS C dX8_add_7 (k_X8_moduleAt (σ.1 k0 ((0 : Int32).toNatClampNeg)) 0 σ ) gm_X8_moduleAt gl_RX8_77 rfl hR (by decide) (by decide) rfl (Nat.le_of_ble_eq_true rfl) ?_
  rintro _ _ ⟨_, rfl, rfl, rfl⟩
  show PW x G 4 10 [(3, .int (σ.1 k0 ((0 : Int32).toNatClampNeg))), (0, .ref (G.1 + k0)), (1, .int v1), (2, .int v2)] [.int ((2 + (3 * (σ.1 k0 ((0 : Int32).toNatClampNeg)))) + 0), .ref (G.1 + k0)] σ
  refine pw_iload_n C dX8_add_10 rfl 2 rfl ?_
  obtain ⟨g1, h⟩ := h
  refine pw_iast C dX8_add_11 hk0.1 hk0.2 g1 ?_
  generalize hτ2 : gw_u σ k0 (((2 + (3 * (σ.1 k0 ((0 : Int32).toNatClampNeg)))) + 0).toNatClampNeg) v1 = τ2
  replace h := h τ2 hτ2.symm
  show PW x G 4 12 [(3, .int (σ.1 k0 ((0 : Int32).toNatClampNeg))), (0, .ref (G.1 + k0)), (1, .int v1), (2, .int v2)] [] τ2
  refine pw_aload_n C dX8_add_12 rfl 1 rfl ?_
  refine pw_iload_n C dX8_add_13 rfl 0 rfl ?_
  refine pw_iconst (v := 1) C dX8_add_14 (by decide) ?_
  refine pw_callS C dX8_add_15 (k_X8_moduleAt (σ.1 k0 ((0 : Int32).toNatClampNeg)) 1 τ2 ) gm_X8_moduleAt gl_RX8_77 rfl hR (by decide) (by decide) rfl (Nat.le_of_ble_eq_true rfl) ?_
  rintro _ _ ⟨_, rfl, rfl, rfl⟩
  show PW x G 4 18 [(3, .int (σ.1 k0 ((0 : Int32).toNatClampNeg))), (0, .ref (G.1 + k0)), (1, .int v1), (2, .int v2)] [.int ((2 + (3 * (σ.1 k0 ((0 : Int32).toNatClampNeg)))) + 1), .ref (G.1 + k0)] τ2
  refine pw_iload_n C dX8_add_18 rfl 3 rfl ?_
  obtain ⟨g3, h⟩ := h
  refine pw_iast C dX8_add_19 hk0.1 hk0.2 g3 ?_
  generalize hτ4 : gw_u τ2 k0 (((2 + (3 * (σ.1 k0 ((0 : Int32).toNatClampNeg)))) + 1).toNatClampNeg) v2 = τ4
  replace h := h τ4 hτ4.symm
  show PW x G 4 20 [(3, .int (σ.1 k0 ((0 : Int32).toNatClampNeg))), (0, .ref (G.1 + k0)), (1, .int v1), (2, .int v2)] [] τ4
  refine pw_aload_n C dX8_add_20 rfl 1 rfl ?_
  refine pw_iload_n C dX8_add_21 rfl 0 rfl ?_
  refine pw_iconst (v := 2) C dX8_add_22 (by decide) ?_
  refine pw_callS C dX8_add_23 (k_X8_moduleAt (σ.1 k0 ((0 : Int32).toNatClampNeg)) 2 τ4 ) gm_X8_moduleAt gl_RX8_77 rfl hR (by decide) (by decide) rfl (Nat.le_of_ble_eq_true rfl) ?_
  rintro _ _ ⟨_, rfl, rfl, rfl⟩
  show PW x G 4 26 [(3, .int (σ.1 k0 ((0 : Int32).toNatClampNeg))), (0, .ref (G.1 + k0)), (1, .int v1), (2, .int v2)] [.int ((2 + (3 * (σ.1 k0 ((0 : Int32).toNatClampNeg)))) + 2), .ref (G.1 + k0)] τ4
  refine pw_iconst (v := 0) C dX8_add_26 (by decide) ?_
  obtain ⟨g5, h⟩ := h
  refine pw_iast C dX8_add_27 hk0.1 hk0.2 g5 ?_
  generalize hτ6 : gw_u τ4 k0 (((2 + (3 * (σ.1 k0 ((0 : Int32).toNatClampNeg)))) + 2).toNatClampNeg) 0 = τ6
  replace h := h τ6 hτ6.symm
  show PW x G 4 28 [(3, .int (σ.1 k0 ((0 : Int32).toNatClampNeg))), (0, .ref (G.1 + k0)), (1, .int v1), (2, .int v2)] [] τ6
  refine pw_aload_n C dX8_add_28 rfl 1 rfl ?_
  refine pw_iconst (v := 0) C dX8_add_29 (by decide) ?_
  refine pw_dup2 C dX8_add_30 rfl rfl ?_
  refine pw_iald C dX8_add_31 hk0.1 hk0.2 (by show ¬ (_ ∨ _); decide) ?_
  refine pw_iconst (v := 1) C dX8_add_32 (by decide) ?_
  refine pw_iadd C dX8_add_33 ?_
  refine pw_iast C dX8_add_34 hk0.1 hk0.2 (by show ¬ (_ ∨ _); decide) ?_
  generalize hτ7 : gw_u τ6 k0 ((0 : Int32).toNatClampNeg) ((τ6.1 k0 ((0 : Int32).toNatClampNeg)) + 1) = τ7
  replace h := h τ7 hτ7.symm
  show PW x G 4 35 [(3, .int (σ.1 k0 ((0 : Int32).toNatClampNeg))), (0, .ref (G.1 + k0)), (1, .int v1), (2, .int v2)] [] τ7
  exact pw_vret C hT dX8_add_35 h
set_option maxRecDepth 4000 in
theorem sg_X8_canLay_0 {x : gw_X} {G : gw_G} {Φ : Bool → gw_S → Prop} (C : XC x G RX8 cX8_canLay 5 (some .boolean)) (hR : gw_ok x 3) (hT : RT x G (fz Φ)) (k1 : Nat) (v2 : Int32) (v3 : Int32) (v4 : Int32) (hk1 : gw_ia k1 96) (σ : gw_S)
    (h : vp_in ((2 + (3 * v2)) + 1) 96 ∧ (vp_in ((2 + (3 * v3)) + 0) 96 ∧ ((¬ ((σ.1 k1 (((2 + (3 * v2)) + 1).toNatClampNeg)) = (σ.1 k1 (((2 + (3 * v3)) + 0).toNatClampNeg))) → Φ false σ) ∧ ((σ.1 k1 (((2 + (3 * v2)) + 1).toNatClampNeg)) = (σ.1 k1 (((2 + (3 * v3)) + 0).toNatClampNeg)) → (14 ≤ (σ.1 k1 ((1 : Int32).toNatClampNeg)) → Φ false σ) ∧ (¬ (14 ≤ (σ.1 k1 ((1 : Int32).toNatClampNeg))) → (0 < v4 → Φ true σ) ∧ (¬ (0 < v4) → ∃ Φ3 : Bool → gw_S → Prop, gw_M (xl x) G yX8_isDead cX8_isDead 4 (some .boolean) 2 [.ref (G.1 + 189), .ref (G.1 + k1), .int v2, .int v3] σ (fz Φ3) ∧ ∀ (r5 : Bool) (τ4 : gw_S), Φ3 r5 τ4 → (Φ (if r5 = false then true else false : Bool) τ4))))))) : PW x G 5 0 [(0, .ref (G.1 + 189)), (1, .ref (G.1 + k1)), (2, .int v2), (3, .int v3), (4, .int v4)] [] σ := by
  refine pw_aload_n C dX8_canLay_0 rfl 1 rfl ?_
  refine pw_iload_n C dX8_canLay_1 rfl 2 rfl ?_
  refine pw_iconst (v := 1) C dX8_canLay_2 (by decide) ?_
  refine pw_callS C dX8_canLay_3 (k_X8_moduleAt v2 1 σ ) gm_X8_moduleAt gl_RX8_77 rfl hR (by decide) (by decide) rfl (Nat.le_of_ble_eq_true rfl) ?_
  rintro _ _ ⟨_, rfl, rfl, rfl⟩
  show PW x G 5 6 [(0, .ref (G.1 + 189)), (1, .ref (G.1 + k1)), (2, .int v2), (3, .int v3), (4, .int v4)] [.int ((2 + (3 * v2)) + 1), .ref (G.1 + k1)] σ
  obtain ⟨g1, h⟩ := h
  refine pw_iald C dX8_canLay_6 hk1.1 hk1.2 g1 ?_
  refine pw_aload_n C dX8_canLay_7 rfl 1 rfl ?_
  refine pw_iload_n C dX8_canLay_8 rfl 3 rfl ?_
  refine pw_iconst (v := 0) C dX8_canLay_9 (by decide) ?_
  refine pw_callS C dX8_canLay_10 (k_X8_moduleAt v3 0 σ ) gm_X8_moduleAt gl_RX8_77 rfl hR (by decide) (by decide) rfl (Nat.le_of_ble_eq_true rfl) ?_
  rintro _ _ ⟨_, rfl, rfl, rfl⟩
  show PW x G 5 13 [(0, .ref (G.1 + 189)), (1, .ref (G.1 + k1)), (2, .int v2), (3, .int v3), (4, .int v4)] [.int ((2 + (3 * v3)) + 0), .ref (G.1 + k1), .int (σ.1 k1 (((2 + (3 * v2)) + 1).toNatClampNeg))] σ
  obtain ⟨g2, h⟩ := h
  refine pw_iald C dX8_canLay_13 hk1.1 hk1.2 g2 ?_
  refine pw_icmp_ne (tgt := 44) C dX8_canLay_14 (by decide) (fun q => ?_) (fun q => ?_)
  · replace h := h.1 q
    refine pw_iconst (v := 0) C dX8_canLay_44 (by decide) ?_
    exact pw_zret (b := false) C hT dX8_canLay_45 h
  · replace h := h.2 q
    refine pw_aload_n C dX8_canLay_17 rfl 1 rfl ?_
    refine pw_iconst (v := 1) C dX8_canLay_18 (by decide) ?_
    refine pw_iald C dX8_canLay_19 hk1.1 hk1.2 (by show ¬ (_ ∨ _); decide) ?_
    refine pw_bipush (v := 14) C dX8_canLay_20 (by decide) ?_
    refine pw_icmp_ge (tgt := 44) C dX8_canLay_22 (by decide) (fun q => ?_) (fun q => ?_)
    · replace h := h.1 q
      refine pw_iconst (v := 0) C dX8_canLay_44 (by decide) ?_
      exact pw_zret (b := false) C hT dX8_canLay_45 h
    · replace h := h.2 q
      refine pw_iload C dX8_canLay_25 4 rfl ?_
      refine pw_if_gt (tgt := 40) C dX8_canLay_27 (by decide) (fun q => ?_) (fun q => ?_)
      · replace h := h.1 q
        refine pw_iconst (v := 1) C dX8_canLay_40 (by decide) ?_
        refine pw_goto (tgt := 45) C dX8_canLay_41 (by decide) ?_
        exact pw_zret (b := true) C hT dX8_canLay_45 h
      · replace h := h.2 q
        refine pw_aload_n C dX8_canLay_30 rfl 0 rfl ?_
        refine pw_aload_n C dX8_canLay_31 rfl 1 rfl ?_
        refine pw_iload_n C dX8_canLay_32 rfl 2 rfl ?_
        refine pw_iload_n C dX8_canLay_33 rfl 3 rfl ?_
        obtain ⟨Φ3, hM, h⟩ := h
        refine pw_callV C dX8_canLay_34 hM gm_X8_isDead gl_RX8_141 rfl hR (by decide) (by decide) (by decide) rfl gk_189.1 gk_189.2 rfl (Nat.le_of_ble_eq_true rfl) ?_
        rintro _ τ4 ⟨r5, rfl, hv⟩
        replace h := h r5 τ4 hv
        show PW x G 5 37 [(0, .ref (G.1 + 189)), (1, .ref (G.1 + k1)), (2, .int v2), (3, .int v3), (4, .int v4)] [.int (gz r5)] τ4
        have hJ : ∀ w0 : Bool, (if r5 = false then true else false : Bool) = w0 → PW x G 5 45 [(0, .ref (G.1 + 189)), (1, .ref (G.1 + k1)), (2, .int v2), (3, .int v3), (4, .int v4)] [.int (gz w0)] τ4 := by
          rintro _ rfl
          exact pw_zret (b := (if r5 = false then true else false : Bool)) C hT dX8_canLay_45 h
        clear h
        refine pw_z_ne (tgt := 44) C dX8_canLay_37 (by decide) (fun q4 => ?_) (fun q4 => ?_)
        · refine pw_iconst (v := 0) C dX8_canLay_44 (by decide) ?_
          exact hJ false (if_neg q4)
        · refine pw_iconst (v := 1) C dX8_canLay_40 (by decide) ?_
          refine pw_goto (tgt := 45) C dX8_canLay_41 (by decide) ?_
          exact hJ true (if_pos q4)
set_option maxRecDepth 4000 in
theorem sg_X8_layIn_0 {x : gw_X} {G : gw_G} {Φ : gw_S → Prop} (C : XC x G RX8 cX8_layIn 7 none) (hR : gw_ok x 1) (hT : RT x G (fv Φ)) (k0 : Nat) (v1 : Int32) (v2 : Int32) (v3 : Int32) (v4 : Int32) (v5 : Int32) (hk0 : gw_ia k0 96) (σ : gw_S)
    (h : vp_in ((26 + (5 * (σ.1 k0 ((1 : Int32).toNatClampNeg)))) + 0) 96 ∧ (∀ τ2 : gw_S, τ2 = gw_u σ k0 (((26 + (5 * (σ.1 k0 ((1 : Int32).toNatClampNeg)))) + 0).toNatClampNeg) v1 → (vp_in ((26 + (5 * (σ.1 k0 ((1 : Int32).toNatClampNeg)))) + 1) 96 ∧ (∀ τ4 : gw_S, τ4 = gw_u τ2 k0 (((26 + (5 * (σ.1 k0 ((1 : Int32).toNatClampNeg)))) + 1).toNatClampNeg) v2 → (vp_in ((26 + (5 * (σ.1 k0 ((1 : Int32).toNatClampNeg)))) + 2) 96 ∧ (∀ τ6 : gw_S, τ6 = gw_u τ4 k0 (((26 + (5 * (σ.1 k0 ((1 : Int32).toNatClampNeg)))) + 2).toNatClampNeg) v3 → (vp_in ((26 + (5 * (σ.1 k0 ((1 : Int32).toNatClampNeg)))) + 3) 96 ∧ (∀ τ8 : gw_S, τ8 = gw_u τ6 k0 (((26 + (5 * (σ.1 k0 ((1 : Int32).toNatClampNeg)))) + 3).toNatClampNeg) v4 → (vp_in ((26 + (5 * (σ.1 k0 ((1 : Int32).toNatClampNeg)))) + 4) 96 ∧ (∀ τ10 : gw_S, τ10 = gw_u τ8 k0 (((26 + (5 * (σ.1 k0 ((1 : Int32).toNatClampNeg)))) + 4).toNatClampNeg) v5 → (∀ τ11 : gw_S, τ11 = gw_u τ10 k0 ((1 : Int32).toNatClampNeg) ((τ10.1 k0 ((1 : Int32).toNatClampNeg)) + 1) → (Φ τ11)))))))))))) : PW x G 7 0 [(0, .ref (G.1 + k0)), (1, .int v1), (2, .int v2), (3, .int v3), (4, .int v4), (5, .int v5)] [] σ := by
  refine pw_aload_n C dX8_layIn_0 rfl 0 rfl ?_
  refine pw_iconst (v := 1) C dX8_layIn_1 (by decide) ?_
  refine pw_iald C dX8_layIn_2 hk0.1 hk0.2 (by show ¬ (_ ∨ _); decide) ?_
  refine pw_istore C dX8_layIn_3 (by decide) rfl ?_
  refine pw_aload_n C dX8_layIn_5 rfl 1 rfl ?_
  refine pw_iload C dX8_layIn_6 0 rfl ?_
  refine pw_iconst (v := 0) C dX8_layIn_8 (by decide) ?_
  refine pw_callS C dX8_layIn_9 (k_X8_wireAt (σ.1 k0 ((1 : Int32).toNatClampNeg)) 0 σ ) gm_X8_wireAt gl_RX8_73 rfl hR (by decide) (by decide) rfl (Nat.le_of_ble_eq_true rfl) ?_
  rintro _ _ ⟨_, rfl, rfl, rfl⟩
  show PW x G 7 12 [(6, .int (σ.1 k0 ((1 : Int32).toNatClampNeg))), (0, .ref (G.1 + k0)), (1, .int v1), (2, .int v2), (3, .int v3), (4, .int v4), (5, .int v5)] [.int ((26 + (5 * (σ.1 k0 ((1 : Int32).toNatClampNeg)))) + 0), .ref (G.1 + k0)] σ
  refine pw_iload_n C dX8_layIn_12 rfl 2 rfl ?_
  obtain ⟨g1, h⟩ := h
  refine pw_iast C dX8_layIn_13 hk0.1 hk0.2 g1 ?_
  generalize hτ2 : gw_u σ k0 (((26 + (5 * (σ.1 k0 ((1 : Int32).toNatClampNeg)))) + 0).toNatClampNeg) v1 = τ2
  replace h := h τ2 hτ2.symm
  show PW x G 7 14 [(6, .int (σ.1 k0 ((1 : Int32).toNatClampNeg))), (0, .ref (G.1 + k0)), (1, .int v1), (2, .int v2), (3, .int v3), (4, .int v4), (5, .int v5)] [] τ2
  refine pw_aload_n C dX8_layIn_14 rfl 1 rfl ?_
  refine pw_iload C dX8_layIn_15 0 rfl ?_
  refine pw_iconst (v := 1) C dX8_layIn_17 (by decide) ?_
  refine pw_callS C dX8_layIn_18 (k_X8_wireAt (σ.1 k0 ((1 : Int32).toNatClampNeg)) 1 τ2 ) gm_X8_wireAt gl_RX8_73 rfl hR (by decide) (by decide) rfl (Nat.le_of_ble_eq_true rfl) ?_
  rintro _ _ ⟨_, rfl, rfl, rfl⟩
  show PW x G 7 21 [(6, .int (σ.1 k0 ((1 : Int32).toNatClampNeg))), (0, .ref (G.1 + k0)), (1, .int v1), (2, .int v2), (3, .int v3), (4, .int v4), (5, .int v5)] [.int ((26 + (5 * (σ.1 k0 ((1 : Int32).toNatClampNeg)))) + 1), .ref (G.1 + k0)] τ2
  refine pw_iload_n C dX8_layIn_21 rfl 3 rfl ?_
  obtain ⟨g3, h⟩ := h
  refine pw_iast C dX8_layIn_22 hk0.1 hk0.2 g3 ?_
  generalize hτ4 : gw_u τ2 k0 (((26 + (5 * (σ.1 k0 ((1 : Int32).toNatClampNeg)))) + 1).toNatClampNeg) v2 = τ4
  replace h := h τ4 hτ4.symm
  show PW x G 7 23 [(6, .int (σ.1 k0 ((1 : Int32).toNatClampNeg))), (0, .ref (G.1 + k0)), (1, .int v1), (2, .int v2), (3, .int v3), (4, .int v4), (5, .int v5)] [] τ4
  refine pw_aload_n C dX8_layIn_23 rfl 1 rfl ?_
  refine pw_iload C dX8_layIn_24 0 rfl ?_
  refine pw_iconst (v := 2) C dX8_layIn_26 (by decide) ?_
  refine pw_callS C dX8_layIn_27 (k_X8_wireAt (σ.1 k0 ((1 : Int32).toNatClampNeg)) 2 τ4 ) gm_X8_wireAt gl_RX8_73 rfl hR (by decide) (by decide) rfl (Nat.le_of_ble_eq_true rfl) ?_
  rintro _ _ ⟨_, rfl, rfl, rfl⟩
  show PW x G 7 30 [(6, .int (σ.1 k0 ((1 : Int32).toNatClampNeg))), (0, .ref (G.1 + k0)), (1, .int v1), (2, .int v2), (3, .int v3), (4, .int v4), (5, .int v5)] [.int ((26 + (5 * (σ.1 k0 ((1 : Int32).toNatClampNeg)))) + 2), .ref (G.1 + k0)] τ4
  refine pw_iload_n C dX8_layIn_30 rfl 4 rfl ?_
  obtain ⟨g5, h⟩ := h
  refine pw_iast C dX8_layIn_31 hk0.1 hk0.2 g5 ?_
  generalize hτ6 : gw_u τ4 k0 (((26 + (5 * (σ.1 k0 ((1 : Int32).toNatClampNeg)))) + 2).toNatClampNeg) v3 = τ6
  replace h := h τ6 hτ6.symm
  show PW x G 7 32 [(6, .int (σ.1 k0 ((1 : Int32).toNatClampNeg))), (0, .ref (G.1 + k0)), (1, .int v1), (2, .int v2), (3, .int v3), (4, .int v4), (5, .int v5)] [] τ6
  refine pw_aload_n C dX8_layIn_32 rfl 1 rfl ?_
  refine pw_iload C dX8_layIn_33 0 rfl ?_
  refine pw_iconst (v := 3) C dX8_layIn_35 (by decide) ?_
  refine pw_callS C dX8_layIn_36 (k_X8_wireAt (σ.1 k0 ((1 : Int32).toNatClampNeg)) 3 τ6 ) gm_X8_wireAt gl_RX8_73 rfl hR (by decide) (by decide) rfl (Nat.le_of_ble_eq_true rfl) ?_
  rintro _ _ ⟨_, rfl, rfl, rfl⟩
  show PW x G 7 39 [(6, .int (σ.1 k0 ((1 : Int32).toNatClampNeg))), (0, .ref (G.1 + k0)), (1, .int v1), (2, .int v2), (3, .int v3), (4, .int v4), (5, .int v5)] [.int ((26 + (5 * (σ.1 k0 ((1 : Int32).toNatClampNeg)))) + 3), .ref (G.1 + k0)] τ6
  refine pw_iload C dX8_layIn_39 5 rfl ?_
  obtain ⟨g7, h⟩ := h
  refine pw_iast C dX8_layIn_41 hk0.1 hk0.2 g7 ?_
  generalize hτ8 : gw_u τ6 k0 (((26 + (5 * (σ.1 k0 ((1 : Int32).toNatClampNeg)))) + 3).toNatClampNeg) v4 = τ8
  replace h := h τ8 hτ8.symm
  show PW x G 7 42 [(6, .int (σ.1 k0 ((1 : Int32).toNatClampNeg))), (0, .ref (G.1 + k0)), (1, .int v1), (2, .int v2), (3, .int v3), (4, .int v4), (5, .int v5)] [] τ8
  refine pw_aload_n C dX8_layIn_42 rfl 1 rfl ?_
  refine pw_iload C dX8_layIn_43 0 rfl ?_
  refine pw_iconst (v := 4) C dX8_layIn_45 (by decide) ?_
  refine pw_callS C dX8_layIn_46 (k_X8_wireAt (σ.1 k0 ((1 : Int32).toNatClampNeg)) 4 τ8 ) gm_X8_wireAt gl_RX8_73 rfl hR (by decide) (by decide) rfl (Nat.le_of_ble_eq_true rfl) ?_
  rintro _ _ ⟨_, rfl, rfl, rfl⟩
  show PW x G 7 49 [(6, .int (σ.1 k0 ((1 : Int32).toNatClampNeg))), (0, .ref (G.1 + k0)), (1, .int v1), (2, .int v2), (3, .int v3), (4, .int v4), (5, .int v5)] [.int ((26 + (5 * (σ.1 k0 ((1 : Int32).toNatClampNeg)))) + 4), .ref (G.1 + k0)] τ8
  refine pw_iload C dX8_layIn_49 6 rfl ?_
  obtain ⟨g9, h⟩ := h
  refine pw_iast C dX8_layIn_51 hk0.1 hk0.2 g9 ?_
  generalize hτ10 : gw_u τ8 k0 (((26 + (5 * (σ.1 k0 ((1 : Int32).toNatClampNeg)))) + 4).toNatClampNeg) v5 = τ10
  replace h := h τ10 hτ10.symm
  show PW x G 7 52 [(6, .int (σ.1 k0 ((1 : Int32).toNatClampNeg))), (0, .ref (G.1 + k0)), (1, .int v1), (2, .int v2), (3, .int v3), (4, .int v4), (5, .int v5)] [] τ10
  refine pw_aload_n C dX8_layIn_52 rfl 1 rfl ?_
  refine pw_iconst (v := 1) C dX8_layIn_53 (by decide) ?_
  refine pw_dup2 C dX8_layIn_54 rfl rfl ?_
  refine pw_iald C dX8_layIn_55 hk0.1 hk0.2 (by show ¬ (_ ∨ _); decide) ?_
  refine pw_iconst (v := 1) C dX8_layIn_56 (by decide) ?_
  refine pw_iadd C dX8_layIn_57 ?_
  refine pw_iast C dX8_layIn_58 hk0.1 hk0.2 (by show ¬ (_ ∨ _); decide) ?_
  generalize hτ11 : gw_u τ10 k0 ((1 : Int32).toNatClampNeg) ((τ10.1 k0 ((1 : Int32).toNatClampNeg)) + 1) = τ11
  replace h := h τ11 hτ11.symm
  show PW x G 7 59 [(6, .int (σ.1 k0 ((1 : Int32).toNatClampNeg))), (0, .ref (G.1 + k0)), (1, .int v1), (2, .int v2), (3, .int v3), (4, .int v4), (5, .int v5)] [] τ11
  exact pw_vret C hT dX8_layIn_59 h
set_option maxRecDepth 4000 in
theorem sg_X8_canPut_0 {x : gw_X} {G : gw_G} {Φ : Bool → gw_S → Prop} (C : XC x G RX8 cX8_canPut 4 (some .boolean)) (hR : gw_ok x 3) (hT : RT x G (fz Φ)) (k1 : Nat) (v2 : Int32) (v3 : Int32) (hk1 : gw_ia k1 96) (σ : gw_S)
    (h : (0 < v3 → Φ true σ) ∧ (¬ (0 < v3) → vp_in ((26 + (5 * v2)) + 0) 96 ∧ (vp_in ((26 + (5 * v2)) + 1) 96 ∧ (∃ Φ3 : Bool → gw_S → Prop, gw_M (xl x) G yX8_isDead cX8_isDead 4 (some .boolean) 2 [.ref (G.1 + 189), .ref (G.1 + k1), .int (σ.1 k1 (((26 + (5 * v2)) + 0).toNatClampNeg)), .int (σ.1 k1 (((26 + (5 * v2)) + 1).toNatClampNeg))] σ (fz Φ3) ∧ ∀ (r5 : Bool) (τ4 : gw_S), Φ3 r5 τ4 → (Φ (if r5 = false then true else false : Bool) τ4))))) : PW x G 4 0 [(0, .ref (G.1 + 189)), (1, .ref (G.1 + k1)), (2, .int v2), (3, .int v3)] [] σ := by
  refine pw_iload_n C dX8_canPut_0 rfl 3 rfl ?_
  refine pw_if_gt (tgt := 26) C dX8_canPut_1 (by decide) (fun q => ?_) (fun q => ?_)
  · replace h := h.1 q
    refine pw_iconst (v := 1) C dX8_canPut_26 (by decide) ?_
    refine pw_goto (tgt := 31) C dX8_canPut_27 (by decide) ?_
    exact pw_zret (b := true) C hT dX8_canPut_31 h
  · replace h := h.2 q
    refine pw_aload_n C dX8_canPut_4 rfl 0 rfl ?_
    refine pw_aload_n C dX8_canPut_5 rfl 1 rfl ?_
    refine pw_aload_n C dX8_canPut_6 rfl 1 rfl ?_
    refine pw_iload_n C dX8_canPut_7 rfl 2 rfl ?_
    refine pw_iconst (v := 0) C dX8_canPut_8 (by decide) ?_
    refine pw_callS C dX8_canPut_9 (k_X8_wireAt v2 0 σ ) gm_X8_wireAt gl_RX8_73 rfl hR (by decide) (by decide) rfl (Nat.le_of_ble_eq_true rfl) ?_
    rintro _ _ ⟨_, rfl, rfl, rfl⟩
    show PW x G 4 12 [(0, .ref (G.1 + 189)), (1, .ref (G.1 + k1)), (2, .int v2), (3, .int v3)] [.int ((26 + (5 * v2)) + 0), .ref (G.1 + k1), .ref (G.1 + k1), .ref (G.1 + 189)] σ
    obtain ⟨g1, h⟩ := h
    refine pw_iald C dX8_canPut_12 hk1.1 hk1.2 g1 ?_
    refine pw_aload_n C dX8_canPut_13 rfl 1 rfl ?_
    refine pw_iload_n C dX8_canPut_14 rfl 2 rfl ?_
    refine pw_iconst (v := 1) C dX8_canPut_15 (by decide) ?_
    refine pw_callS C dX8_canPut_16 (k_X8_wireAt v2 1 σ ) gm_X8_wireAt gl_RX8_73 rfl hR (by decide) (by decide) rfl (Nat.le_of_ble_eq_true rfl) ?_
    rintro _ _ ⟨_, rfl, rfl, rfl⟩
    show PW x G 4 19 [(0, .ref (G.1 + 189)), (1, .ref (G.1 + k1)), (2, .int v2), (3, .int v3)] [.int ((26 + (5 * v2)) + 1), .ref (G.1 + k1), .int (σ.1 k1 (((26 + (5 * v2)) + 0).toNatClampNeg)), .ref (G.1 + k1), .ref (G.1 + 189)] σ
    obtain ⟨g2, h⟩ := h
    refine pw_iald C dX8_canPut_19 hk1.1 hk1.2 g2 ?_
    obtain ⟨Φ3, hM, h⟩ := h
    refine pw_callV C dX8_canPut_20 hM gm_X8_isDead gl_RX8_141 rfl hR (by decide) (by decide) (by decide) rfl gk_189.1 gk_189.2 rfl (Nat.le_of_ble_eq_true rfl) ?_
    rintro _ τ4 ⟨r5, rfl, hv⟩
    replace h := h r5 τ4 hv
    show PW x G 4 23 [(0, .ref (G.1 + 189)), (1, .ref (G.1 + k1)), (2, .int v2), (3, .int v3)] [.int (gz r5)] τ4
    have hJ : ∀ w0 : Bool, (if r5 = false then true else false : Bool) = w0 → PW x G 4 31 [(0, .ref (G.1 + 189)), (1, .ref (G.1 + k1)), (2, .int v2), (3, .int v3)] [.int (gz w0)] τ4 := by
      rintro _ rfl
      exact pw_zret (b := (if r5 = false then true else false : Bool)) C hT dX8_canPut_31 h
    clear h
    refine pw_z_ne (tgt := 30) C dX8_canPut_23 (by decide) (fun q2 => ?_) (fun q2 => ?_)
    · refine pw_iconst (v := 0) C dX8_canPut_30 (by decide) ?_
      exact hJ false (if_neg q2)
    · refine pw_iconst (v := 1) C dX8_canPut_26 (by decide) ?_
      refine pw_goto (tgt := 31) C dX8_canPut_27 (by decide) ?_
      exact hJ true (if_pos q2)
set_option maxRecDepth 4000 in
theorem sg_X8_append_0 {x : gw_X} {G : gw_G} {Φ : Int32 → gw_S → Prop} (C : XC x G RX8 cX8_append 2 (some .int)) (hR : gw_ok x 1) (hT : RT x G (fi Φ)) (v1 : Int32) (σ : gw_S)
    (h : ∀ τ1 : gw_S, τ1 = gw_u σ 189 0 (if (if (lg_cmp v1.toInt64 0) < 0 then false else (if 0 < (lg_cmp v1.toInt64 255) then false else true : Bool) : Bool) = false then 1 else (if (σ.1 189 2) = 120 then 2 else 0 : Int32) : Int32) → (((if (if (if (lg_cmp v1.toInt64 0) < 0 then false else (if 0 < (lg_cmp v1.toInt64 255) then false else true : Bool) : Bool) = false then 1 else (if (σ.1 189 2) = 120 then 2 else 0 : Int32) : Int32) ≤ 0 then false else true : Bool) = false → vp_in (τ1.1 189 2) 120 ∧ (∀ τ3 : gw_S, τ3 = gw_u τ1 190 ((τ1.1 189 2).toNatClampNeg) v1 → (∀ τ4 : gw_S, τ4 = gw_u τ3 189 2 ((τ3.1 189 2) + 1) → (Φ (τ4.1 189 2) τ4)))) ∧ (¬ ((if (if (if (lg_cmp v1.toInt64 0) < 0 then false else (if 0 < (lg_cmp v1.toInt64 255) then false else true : Bool) : Bool) = false then 1 else (if (σ.1 189 2) = 120 then 2 else 0 : Int32) : Int32) ≤ 0 then false else true : Bool) = false) → Φ 0 τ1))) : PW x G 2 0 [(0, .ref (G.1 + 189)), (1, .int v1)] [] σ := by
  refine pw_aload_n C dX8_append_0 rfl 0 rfl ?_
  refine pw_iload_n C dX8_append_1 rfl 1 rfl ?_
  refine pw_i2l (v := v1.toInt64) C dX8_append_2 rfl ?_
  refine pw_lconst (v := 0) C dX8_append_3 (by decide) ?_
  refine pw_ldc2 C dX8_append_4 gl_RX8_144 ?_
  refine pw_callS C dX8_append_7 (k_X8_in v1.toInt64 0 255 σ ) gm_X8_in gl_RX8_146 rfl hR (by decide) (by decide) rfl (Nat.le_of_ble_eq_true rfl) ?_
  rintro _ _ ⟨_, rfl, rfl, rfl⟩
  show PW x G 2 10 [(0, .ref (G.1 + 189)), (1, .int v1)] [.int (gz (if (lg_cmp v1.toInt64 0) < 0 then false else (if 0 < (lg_cmp v1.toInt64 255) then false else true : Bool) : Bool)), .ref (G.1 + 189)] σ
  have hJ : ∀ w0 : Int32, (if (if (lg_cmp v1.toInt64 0) < 0 then false else (if 0 < (lg_cmp v1.toInt64 255) then false else true : Bool) : Bool) = false then 1 else (if (σ.1 189 2) = 120 then 2 else 0 : Int32) : Int32) = w0 → PW x G 2 31 [(0, .ref (G.1 + 189)), (1, .int v1)] [.int w0, .ref (G.1 + 189)] σ := by
    rintro _ rfl
    refine pw_callV C dX8_append_31 (k_X8_refused (if (if (lg_cmp v1.toInt64 0) < 0 then false else (if 0 < (lg_cmp v1.toInt64 255) then false else true : Bool) : Bool) = false then 1 else (if (σ.1 189 2) = 120 then 2 else 0 : Int32) : Int32) σ ) gm_X8_refused gl_RX8_153 rfl hR (by decide) (by decide) (by decide) rfl gk_189.1 gk_189.2 rfl (Nat.le_of_ble_eq_true rfl) ?_
    rintro _ _ ⟨_, rfl, rfl, rfl⟩
    generalize hτ1 : gw_u σ 189 0 (if (if (lg_cmp v1.toInt64 0) < 0 then false else (if 0 < (lg_cmp v1.toInt64 255) then false else true : Bool) : Bool) = false then 1 else (if (σ.1 189 2) = 120 then 2 else 0 : Int32) : Int32) = τ1
    replace h := h τ1 hτ1.symm
    show PW x G 2 34 [(0, .ref (G.1 + 189)), (1, .int v1)] [.int (gz (if (if (if (lg_cmp v1.toInt64 0) < 0 then false else (if 0 < (lg_cmp v1.toInt64 255) then false else true : Bool) : Bool) = false then 1 else (if (σ.1 189 2) = 120 then 2 else 0 : Int32) : Int32) ≤ 0 then false else true : Bool))] τ1
    show PW x G 2 34 [(0, .ref (G.1 + 189)), (1, .int v1)] [.int (gz (if (if (if (lg_cmp v1.toInt64 0) < 0 then false else (if 0 < (lg_cmp v1.toInt64 255) then false else true : Bool) : Bool) = false then 1 else (if (σ.1 189 2) = 120 then 2 else 0 : Int32) : Int32) ≤ 0 then false else true : Bool))] τ1
    refine pw_z_eq (tgt := 39) C dX8_append_34 (by decide) (fun q => ?_) (fun q => ?_)
    · replace h := h.1 q
      refine pw_aload_n C dX8_append_39 rfl 0 rfl ?_
      refine pw_getr C dX8_append_40 gf_RX8_7 gk_189.1 gk_189.2 rfl ?_
      refine pw_aload_n C dX8_append_43 rfl 0 rfl ?_
      refine pw_geti C dX8_append_44 gf_RX8_150 gk_189.1 gk_189.2 rfl ?_
      refine pw_iload_n C dX8_append_47 rfl 1 rfl ?_
      obtain ⟨g2, h⟩ := h
      refine pw_iast C dX8_append_48 gk_190.1 gk_190.2 g2 ?_
      generalize hτ3 : gw_u τ1 190 ((τ1.1 189 2).toNatClampNeg) v1 = τ3
      replace h := h τ3 hτ3.symm
      show PW x G 2 49 [(0, .ref (G.1 + 189)), (1, .int v1)] [] τ3
      refine pw_aload_n C dX8_append_49 rfl 0 rfl ?_
      refine pw_dup C dX8_append_50 rfl ?_
      refine pw_geti C dX8_append_51 gf_RX8_150 gk_189.1 gk_189.2 rfl ?_
      refine pw_iconst (v := 1) C dX8_append_54 (by decide) ?_
      refine pw_iadd C dX8_append_55 ?_
      refine pw_puti C dX8_append_56 gf_RX8_150 rfl rfl rfl gk_189.1 gk_189.2 rfl ?_
      generalize hτ4 : gw_u τ3 189 2 ((τ3.1 189 2) + 1) = τ4
      replace h := h τ4 hτ4.symm
      show PW x G 2 59 [(0, .ref (G.1 + 189)), (1, .int v1)] [] τ4
      refine pw_aload_n C dX8_append_59 rfl 0 rfl ?_
      refine pw_geti C dX8_append_60 gf_RX8_150 gk_189.1 gk_189.2 rfl ?_
      exact pw_iret C hT dX8_append_63 h
    · replace h := h.2 q
      refine pw_iconst (v := 0) C dX8_append_37 (by decide) ?_
      exact pw_iret C hT dX8_append_38 h
  clear h
  refine pw_z_ne (tgt := 17) C dX8_append_10 (by decide) (fun q1 => ?_) (fun q1 => ?_)
  · refine pw_aload_n C dX8_append_17 rfl 0 rfl ?_
    refine pw_geti C dX8_append_18 gf_RX8_150 gk_189.1 gk_189.2 rfl ?_
    refine pw_bipush (v := 120) C dX8_append_21 (by decide) ?_
    refine pw_icmp_ne (tgt := 30) C dX8_append_23 (by decide) (fun q2 => ?_) (fun q2 => ?_)
    · refine pw_iconst (v := 0) C dX8_append_30 (by decide) ?_
      exact hJ 0 ((if_neg q1).trans (if_neg q2))
    · refine pw_iconst (v := 2) C dX8_append_26 (by decide) ?_
      refine pw_goto (tgt := 31) C dX8_append_27 (by decide) ?_
      exact hJ 2 ((if_neg q1).trans (if_pos q2))
  · refine pw_iconst (v := 1) C dX8_append_13 (by decide) ?_
    refine pw_goto (tgt := 31) C dX8_append_14 (by decide) ?_
    exact hJ 1 (if_pos q1)
set_option maxRecDepth 4000 in
theorem sg_X8_clearText_0 {x : gw_X} {G : gw_G} {Φ : Int32 → gw_S → Prop} (C : XC x G RX8 cX8_clearText 2 (some .int)) (hR : gw_ok x 0) (hT : RT x G (fi Φ))  (σ : gw_S)
    (h : ∀ τ1 : gw_S, τ1 = gw_u σ 189 0 0 → (∀ τ2 : gw_S, τ2 = gw_u τ1 189 2 0 → (Φ (τ1.1 189 2) τ2))) : PW x G 2 0 [(0, .ref (G.1 + 189))] [] σ := by
  refine pw_aload_n C dX8_clearText_0 rfl 0 rfl ?_
  refine pw_iconst (v := 0) C dX8_clearText_1 (by decide) ?_
  refine pw_puti C dX8_clearText_2 gf_RX8_60 rfl rfl rfl gk_189.1 gk_189.2 rfl ?_
  generalize hτ1 : gw_u σ 189 0 0 = τ1
  replace h := h τ1 hτ1.symm
  show PW x G 2 5 [(0, .ref (G.1 + 189))] [] τ1
  refine pw_aload_n C dX8_clearText_5 rfl 0 rfl ?_
  refine pw_geti C dX8_clearText_6 gf_RX8_150 gk_189.1 gk_189.2 rfl ?_
  refine pw_istore_n C dX8_clearText_9 rfl (by decide) rfl ?_
  refine pw_aload_n C dX8_clearText_10 rfl 1 rfl ?_
  refine pw_iconst (v := 0) C dX8_clearText_11 (by decide) ?_
  refine pw_puti C dX8_clearText_12 gf_RX8_150 rfl rfl rfl gk_189.1 gk_189.2 rfl ?_
  generalize hτ2 : gw_u τ1 189 2 0 = τ2
  replace h := h τ2 hτ2.symm
  show PW x G 2 15 [(1, .int (τ1.1 189 2)), (0, .ref (G.1 + 189))] [] τ2
  refine pw_iload_n C dX8_clearText_15 rfl 0 rfl ?_
  exact pw_iret C hT dX8_clearText_16 h
set_option maxRecDepth 4000 in
theorem sg_X8_accept_0 {x : gw_X} {G : gw_G} {Φ : gw_S → Prop} (C : XC x G RX8 cX8_accept 2 none) (hR : gw_ok x 0) (hT : RT x G (fv Φ)) (v1 : Bool) (σ : gw_S)
    (h : ∀ τ1 : gw_S, τ1 = gw_u σ 189 4 (gz (if (σ.1 189 4) = 0 then false else (if v1 = false then false else true : Bool) : Bool)) → (∀ τ2 : gw_S, τ2 = gw_u τ1 189 3 ((τ1.1 189 3) + (gz (if (τ1.1 189 4) = 0 then false else true : Bool))) → (Φ τ2))) : PW x G 2 0 [(0, .ref (G.1 + 189)), (1, .int (gz v1))] [] σ := by
  refine pw_aload_n C dX8_accept_0 rfl 0 rfl ?_
  refine pw_aload_n C dX8_accept_1 rfl 0 rfl ?_
  refine pw_geti C dX8_accept_2 gf_RX8_160 gk_189.1 gk_189.2 rfl ?_
  have hJ : ∀ w0 : Bool, (if (σ.1 189 4) = 0 then false else (if v1 = false then false else true : Bool) : Bool) = w0 → PW x G 2 17 [(0, .ref (G.1 + 189)), (1, .int (gz v1))] [.int (gz w0), .ref (G.1 + 189)] σ := by
    rintro _ rfl
    refine pw_puti C dX8_accept_17 gf_RX8_160 rfl (gz_n _) (gz_fit _) gk_189.1 gk_189.2 rfl ?_
    generalize hτ1 : gw_u σ 189 4 (gz (if (σ.1 189 4) = 0 then false else (if v1 = false then false else true : Bool) : Bool)) = τ1
    replace h := h τ1 hτ1.symm
    show PW x G 2 20 [(0, .ref (G.1 + 189)), (1, .int (gz v1))] [] τ1
    refine pw_aload_n C dX8_accept_20 rfl 0 rfl ?_
    refine pw_dup C dX8_accept_21 rfl ?_
    refine pw_geti C dX8_accept_22 gf_RX8_157 gk_189.1 gk_189.2 rfl ?_
    refine pw_aload_n C dX8_accept_25 rfl 0 rfl ?_
    refine pw_geti C dX8_accept_26 gf_RX8_160 gk_189.1 gk_189.2 rfl ?_
    have hJ : ∀ w0 : Bool, (if (τ1.1 189 4) = 0 then false else true : Bool) = w0 → PW x G 2 37 [(0, .ref (G.1 + 189)), (1, .int (gz v1))] [.int (gz w0), .int (τ1.1 189 3), .ref (G.1 + 189)] τ1 := by
      rintro _ rfl
      refine pw_iadd C dX8_accept_37 ?_
      refine pw_puti C dX8_accept_38 gf_RX8_157 rfl rfl rfl gk_189.1 gk_189.2 rfl ?_
      generalize hτ2 : gw_u τ1 189 3 ((τ1.1 189 3) + (gz (if (τ1.1 189 4) = 0 then false else true : Bool))) = τ2
      replace h := h τ2 hτ2.symm
      show PW x G 2 41 [(0, .ref (G.1 + 189)), (1, .int (gz v1))] [] τ2
      exact pw_vret C hT dX8_accept_41 h
    clear h
    refine pw_if_eq (tgt := 36) C dX8_accept_29 (by decide) (fun q2 => ?_) (fun q2 => ?_)
    · refine pw_iconst (v := 0) C dX8_accept_36 (by decide) ?_
      exact hJ false (if_pos q2)
    · refine pw_iconst (v := 1) C dX8_accept_32 (by decide) ?_
      refine pw_goto (tgt := 37) C dX8_accept_33 (by decide) ?_
      exact hJ true (if_neg q2)
  clear h
  refine pw_if_eq (tgt := 16) C dX8_accept_5 (by decide) (fun q1 => ?_) (fun q1 => ?_)
  · refine pw_iconst (v := 0) C dX8_accept_16 (by decide) ?_
    exact hJ false (if_pos q1)
  · refine pw_iload_n C dX8_accept_8 rfl 1 rfl ?_
    refine pw_z_eq (tgt := 16) C dX8_accept_9 (by decide) (fun q2 => ?_) (fun q2 => ?_)
    · refine pw_iconst (v := 0) C dX8_accept_16 (by decide) ?_
      exact hJ false ((if_neg q1).trans (if_pos q2))
    · refine pw_iconst (v := 1) C dX8_accept_12 (by decide) ?_
      refine pw_goto (tgt := 17) C dX8_accept_13 (by decide) ?_
      exact hJ true ((if_neg q1).trans (if_neg q2))
set_option maxRecDepth 4000 in
theorem sg_X8_digit_0 {x : gw_X} {G : gw_G} {Φ : Int32 → gw_S → Prop} (C : XC x G RX8 cX8_digit 4 (some .int)) (hR : gw_ok x 1) (hT : RT x G (fi Φ)) (v1 : Int32) (v2 : Int32) (σ : gw_S)
    (h : (((σ.1 189 2) ≤ (σ.1 189 3) → True) ∧ (¬ ((σ.1 189 2) ≤ (σ.1 189 3)) → vp_in (σ.1 189 3) 120 ∧ (True))) ∧ (∃ Φ2 : gw_S → Prop, gw_M (xl x) G yX8_accept cX8_accept 2 none 0 [.ref (G.1 + 189), .int (gz (if (if (lg_cmp ((if (σ.1 189 2) ≤ (σ.1 189 3) then (-1) else (σ.1 190 ((σ.1 189 3).toNatClampNeg)) - 48 : Int32).toInt64) 0) < 0 then false else (if 0 < (lg_cmp ((if (σ.1 189 2) ≤ (σ.1 189 3) then (-1) else (σ.1 190 ((σ.1 189 3).toNatClampNeg)) - 48 : Int32).toInt64) 9) then false else true : Bool) : Bool) = false then false else (if (if (lg_cmp ((if (σ.1 189 2) ≤ (σ.1 189 3) then (-1) else (σ.1 190 ((σ.1 189 3).toNatClampNeg)) - 48 : Int32).toInt64) v1.toInt64) < 0 then false else (if 0 < (lg_cmp ((if (σ.1 189 2) ≤ (σ.1 189 3) then (-1) else (σ.1 190 ((σ.1 189 3).toNatClampNeg)) - 48 : Int32).toInt64) v2.toInt64) then false else true : Bool) : Bool) = false then false else true : Bool) : Bool))] σ (fv Φ2) ∧ ∀ (τ3 : gw_S), Φ2 τ3 → (Φ (if (τ3.1 189 4) = 0 then v1 else (if (σ.1 189 2) ≤ (σ.1 189 3) then (-1) else (σ.1 190 ((σ.1 189 3).toNatClampNeg)) - 48 : Int32) : Int32) τ3))) : PW x G 4 0 [(0, .ref (G.1 + 189)), (1, .int v1), (2, .int v2)] [] σ := by
  refine pw_aload_n C dX8_digit_0 rfl 0 rfl ?_
  refine pw_geti C dX8_digit_1 gf_RX8_157 gk_189.1 gk_189.2 rfl ?_
  refine pw_aload_n C dX8_digit_4 rfl 0 rfl ?_
  refine pw_geti C dX8_digit_5 gf_RX8_150 gk_189.1 gk_189.2 rfl ?_
  obtain ⟨hs, h⟩ := h
  have hJ : ∀ w0 : Int32, (if (σ.1 189 2) ≤ (σ.1 189 3) then (-1) else (σ.1 190 ((σ.1 189 3).toNatClampNeg)) - 48 : Int32) = w0 → PW x G 4 27 [(0, .ref (G.1 + 189)), (1, .int v1), (2, .int v2)] [.int w0] σ := by
    rintro _ rfl
    refine pw_istore_n C dX8_digit_27 rfl (by decide) rfl ?_
    refine pw_aload_n C dX8_digit_28 rfl 1 rfl ?_
    refine pw_iload_n C dX8_digit_29 rfl 0 rfl ?_
    refine pw_i2l (v := ((if (σ.1 189 2) ≤ (σ.1 189 3) then (-1) else (σ.1 190 ((σ.1 189 3).toNatClampNeg)) - 48 : Int32).toInt64)) C dX8_digit_30 rfl ?_
    refine pw_lconst (v := 0) C dX8_digit_31 (by decide) ?_
    refine pw_ldc2 C dX8_digit_32 gl_RX8_163 ?_
    refine pw_callS C dX8_digit_35 (k_X8_in ((if (σ.1 189 2) ≤ (σ.1 189 3) then (-1) else (σ.1 190 ((σ.1 189 3).toNatClampNeg)) - 48 : Int32).toInt64) 0 9 σ ) gm_X8_in gl_RX8_146 rfl hR (by decide) (by decide) rfl (Nat.le_of_ble_eq_true rfl) ?_
    rintro _ _ ⟨_, rfl, rfl, rfl⟩
    show PW x G 4 38 [(3, .int (if (σ.1 189 2) ≤ (σ.1 189 3) then (-1) else (σ.1 190 ((σ.1 189 3).toNatClampNeg)) - 48 : Int32)), (0, .ref (G.1 + 189)), (1, .int v1), (2, .int v2)] [.int (gz (if (lg_cmp ((if (σ.1 189 2) ≤ (σ.1 189 3) then (-1) else (σ.1 190 ((σ.1 189 3).toNatClampNeg)) - 48 : Int32).toInt64) 0) < 0 then false else (if 0 < (lg_cmp ((if (σ.1 189 2) ≤ (σ.1 189 3) then (-1) else (σ.1 190 ((σ.1 189 3).toNatClampNeg)) - 48 : Int32).toInt64) 9) then false else true : Bool) : Bool)), .ref (G.1 + 189)] σ
    have hJ : ∀ w0 : Bool, (if (if (lg_cmp ((if (σ.1 189 2) ≤ (σ.1 189 3) then (-1) else (σ.1 190 ((σ.1 189 3).toNatClampNeg)) - 48 : Int32).toInt64) 0) < 0 then false else (if 0 < (lg_cmp ((if (σ.1 189 2) ≤ (σ.1 189 3) then (-1) else (σ.1 190 ((σ.1 189 3).toNatClampNeg)) - 48 : Int32).toInt64) 9) then false else true : Bool) : Bool) = false then false else (if (if (lg_cmp ((if (σ.1 189 2) ≤ (σ.1 189 3) then (-1) else (σ.1 190 ((σ.1 189 3).toNatClampNeg)) - 48 : Int32).toInt64) v1.toInt64) < 0 then false else (if 0 < (lg_cmp ((if (σ.1 189 2) ≤ (σ.1 189 3) then (-1) else (σ.1 190 ((σ.1 189 3).toNatClampNeg)) - 48 : Int32).toInt64) v2.toInt64) then false else true : Bool) : Bool) = false then false else true : Bool) : Bool) = w0 → PW x G 4 58 [(3, .int (if (σ.1 189 2) ≤ (σ.1 189 3) then (-1) else (σ.1 190 ((σ.1 189 3).toNatClampNeg)) - 48 : Int32)), (0, .ref (G.1 + 189)), (1, .int v1), (2, .int v2)] [.int (gz w0), .ref (G.1 + 189)] σ := by
      rintro _ rfl
      obtain ⟨Φ2, hM, h⟩ := h
      refine pw_callV C dX8_digit_58 hM gm_X8_accept gl_RX8_165 rfl hR (by decide) (by decide) (by decide) rfl gk_189.1 gk_189.2 rfl (Nat.le_of_ble_eq_true rfl) ?_
      rintro _ τ3 ⟨rfl, hv⟩
      replace h := h τ3 hv
      show PW x G 4 61 [(3, .int (if (σ.1 189 2) ≤ (σ.1 189 3) then (-1) else (σ.1 190 ((σ.1 189 3).toNatClampNeg)) - 48 : Int32)), (0, .ref (G.1 + 189)), (1, .int v1), (2, .int v2)] [] τ3
      refine pw_aload_n C dX8_digit_61 rfl 1 rfl ?_
      refine pw_geti C dX8_digit_62 gf_RX8_160 gk_189.1 gk_189.2 rfl ?_
      have hJ : ∀ w0 : Int32, (if (τ3.1 189 4) = 0 then v1 else (if (σ.1 189 2) ≤ (σ.1 189 3) then (-1) else (σ.1 190 ((σ.1 189 3).toNatClampNeg)) - 48 : Int32) : Int32) = w0 → PW x G 4 73 [(3, .int (if (σ.1 189 2) ≤ (σ.1 189 3) then (-1) else (σ.1 190 ((σ.1 189 3).toNatClampNeg)) - 48 : Int32)), (0, .ref (G.1 + 189)), (1, .int v1), (2, .int v2)] [.int w0] τ3 := by
        rintro _ rfl
        exact pw_iret C hT dX8_digit_73 h
      clear h
      refine pw_if_eq (tgt := 72) C dX8_digit_65 (by decide) (fun q3 => ?_) (fun q3 => ?_)
      · refine pw_iload_n C dX8_digit_72 rfl 2 rfl ?_
        exact hJ v1 (if_pos q3)
      · refine pw_iload_n C dX8_digit_68 rfl 0 rfl ?_
        refine pw_goto (tgt := 73) C dX8_digit_69 (by decide) ?_
        exact hJ (if (σ.1 189 2) ≤ (σ.1 189 3) then (-1) else (σ.1 190 ((σ.1 189 3).toNatClampNeg)) - 48 : Int32) (if_neg q3)
    clear h
    refine pw_z_eq (tgt := 57) C dX8_digit_38 (by decide) (fun q2 => ?_) (fun q2 => ?_)
    · refine pw_iconst (v := 0) C dX8_digit_57 (by decide) ?_
      exact hJ false (if_pos q2)
    · refine pw_iload_n C dX8_digit_41 rfl 0 rfl ?_
      refine pw_i2l (v := ((if (σ.1 189 2) ≤ (σ.1 189 3) then (-1) else (σ.1 190 ((σ.1 189 3).toNatClampNeg)) - 48 : Int32).toInt64)) C dX8_digit_42 rfl ?_
      refine pw_iload_n C dX8_digit_43 rfl 2 rfl ?_
      refine pw_i2l (v := v1.toInt64) C dX8_digit_44 rfl ?_
      refine pw_iload_n C dX8_digit_45 rfl 3 rfl ?_
      refine pw_i2l (v := v2.toInt64) C dX8_digit_46 rfl ?_
      refine pw_callS C dX8_digit_47 (k_X8_in ((if (σ.1 189 2) ≤ (σ.1 189 3) then (-1) else (σ.1 190 ((σ.1 189 3).toNatClampNeg)) - 48 : Int32).toInt64) v1.toInt64 v2.toInt64 σ ) gm_X8_in gl_RX8_146 rfl hR (by decide) (by decide) rfl (Nat.le_of_ble_eq_true rfl) ?_
      rintro _ _ ⟨_, rfl, rfl, rfl⟩
      show PW x G 4 50 [(3, .int (if (σ.1 189 2) ≤ (σ.1 189 3) then (-1) else (σ.1 190 ((σ.1 189 3).toNatClampNeg)) - 48 : Int32)), (0, .ref (G.1 + 189)), (1, .int v1), (2, .int v2)] [.int (gz (if (lg_cmp ((if (σ.1 189 2) ≤ (σ.1 189 3) then (-1) else (σ.1 190 ((σ.1 189 3).toNatClampNeg)) - 48 : Int32).toInt64) v1.toInt64) < 0 then false else (if 0 < (lg_cmp ((if (σ.1 189 2) ≤ (σ.1 189 3) then (-1) else (σ.1 190 ((σ.1 189 3).toNatClampNeg)) - 48 : Int32).toInt64) v2.toInt64) then false else true : Bool) : Bool)), .ref (G.1 + 189)] σ
      refine pw_z_eq (tgt := 57) C dX8_digit_50 (by decide) (fun q3 => ?_) (fun q3 => ?_)
      · refine pw_iconst (v := 0) C dX8_digit_57 (by decide) ?_
        exact hJ false ((if_neg q2).trans (if_pos q3))
      · refine pw_iconst (v := 1) C dX8_digit_53 (by decide) ?_
        refine pw_goto (tgt := 58) C dX8_digit_54 (by decide) ?_
        exact hJ true ((if_neg q2).trans (if_neg q3))
  clear h
  refine pw_icmp_ge (tgt := 26) C dX8_digit_8 (by decide) (fun q1 => ?_) (fun q1 => ?_)
  · replace hs := hs.1 q1
    refine pw_iconst (v := (-1)) C dX8_digit_26 (by decide) ?_
    exact hJ (-1) (if_pos q1)
  · replace hs := hs.2 q1
    refine pw_aload_n C dX8_digit_11 rfl 0 rfl ?_
    refine pw_getr C dX8_digit_12 gf_RX8_7 gk_189.1 gk_189.2 rfl ?_
    refine pw_aload_n C dX8_digit_15 rfl 0 rfl ?_
    refine pw_geti C dX8_digit_16 gf_RX8_157 gk_189.1 gk_189.2 rfl ?_
    obtain ⟨g1, hs⟩ := hs
    refine pw_iald C dX8_digit_19 gk_190.1 gk_190.2 g1 ?_
    refine pw_bipush (v := 48) C dX8_digit_20 (by decide) ?_
    refine pw_isub C dX8_digit_22 ?_
    refine pw_goto (tgt := 27) C dX8_digit_23 (by decide) ?_
    exact hJ ((σ.1 190 ((σ.1 189 3).toNatClampNeg)) - 48) (if_neg q1)
set_option maxRecDepth 4000 in
theorem sg_X8_goes_0 {x : gw_X} {G : gw_G} {Φ : Bool → gw_S → Prop} (C : XC x G RX8 cX8_goes 2 (some .boolean)) (hR : gw_ok x 0) (hT : RT x G (fz Φ)) (v1 : Bool) (σ : gw_S)
    (h : ∀ τ1 : gw_S, τ1 = gw_u σ 189 5 ((σ.1 189 5) + (gz (if (σ.1 189 4) = 0 then false else (if v1 = false then true else false : Bool) : Bool))) → (Φ (if (τ1.1 189 4) = 0 then false else (if v1 = false then false else true : Bool) : Bool) τ1)) : PW x G 2 0 [(0, .ref (G.1 + 189)), (1, .int (gz v1))] [] σ := by
  refine pw_aload_n C dX8_goes_0 rfl 0 rfl ?_
  refine pw_dup C dX8_goes_1 rfl ?_
  refine pw_geti C dX8_goes_2 gf_RX8_169 gk_189.1 gk_189.2 rfl ?_
  refine pw_aload_n C dX8_goes_5 rfl 0 rfl ?_
  refine pw_geti C dX8_goes_6 gf_RX8_160 gk_189.1 gk_189.2 rfl ?_
  have hJ : ∀ w0 : Bool, (if (σ.1 189 4) = 0 then false else (if v1 = false then true else false : Bool) : Bool) = w0 → PW x G 2 21 [(0, .ref (G.1 + 189)), (1, .int (gz v1))] [.int (gz w0), .int (σ.1 189 5), .ref (G.1 + 189)] σ := by
    rintro _ rfl
    refine pw_iadd C dX8_goes_21 ?_
    refine pw_puti C dX8_goes_22 gf_RX8_169 rfl rfl rfl gk_189.1 gk_189.2 rfl ?_
    generalize hτ1 : gw_u σ 189 5 ((σ.1 189 5) + (gz (if (σ.1 189 4) = 0 then false else (if v1 = false then true else false : Bool) : Bool))) = τ1
    replace h := h τ1 hτ1.symm
    show PW x G 2 25 [(0, .ref (G.1 + 189)), (1, .int (gz v1))] [] τ1
    refine pw_aload_n C dX8_goes_25 rfl 0 rfl ?_
    refine pw_geti C dX8_goes_26 gf_RX8_160 gk_189.1 gk_189.2 rfl ?_
    have hJ : ∀ w0 : Bool, (if (τ1.1 189 4) = 0 then false else (if v1 = false then false else true : Bool) : Bool) = w0 → PW x G 2 41 [(0, .ref (G.1 + 189)), (1, .int (gz v1))] [.int (gz w0)] τ1 := by
      rintro _ rfl
      exact pw_zret (b := (if (τ1.1 189 4) = 0 then false else (if v1 = false then false else true : Bool) : Bool)) C hT dX8_goes_41 h
    clear h
    refine pw_if_eq (tgt := 40) C dX8_goes_29 (by decide) (fun q2 => ?_) (fun q2 => ?_)
    · refine pw_iconst (v := 0) C dX8_goes_40 (by decide) ?_
      exact hJ false (if_pos q2)
    · refine pw_iload_n C dX8_goes_32 rfl 1 rfl ?_
      refine pw_z_eq (tgt := 40) C dX8_goes_33 (by decide) (fun q3 => ?_) (fun q3 => ?_)
      · refine pw_iconst (v := 0) C dX8_goes_40 (by decide) ?_
        exact hJ false ((if_neg q2).trans (if_pos q3))
      · refine pw_iconst (v := 1) C dX8_goes_36 (by decide) ?_
        refine pw_goto (tgt := 41) C dX8_goes_37 (by decide) ?_
        exact hJ true ((if_neg q2).trans (if_neg q3))
  clear h
  refine pw_if_eq (tgt := 20) C dX8_goes_9 (by decide) (fun q1 => ?_) (fun q1 => ?_)
  · refine pw_iconst (v := 0) C dX8_goes_20 (by decide) ?_
    exact hJ false (if_pos q1)
  · refine pw_iload_n C dX8_goes_12 rfl 1 rfl ?_
    refine pw_z_ne (tgt := 20) C dX8_goes_13 (by decide) (fun q2 => ?_) (fun q2 => ?_)
    · refine pw_iconst (v := 0) C dX8_goes_20 (by decide) ?_
      exact hJ false ((if_neg q1).trans (if_neg q2))
    · refine pw_iconst (v := 1) C dX8_goes_16 (by decide) ?_
      refine pw_goto (tgt := 21) C dX8_goes_17 (by decide) ?_
      exact hJ true ((if_neg q1).trans (if_pos q2))
set_option maxRecDepth 4000 in
theorem sg_X8_readModule_0 {x : gw_X} {G : gw_G} {Φ : gw_S → Prop} (C : XC x G RX8 cX8_readModule 3 none) (hR : gw_ok x 2) (hT : RT x G (fv Φ))  (σ : gw_S)
    (h : ∃ Φ1 : gw_S → Prop, gw_M (xl x) G yX8_accept cX8_accept 2 none 0 [.ref (G.1 + 189), .int 1] σ (fv Φ1) ∧ ∀ (τ2 : gw_S), Φ1 τ2 → (∃ Φ3 : Int32 → gw_S → Prop, gw_M (xl x) G yX8_digit cX8_digit 4 (some .int) 1 [.ref (G.1 + 189), .int 0, .int 3] τ2 (fi Φ3) ∧ ∀ (r5 : Int32) (τ4 : gw_S), Φ3 r5 τ4 → (∃ Φ6 : Int32 → gw_S → Prop, gw_M (xl x) G yX8_digit cX8_digit 4 (some .int) 1 [.ref (G.1 + 189), .int 0, .int 3] τ4 (fi Φ6) ∧ ∀ (r8 : Int32) (τ7 : gw_S), Φ6 r8 τ7 → (∃ Φ9 : Bool → gw_S → Prop, gw_M (xl x) G yX8_goes cX8_goes 2 (some .boolean) 0 [.ref (G.1 + 189), .int (gz (if 8 ≤ (τ7.1 191 ((0 : Int32).toNatClampNeg)) then false else true : Bool))] τ7 (fz Φ9) ∧ ∀ (r11 : Bool) (τ10 : gw_S), Φ9 r11 τ10 → ((r11 = false → Φ τ10) ∧ (¬ (r11 = false) → ∃ Φ12 : gw_S → Prop, gw_M (xl x) G yX8_add cX8_add 4 none 1 [.ref (G.1 + 191), .int r5, .int r8] τ10 (fv Φ12) ∧ ∀ (τ13 : gw_S), Φ12 τ13 → (Φ τ13))))))) : PW x G 3 0 [(0, .ref (G.1 + 189))] [] σ := by
  refine pw_aload_n C dX8_readModule_0 rfl 0 rfl ?_
  refine pw_iconst (v := 1) C dX8_readModule_1 (by decide) ?_
  obtain ⟨Φ1, hM, h⟩ := h
  refine pw_callV C dX8_readModule_2 hM gm_X8_accept gl_RX8_165 rfl hR (by decide) (by decide) (by decide) rfl gk_189.1 gk_189.2 rfl (Nat.le_of_ble_eq_true rfl) ?_
  rintro _ τ2 ⟨rfl, hv⟩
  replace h := h τ2 hv
  show PW x G 3 5 [(0, .ref (G.1 + 189))] [] τ2
  refine pw_aload_n C dX8_readModule_5 rfl 0 rfl ?_
  refine pw_iconst (v := 0) C dX8_readModule_6 (by decide) ?_
  refine pw_iconst (v := 3) C dX8_readModule_7 (by decide) ?_
  obtain ⟨Φ3, hM, h⟩ := h
  refine pw_callV C dX8_readModule_8 hM gm_X8_digit gl_RX8_172 rfl hR (by decide) (by decide) (by decide) rfl gk_189.1 gk_189.2 rfl (Nat.le_of_ble_eq_true rfl) ?_
  rintro _ τ4 ⟨r5, rfl, hv⟩
  replace h := h r5 τ4 hv
  show PW x G 3 11 [(0, .ref (G.1 + 189))] [.int r5] τ4
  refine pw_istore_n C dX8_readModule_11 rfl (by decide) rfl ?_
  refine pw_aload_n C dX8_readModule_12 rfl 1 rfl ?_
  refine pw_iconst (v := 0) C dX8_readModule_13 (by decide) ?_
  refine pw_iconst (v := 3) C dX8_readModule_14 (by decide) ?_
  obtain ⟨Φ6, hM, h⟩ := h
  refine pw_callV C dX8_readModule_15 hM gm_X8_digit gl_RX8_172 rfl hR (by decide) (by decide) (by decide) rfl gk_189.1 gk_189.2 rfl (Nat.le_of_ble_eq_true rfl) ?_
  rintro _ τ7 ⟨r8, rfl, hv⟩
  replace h := h r8 τ7 hv
  show PW x G 3 18 [(1, .int r5), (0, .ref (G.1 + 189))] [.int r8] τ7
  refine pw_istore_n C dX8_readModule_18 rfl (by decide) rfl ?_
  refine pw_aload_n C dX8_readModule_19 rfl 2 rfl ?_
  refine pw_aload_n C dX8_readModule_20 rfl 2 rfl ?_
  refine pw_getr C dX8_readModule_21 gf_RX8_13 gk_189.1 gk_189.2 rfl ?_
  refine pw_iconst (v := 0) C dX8_readModule_24 (by decide) ?_
  refine pw_iald C dX8_readModule_25 gk_191.1 gk_191.2 (by show ¬ (_ ∨ _); decide) ?_
  refine pw_bipush (v := 8) C dX8_readModule_26 (by decide) ?_
  have hJ : ∀ w0 : Bool, (if 8 ≤ (τ7.1 191 ((0 : Int32).toNatClampNeg)) then false else true : Bool) = w0 → PW x G 3 36 [(2, .int r8), (1, .int r5), (0, .ref (G.1 + 189))] [.int (gz w0), .ref (G.1 + 189)] τ7 := by
    rintro _ rfl
    obtain ⟨Φ9, hM, h⟩ := h
    refine pw_callV C dX8_readModule_36 hM gm_X8_goes gl_RX8_175 rfl hR (by decide) (by decide) (by decide) rfl gk_189.1 gk_189.2 rfl (Nat.le_of_ble_eq_true rfl) ?_
    rintro _ τ10 ⟨r11, rfl, hv⟩
    replace h := h r11 τ10 hv
    show PW x G 3 39 [(2, .int r8), (1, .int r5), (0, .ref (G.1 + 189))] [.int (gz r11)] τ10
    refine pw_z_eq (tgt := 51) C dX8_readModule_39 (by decide) (fun q => ?_) (fun q => ?_)
    · replace h := h.1 q
      exact pw_vret C hT dX8_readModule_51 h
    · replace h := h.2 q
      refine pw_aload_n C dX8_readModule_42 rfl 2 rfl ?_
      refine pw_getr C dX8_readModule_43 gf_RX8_13 gk_189.1 gk_189.2 rfl ?_
      refine pw_iload_n C dX8_readModule_46 rfl 1 rfl ?_
      refine pw_iload_n C dX8_readModule_47 rfl 0 rfl ?_
      obtain ⟨Φ12, hM, h⟩ := h
      refine pw_callS C dX8_readModule_48 hM gm_X8_add gl_RX8_179 rfl hR (by decide) (by decide) rfl (Nat.le_of_ble_eq_true rfl) ?_
      rintro _ τ13 ⟨rfl, hv⟩
      replace h := h τ13 hv
      show PW x G 3 51 [(2, .int r8), (1, .int r5), (0, .ref (G.1 + 189))] [] τ13
      exact pw_vret C hT dX8_readModule_51 h
  clear h
  refine pw_icmp_ge (tgt := 35) C dX8_readModule_28 (by decide) (fun q1 => ?_) (fun q1 => ?_)
  · refine pw_iconst (v := 0) C dX8_readModule_35 (by decide) ?_
    exact hJ false (if_pos q1)
  · refine pw_iconst (v := 1) C dX8_readModule_31 (by decide) ?_
    refine pw_goto (tgt := 36) C dX8_readModule_32 (by decide) ?_
    exact hJ true (if_neg q1)
set_option maxRecDepth 4000 in
theorem sg_X8_readWire_0 {x : gw_X} {G : gw_G} {Φ : gw_S → Prop} (C : XC x G RX8 cX8_readWire 7 none) (hR : gw_ok x 4) (hT : RT x G (fv Φ))  (σ : gw_S)
    (h : ∃ Φ1 : gw_S → Prop, gw_M (xl x) G yX8_accept cX8_accept 2 none 0 [.ref (G.1 + 189), .int 1] σ (fv Φ1) ∧ ∀ (τ2 : gw_S), Φ1 τ2 → (∃ Φ3 : Int32 → gw_S → Prop, gw_M (xl x) G yX8_digit cX8_digit 4 (some .int) 1 [.ref (G.1 + 189), .int 0, .int 7] τ2 (fi Φ3) ∧ ∀ (r5 : Int32) (τ4 : gw_S), Φ3 r5 τ4 → (∃ Φ6 : Int32 → gw_S → Prop, gw_M (xl x) G yX8_digit cX8_digit 4 (some .int) 1 [.ref (G.1 + 189), .int 0, .int 7] τ4 (fi Φ6) ∧ ∀ (r8 : Int32) (τ7 : gw_S), Φ6 r8 τ7 → (∃ Φ9 : Int32 → gw_S → Prop, gw_M (xl x) G yX8_digit cX8_digit 4 (some .int) 1 [.ref (G.1 + 189), .int 1, .int 6] τ7 (fi Φ9) ∧ ∀ (r11 : Int32) (τ10 : gw_S), Φ9 r11 τ10 → (∃ Φ12 : Int32 → gw_S → Prop, gw_M (xl x) G yX8_digit cX8_digit 4 (some .int) 1 [.ref (G.1 + 189), .int 1, .int 6] τ10 (fi Φ12) ∧ ∀ (r14 : Int32) (τ13 : gw_S), Φ12 r14 τ13 → (∃ Φ15 : Int32 → gw_S → Prop, gw_M (xl x) G yX8_digit cX8_digit 4 (some .int) 1 [.ref (G.1 + 189), .int 0, .int 9] τ13 (fi Φ15) ∧ ∀ (r17 : Int32) (τ16 : gw_S), Φ15 r17 τ16 → (∃ Φ18 : Int32 → gw_S → Prop, gw_M (xl x) G yX8_digit cX8_digit 4 (some .int) 1 [.ref (G.1 + 189), .int 0, .int 9] τ16 (fi Φ18) ∧ ∀ (r20 : Int32) (τ19 : gw_S), Φ18 r20 τ19 → (((τ19.1 189 4) = 0 → ∃ Φ21 : Bool → gw_S → Prop, gw_M (xl x) G yX8_goes cX8_goes 2 (some .boolean) 0 [.ref (G.1 + 189), .int 0] τ19 (fz Φ21) ∧ ∀ (r23 : Bool) (τ22 : gw_S), Φ21 r23 τ22 → ((r23 = false → Φ τ22) ∧ (¬ (r23 = false) → ∃ Φ24 : gw_S → Prop, gw_M (xl x) G yX8_layIn cX8_layIn 7 none 1 [.ref (G.1 + 191), .int r5, .int r8, .int r11, .int r14, .int ((10 * r17) + r20)] τ22 (fv Φ24) ∧ ∀ (τ25 : gw_S), Φ24 τ25 → (Φ τ25)))) ∧ (¬ ((τ19.1 189 4) = 0) → ((τ19.1 191 ((0 : Int32).toNatClampNeg)) ≤ r5 → ∃ Φ26 : Bool → gw_S → Prop, gw_M (xl x) G yX8_goes cX8_goes 2 (some .boolean) 0 [.ref (G.1 + 189), .int 0] τ19 (fz Φ26) ∧ ∀ (r28 : Bool) (τ27 : gw_S), Φ26 r28 τ27 → ((r28 = false → Φ τ27) ∧ (¬ (r28 = false) → ∃ Φ29 : gw_S → Prop, gw_M (xl x) G yX8_layIn cX8_layIn 7 none 1 [.ref (G.1 + 191), .int r5, .int r8, .int r11, .int r14, .int ((10 * r17) + r20)] τ27 (fv Φ29) ∧ ∀ (τ30 : gw_S), Φ29 τ30 → (Φ τ30)))) ∧ (¬ ((τ19.1 191 ((0 : Int32).toNatClampNeg)) ≤ r5) → ((τ19.1 191 ((0 : Int32).toNatClampNeg)) ≤ r8 → ∃ Φ31 : Bool → gw_S → Prop, gw_M (xl x) G yX8_goes cX8_goes 2 (some .boolean) 0 [.ref (G.1 + 189), .int 0] τ19 (fz Φ31) ∧ ∀ (r33 : Bool) (τ32 : gw_S), Φ31 r33 τ32 → ((r33 = false → Φ τ32) ∧ (¬ (r33 = false) → ∃ Φ34 : gw_S → Prop, gw_M (xl x) G yX8_layIn cX8_layIn 7 none 1 [.ref (G.1 + 191), .int r5, .int r8, .int r11, .int r14, .int ((10 * r17) + r20)] τ32 (fv Φ34) ∧ ∀ (τ35 : gw_S), Φ34 τ35 → (Φ τ35)))) ∧ (¬ ((τ19.1 191 ((0 : Int32).toNatClampNeg)) ≤ r8) → ∃ Φ36 : Bool → gw_S → Prop, gw_M (xl x) G yX8_canLay cX8_canLay 5 (some .boolean) 3 [.ref (G.1 + 189), .ref (G.1 + 191), .int r5, .int r8, .int ((10 * r17) + r20)] τ19 (fz Φ36) ∧ ∀ (r38 : Bool) (τ37 : gw_S), Φ36 r38 τ37 → (∃ Φ39 : Bool → gw_S → Prop, gw_M (xl x) G yX8_goes cX8_goes 2 (some .boolean) 0 [.ref (G.1 + 189), .int (gz (if r38 = false then false else true : Bool))] τ37 (fz Φ39) ∧ ∀ (r41 : Bool) (τ40 : gw_S), Φ39 r41 τ40 → ((r41 = false → Φ τ40) ∧ (¬ (r41 = false) → ∃ Φ42 : gw_S → Prop, gw_M (xl x) G yX8_layIn cX8_layIn 7 none 1 [.ref (G.1 + 191), .int r5, .int r8, .int r11, .int r14, .int ((10 * r17) + r20)] τ40 (fv Φ42) ∧ ∀ (τ43 : gw_S), Φ42 τ43 → (Φ τ43))))))))))))))) : PW x G 7 0 [(0, .ref (G.1 + 189))] [] σ := by
  refine pw_aload_n C dX8_readWire_0 rfl 0 rfl ?_
  refine pw_iconst (v := 1) C dX8_readWire_1 (by decide) ?_
  obtain ⟨Φ1, hM, h⟩ := h
  refine pw_callV C dX8_readWire_2 hM gm_X8_accept gl_RX8_165 rfl hR (by decide) (by decide) (by decide) rfl gk_189.1 gk_189.2 rfl (Nat.le_of_ble_eq_true rfl) ?_
  rintro _ τ2 ⟨rfl, hv⟩
  replace h := h τ2 hv
  show PW x G 7 5 [(0, .ref (G.1 + 189))] [] τ2
  refine pw_aload_n C dX8_readWire_5 rfl 0 rfl ?_
  refine pw_iconst (v := 0) C dX8_readWire_6 (by decide) ?_
  refine pw_bipush (v := 7) C dX8_readWire_7 (by decide) ?_
  obtain ⟨Φ3, hM, h⟩ := h
  refine pw_callV C dX8_readWire_9 hM gm_X8_digit gl_RX8_172 rfl hR (by decide) (by decide) (by decide) rfl gk_189.1 gk_189.2 rfl (Nat.le_of_ble_eq_true rfl) ?_
  rintro _ τ4 ⟨r5, rfl, hv⟩
  replace h := h r5 τ4 hv
  show PW x G 7 12 [(0, .ref (G.1 + 189))] [.int r5] τ4
  refine pw_istore_n C dX8_readWire_12 rfl (by decide) rfl ?_
  refine pw_aload_n C dX8_readWire_13 rfl 1 rfl ?_
  refine pw_iconst (v := 0) C dX8_readWire_14 (by decide) ?_
  refine pw_bipush (v := 7) C dX8_readWire_15 (by decide) ?_
  obtain ⟨Φ6, hM, h⟩ := h
  refine pw_callV C dX8_readWire_17 hM gm_X8_digit gl_RX8_172 rfl hR (by decide) (by decide) (by decide) rfl gk_189.1 gk_189.2 rfl (Nat.le_of_ble_eq_true rfl) ?_
  rintro _ τ7 ⟨r8, rfl, hv⟩
  replace h := h r8 τ7 hv
  show PW x G 7 20 [(1, .int r5), (0, .ref (G.1 + 189))] [.int r8] τ7
  refine pw_istore_n C dX8_readWire_20 rfl (by decide) rfl ?_
  refine pw_aload_n C dX8_readWire_21 rfl 2 rfl ?_
  refine pw_iconst (v := 1) C dX8_readWire_22 (by decide) ?_
  refine pw_bipush (v := 6) C dX8_readWire_23 (by decide) ?_
  obtain ⟨Φ9, hM, h⟩ := h
  refine pw_callV C dX8_readWire_25 hM gm_X8_digit gl_RX8_172 rfl hR (by decide) (by decide) (by decide) rfl gk_189.1 gk_189.2 rfl (Nat.le_of_ble_eq_true rfl) ?_
  rintro _ τ10 ⟨r11, rfl, hv⟩
  replace h := h r11 τ10 hv
  show PW x G 7 28 [(2, .int r8), (1, .int r5), (0, .ref (G.1 + 189))] [.int r11] τ10
  refine pw_istore_n C dX8_readWire_28 rfl (by decide) rfl ?_
  refine pw_aload_n C dX8_readWire_29 rfl 3 rfl ?_
  refine pw_iconst (v := 1) C dX8_readWire_30 (by decide) ?_
  refine pw_bipush (v := 6) C dX8_readWire_31 (by decide) ?_
  obtain ⟨Φ12, hM, h⟩ := h
  refine pw_callV C dX8_readWire_33 hM gm_X8_digit gl_RX8_172 rfl hR (by decide) (by decide) (by decide) rfl gk_189.1 gk_189.2 rfl (Nat.le_of_ble_eq_true rfl) ?_
  rintro _ τ13 ⟨r14, rfl, hv⟩
  replace h := h r14 τ13 hv
  show PW x G 7 36 [(3, .int r11), (2, .int r8), (1, .int r5), (0, .ref (G.1 + 189))] [.int r14] τ13
  refine pw_istore C dX8_readWire_36 (by decide) rfl ?_
  refine pw_aload_n C dX8_readWire_38 rfl 4 rfl ?_
  refine pw_iconst (v := 0) C dX8_readWire_39 (by decide) ?_
  refine pw_bipush (v := 9) C dX8_readWire_40 (by decide) ?_
  obtain ⟨Φ15, hM, h⟩ := h
  refine pw_callV C dX8_readWire_42 hM gm_X8_digit gl_RX8_172 rfl hR (by decide) (by decide) (by decide) rfl gk_189.1 gk_189.2 rfl (Nat.le_of_ble_eq_true rfl) ?_
  rintro _ τ16 ⟨r17, rfl, hv⟩
  replace h := h r17 τ16 hv
  show PW x G 7 45 [(4, .int r14), (3, .int r11), (2, .int r8), (1, .int r5), (0, .ref (G.1 + 189))] [.int r17] τ16
  refine pw_istore C dX8_readWire_45 (by decide) rfl ?_
  refine pw_bipush (v := 10) C dX8_readWire_47 (by decide) ?_
  refine pw_iload C dX8_readWire_49 0 rfl ?_
  refine pw_imul C dX8_readWire_51 ?_
  refine pw_aload_n C dX8_readWire_52 rfl 5 rfl ?_
  refine pw_iconst (v := 0) C dX8_readWire_53 (by decide) ?_
  refine pw_bipush (v := 9) C dX8_readWire_54 (by decide) ?_
  obtain ⟨Φ18, hM, h⟩ := h
  refine pw_callV C dX8_readWire_56 hM gm_X8_digit gl_RX8_172 rfl hR (by decide) (by decide) (by decide) rfl gk_189.1 gk_189.2 rfl (Nat.le_of_ble_eq_true rfl) ?_
  rintro _ τ19 ⟨r20, rfl, hv⟩
  replace h := h r20 τ19 hv
  show PW x G 7 59 [(5, .int r17), (4, .int r14), (3, .int r11), (2, .int r8), (1, .int r5), (0, .ref (G.1 + 189))] [.int r20, .int (10 * r17)] τ19
  refine pw_iadd C dX8_readWire_59 ?_
  refine pw_istore C dX8_readWire_60 (by decide) rfl ?_
  refine pw_aload_n C dX8_readWire_62 rfl 6 rfl ?_
  refine pw_aload_n C dX8_readWire_63 rfl 6 rfl ?_
  refine pw_geti C dX8_readWire_64 gf_RX8_160 gk_189.1 gk_189.2 rfl ?_
  refine pw_if_eq (tgt := 109) C dX8_readWire_67 (by decide) (fun q => ?_) (fun q => ?_)
  · replace h := h.1 q
    refine pw_iconst (v := 0) C dX8_readWire_109 (by decide) ?_
    obtain ⟨Φ21, hM, h⟩ := h
    refine pw_callV C dX8_readWire_110 hM gm_X8_goes gl_RX8_175 rfl hR (by decide) (by decide) (by decide) rfl gk_189.1 gk_189.2 rfl (Nat.le_of_ble_eq_true rfl) ?_
    rintro _ τ22 ⟨r23, rfl, hv⟩
    replace h := h r23 τ22 hv
    show PW x G 7 113 [(6, .int ((10 * r17) + r20)), (5, .int r17), (4, .int r14), (3, .int r11), (2, .int r8), (1, .int r5), (0, .ref (G.1 + 189))] [.int (gz r23)] τ22
    refine pw_z_eq (tgt := 130) C dX8_readWire_113 (by decide) (fun q => ?_) (fun q => ?_)
    · replace h := h.1 q
      exact pw_vret C hT dX8_readWire_130 h
    · replace h := h.2 q
      refine pw_aload_n C dX8_readWire_116 rfl 6 rfl ?_
      refine pw_getr C dX8_readWire_117 gf_RX8_13 gk_189.1 gk_189.2 rfl ?_
      refine pw_iload_n C dX8_readWire_120 rfl 5 rfl ?_
      refine pw_iload_n C dX8_readWire_121 rfl 4 rfl ?_
      refine pw_iload_n C dX8_readWire_122 rfl 3 rfl ?_
      refine pw_iload C dX8_readWire_123 2 rfl ?_
      refine pw_iload C dX8_readWire_125 0 rfl ?_
      obtain ⟨Φ24, hM, h⟩ := h
      refine pw_callS C dX8_readWire_127 hM gm_X8_layIn gl_RX8_187 rfl hR (by decide) (by decide) rfl (Nat.le_of_ble_eq_true rfl) ?_
      rintro _ τ25 ⟨rfl, hv⟩
      replace h := h τ25 hv
      show PW x G 7 130 [(6, .int ((10 * r17) + r20)), (5, .int r17), (4, .int r14), (3, .int r11), (2, .int r8), (1, .int r5), (0, .ref (G.1 + 189))] [] τ25
      exact pw_vret C hT dX8_readWire_130 h
  · replace h := h.2 q
    refine pw_iload_n C dX8_readWire_70 rfl 5 rfl ?_
    refine pw_aload_n C dX8_readWire_71 rfl 6 rfl ?_
    refine pw_getr C dX8_readWire_72 gf_RX8_13 gk_189.1 gk_189.2 rfl ?_
    refine pw_iconst (v := 0) C dX8_readWire_75 (by decide) ?_
    refine pw_iald C dX8_readWire_76 gk_191.1 gk_191.2 (by show ¬ (_ ∨ _); decide) ?_
    refine pw_icmp_ge (tgt := 109) C dX8_readWire_77 (by decide) (fun q => ?_) (fun q => ?_)
    · replace h := h.1 q
      refine pw_iconst (v := 0) C dX8_readWire_109 (by decide) ?_
      obtain ⟨Φ26, hM, h⟩ := h
      refine pw_callV C dX8_readWire_110 hM gm_X8_goes gl_RX8_175 rfl hR (by decide) (by decide) (by decide) rfl gk_189.1 gk_189.2 rfl (Nat.le_of_ble_eq_true rfl) ?_
      rintro _ τ27 ⟨r28, rfl, hv⟩
      replace h := h r28 τ27 hv
      show PW x G 7 113 [(6, .int ((10 * r17) + r20)), (5, .int r17), (4, .int r14), (3, .int r11), (2, .int r8), (1, .int r5), (0, .ref (G.1 + 189))] [.int (gz r28)] τ27
      refine pw_z_eq (tgt := 130) C dX8_readWire_113 (by decide) (fun q => ?_) (fun q => ?_)
      · replace h := h.1 q
        exact pw_vret C hT dX8_readWire_130 h
      · replace h := h.2 q
        refine pw_aload_n C dX8_readWire_116 rfl 6 rfl ?_
        refine pw_getr C dX8_readWire_117 gf_RX8_13 gk_189.1 gk_189.2 rfl ?_
        refine pw_iload_n C dX8_readWire_120 rfl 5 rfl ?_
        refine pw_iload_n C dX8_readWire_121 rfl 4 rfl ?_
        refine pw_iload_n C dX8_readWire_122 rfl 3 rfl ?_
        refine pw_iload C dX8_readWire_123 2 rfl ?_
        refine pw_iload C dX8_readWire_125 0 rfl ?_
        obtain ⟨Φ29, hM, h⟩ := h
        refine pw_callS C dX8_readWire_127 hM gm_X8_layIn gl_RX8_187 rfl hR (by decide) (by decide) rfl (Nat.le_of_ble_eq_true rfl) ?_
        rintro _ τ30 ⟨rfl, hv⟩
        replace h := h τ30 hv
        show PW x G 7 130 [(6, .int ((10 * r17) + r20)), (5, .int r17), (4, .int r14), (3, .int r11), (2, .int r8), (1, .int r5), (0, .ref (G.1 + 189))] [] τ30
        exact pw_vret C hT dX8_readWire_130 h
    · replace h := h.2 q
      refine pw_iload_n C dX8_readWire_80 rfl 4 rfl ?_
      refine pw_aload_n C dX8_readWire_81 rfl 6 rfl ?_
      refine pw_getr C dX8_readWire_82 gf_RX8_13 gk_189.1 gk_189.2 rfl ?_
      refine pw_iconst (v := 0) C dX8_readWire_85 (by decide) ?_
      refine pw_iald C dX8_readWire_86 gk_191.1 gk_191.2 (by show ¬ (_ ∨ _); decide) ?_
      refine pw_icmp_ge (tgt := 109) C dX8_readWire_87 (by decide) (fun q => ?_) (fun q => ?_)
      · replace h := h.1 q
        refine pw_iconst (v := 0) C dX8_readWire_109 (by decide) ?_
        obtain ⟨Φ31, hM, h⟩ := h
        refine pw_callV C dX8_readWire_110 hM gm_X8_goes gl_RX8_175 rfl hR (by decide) (by decide) (by decide) rfl gk_189.1 gk_189.2 rfl (Nat.le_of_ble_eq_true rfl) ?_
        rintro _ τ32 ⟨r33, rfl, hv⟩
        replace h := h r33 τ32 hv
        show PW x G 7 113 [(6, .int ((10 * r17) + r20)), (5, .int r17), (4, .int r14), (3, .int r11), (2, .int r8), (1, .int r5), (0, .ref (G.1 + 189))] [.int (gz r33)] τ32
        refine pw_z_eq (tgt := 130) C dX8_readWire_113 (by decide) (fun q => ?_) (fun q => ?_)
        · replace h := h.1 q
          exact pw_vret C hT dX8_readWire_130 h
        · replace h := h.2 q
          refine pw_aload_n C dX8_readWire_116 rfl 6 rfl ?_
          refine pw_getr C dX8_readWire_117 gf_RX8_13 gk_189.1 gk_189.2 rfl ?_
          refine pw_iload_n C dX8_readWire_120 rfl 5 rfl ?_
          refine pw_iload_n C dX8_readWire_121 rfl 4 rfl ?_
          refine pw_iload_n C dX8_readWire_122 rfl 3 rfl ?_
          refine pw_iload C dX8_readWire_123 2 rfl ?_
          refine pw_iload C dX8_readWire_125 0 rfl ?_
          obtain ⟨Φ34, hM, h⟩ := h
          refine pw_callS C dX8_readWire_127 hM gm_X8_layIn gl_RX8_187 rfl hR (by decide) (by decide) rfl (Nat.le_of_ble_eq_true rfl) ?_
          rintro _ τ35 ⟨rfl, hv⟩
          replace h := h τ35 hv
          show PW x G 7 130 [(6, .int ((10 * r17) + r20)), (5, .int r17), (4, .int r14), (3, .int r11), (2, .int r8), (1, .int r5), (0, .ref (G.1 + 189))] [] τ35
          exact pw_vret C hT dX8_readWire_130 h
      · replace h := h.2 q
        refine pw_aload_n C dX8_readWire_90 rfl 6 rfl ?_
        refine pw_aload_n C dX8_readWire_91 rfl 6 rfl ?_
        refine pw_getr C dX8_readWire_92 gf_RX8_13 gk_189.1 gk_189.2 rfl ?_
        refine pw_iload_n C dX8_readWire_95 rfl 5 rfl ?_
        refine pw_iload_n C dX8_readWire_96 rfl 4 rfl ?_
        refine pw_iload C dX8_readWire_97 0 rfl ?_
        obtain ⟨Φ36, hM, h⟩ := h
        refine pw_callV C dX8_readWire_99 hM gm_X8_canLay gl_RX8_183 rfl hR (by decide) (by decide) (by decide) rfl gk_189.1 gk_189.2 rfl (Nat.le_of_ble_eq_true rfl) ?_
        rintro _ τ37 ⟨r38, rfl, hv⟩
        replace h := h r38 τ37 hv
        show PW x G 7 102 [(6, .int ((10 * r17) + r20)), (5, .int r17), (4, .int r14), (3, .int r11), (2, .int r8), (1, .int r5), (0, .ref (G.1 + 189))] [.int (gz r38), .ref (G.1 + 189)] τ37
        have hJ : ∀ w0 : Bool, (if r38 = false then false else true : Bool) = w0 → PW x G 7 110 [(6, .int ((10 * r17) + r20)), (5, .int r17), (4, .int r14), (3, .int r11), (2, .int r8), (1, .int r5), (0, .ref (G.1 + 189))] [.int (gz w0), .ref (G.1 + 189)] τ37 := by
          rintro _ rfl
          obtain ⟨Φ39, hM, h⟩ := h
          refine pw_callV C dX8_readWire_110 hM gm_X8_goes gl_RX8_175 rfl hR (by decide) (by decide) (by decide) rfl gk_189.1 gk_189.2 rfl (Nat.le_of_ble_eq_true rfl) ?_
          rintro _ τ40 ⟨r41, rfl, hv⟩
          replace h := h r41 τ40 hv
          show PW x G 7 113 [(6, .int ((10 * r17) + r20)), (5, .int r17), (4, .int r14), (3, .int r11), (2, .int r8), (1, .int r5), (0, .ref (G.1 + 189))] [.int (gz r41)] τ40
          refine pw_z_eq (tgt := 130) C dX8_readWire_113 (by decide) (fun q => ?_) (fun q => ?_)
          · replace h := h.1 q
            exact pw_vret C hT dX8_readWire_130 h
          · replace h := h.2 q
            refine pw_aload_n C dX8_readWire_116 rfl 6 rfl ?_
            refine pw_getr C dX8_readWire_117 gf_RX8_13 gk_189.1 gk_189.2 rfl ?_
            refine pw_iload_n C dX8_readWire_120 rfl 5 rfl ?_
            refine pw_iload_n C dX8_readWire_121 rfl 4 rfl ?_
            refine pw_iload_n C dX8_readWire_122 rfl 3 rfl ?_
            refine pw_iload C dX8_readWire_123 2 rfl ?_
            refine pw_iload C dX8_readWire_125 0 rfl ?_
            obtain ⟨Φ42, hM, h⟩ := h
            refine pw_callS C dX8_readWire_127 hM gm_X8_layIn gl_RX8_187 rfl hR (by decide) (by decide) rfl (Nat.le_of_ble_eq_true rfl) ?_
            rintro _ τ43 ⟨rfl, hv⟩
            replace h := h τ43 hv
            show PW x G 7 130 [(6, .int ((10 * r17) + r20)), (5, .int r17), (4, .int r14), (3, .int r11), (2, .int r8), (1, .int r5), (0, .ref (G.1 + 189))] [] τ43
            exact pw_vret C hT dX8_readWire_130 h
        clear h
        refine pw_z_eq (tgt := 109) C dX8_readWire_102 (by decide) (fun q4 => ?_) (fun q4 => ?_)
        · refine pw_iconst (v := 0) C dX8_readWire_109 (by decide) ?_
          exact hJ false (if_pos q4)
        · refine pw_iconst (v := 1) C dX8_readWire_105 (by decide) ?_
          refine pw_goto (tgt := 110) C dX8_readWire_106 (by decide) ?_
          exact hJ true (if_neg q4)
set_option maxRecDepth 4000 in
theorem sg_X8_readCut_0 {x : gw_X} {G : gw_G} {Φ : gw_S → Prop} (C : XC x G RX8 cX8_readCut 3 none) (hR : gw_ok x 2) (hT : RT x G (fv Φ))  (σ : gw_S)
    (h : ∃ Φ1 : gw_S → Prop, gw_M (xl x) G yX8_accept cX8_accept 2 none 0 [.ref (G.1 + 189), .int 1] σ (fv Φ1) ∧ ∀ (τ2 : gw_S), Φ1 τ2 → (∃ Φ3 : Int32 → gw_S → Prop, gw_M (xl x) G yX8_digit cX8_digit 4 (some .int) 1 [.ref (G.1 + 189), .int 0, .int 1] τ2 (fi Φ3) ∧ ∀ (r5 : Int32) (τ4 : gw_S), Φ3 r5 τ4 → (∃ Φ6 : Int32 → gw_S → Prop, gw_M (xl x) G yX8_digit cX8_digit 4 (some .int) 1 [.ref (G.1 + 189), .int 0, .int (if r5 = 1 then 3 else 9 : Int32)] τ4 (fi Φ6) ∧ ∀ (r8 : Int32) (τ7 : gw_S), Φ6 r8 τ7 → (∃ Φ9 : Bool → gw_S → Prop, gw_M (xl x) G yX8_goes cX8_goes 2 (some .boolean) 0 [.ref (G.1 + 189), .int (gz (if (τ7.1 191 ((1 : Int32).toNatClampNeg)) ≤ ((10 * r5) + r8) then false else true : Bool))] τ7 (fz Φ9) ∧ ∀ (r11 : Bool) (τ10 : gw_S), Φ9 r11 τ10 → ((r11 = false → Φ τ10) ∧ (¬ (r11 = false) → ∃ Φ12 : gw_S → Prop, gw_M (xl x) G yX8_cutIn cX8_cutIn 2 none 1 [.ref (G.1 + 191), .int ((10 * r5) + r8)] τ10 (fv Φ12) ∧ ∀ (τ13 : gw_S), Φ12 τ13 → (Φ τ13))))))) : PW x G 3 0 [(0, .ref (G.1 + 189))] [] σ := by
  refine pw_aload_n C dX8_readCut_0 rfl 0 rfl ?_
  refine pw_iconst (v := 1) C dX8_readCut_1 (by decide) ?_
  obtain ⟨Φ1, hM, h⟩ := h
  refine pw_callV C dX8_readCut_2 hM gm_X8_accept gl_RX8_165 rfl hR (by decide) (by decide) (by decide) rfl gk_189.1 gk_189.2 rfl (Nat.le_of_ble_eq_true rfl) ?_
  rintro _ τ2 ⟨rfl, hv⟩
  replace h := h τ2 hv
  show PW x G 3 5 [(0, .ref (G.1 + 189))] [] τ2
  refine pw_aload_n C dX8_readCut_5 rfl 0 rfl ?_
  refine pw_iconst (v := 0) C dX8_readCut_6 (by decide) ?_
  refine pw_iconst (v := 1) C dX8_readCut_7 (by decide) ?_
  obtain ⟨Φ3, hM, h⟩ := h
  refine pw_callV C dX8_readCut_8 hM gm_X8_digit gl_RX8_172 rfl hR (by decide) (by decide) (by decide) rfl gk_189.1 gk_189.2 rfl (Nat.le_of_ble_eq_true rfl) ?_
  rintro _ τ4 ⟨r5, rfl, hv⟩
  replace h := h r5 τ4 hv
  show PW x G 3 11 [(0, .ref (G.1 + 189))] [.int r5] τ4
  refine pw_istore_n C dX8_readCut_11 rfl (by decide) rfl ?_
  refine pw_bipush (v := 10) C dX8_readCut_12 (by decide) ?_
  refine pw_iload_n C dX8_readCut_14 rfl 0 rfl ?_
  refine pw_imul C dX8_readCut_15 ?_
  refine pw_aload_n C dX8_readCut_16 rfl 1 rfl ?_
  refine pw_iconst (v := 0) C dX8_readCut_17 (by decide) ?_
  refine pw_iload_n C dX8_readCut_18 rfl 0 rfl ?_
  refine pw_iconst (v := 1) C dX8_readCut_19 (by decide) ?_
  have hJ : ∀ w0 : Int32, (if r5 = 1 then 3 else 9 : Int32) = w0 → PW x G 3 29 [(1, .int r5), (0, .ref (G.1 + 189))] [.int w0, .int 0, .ref (G.1 + 189), .int (10 * r5)] τ4 := by
    rintro _ rfl
    obtain ⟨Φ6, hM, h⟩ := h
    refine pw_callV C dX8_readCut_29 hM gm_X8_digit gl_RX8_172 rfl hR (by decide) (by decide) (by decide) rfl gk_189.1 gk_189.2 rfl (Nat.le_of_ble_eq_true rfl) ?_
    rintro _ τ7 ⟨r8, rfl, hv⟩
    replace h := h r8 τ7 hv
    show PW x G 3 32 [(1, .int r5), (0, .ref (G.1 + 189))] [.int r8, .int (10 * r5)] τ7
    refine pw_iadd C dX8_readCut_32 ?_
    refine pw_istore_n C dX8_readCut_33 rfl (by decide) rfl ?_
    refine pw_aload_n C dX8_readCut_34 rfl 2 rfl ?_
    refine pw_iload_n C dX8_readCut_35 rfl 0 rfl ?_
    refine pw_aload_n C dX8_readCut_36 rfl 2 rfl ?_
    refine pw_getr C dX8_readCut_37 gf_RX8_13 gk_189.1 gk_189.2 rfl ?_
    refine pw_iconst (v := 1) C dX8_readCut_40 (by decide) ?_
    refine pw_iald C dX8_readCut_41 gk_191.1 gk_191.2 (by show ¬ (_ ∨ _); decide) ?_
    have hJ : ∀ w0 : Bool, (if (τ7.1 191 ((1 : Int32).toNatClampNeg)) ≤ ((10 * r5) + r8) then false else true : Bool) = w0 → PW x G 3 50 [(2, .int ((10 * r5) + r8)), (1, .int r5), (0, .ref (G.1 + 189))] [.int (gz w0), .ref (G.1 + 189)] τ7 := by
      rintro _ rfl
      obtain ⟨Φ9, hM, h⟩ := h
      refine pw_callV C dX8_readCut_50 hM gm_X8_goes gl_RX8_175 rfl hR (by decide) (by decide) (by decide) rfl gk_189.1 gk_189.2 rfl (Nat.le_of_ble_eq_true rfl) ?_
      rintro _ τ10 ⟨r11, rfl, hv⟩
      replace h := h r11 τ10 hv
      show PW x G 3 53 [(2, .int ((10 * r5) + r8)), (1, .int r5), (0, .ref (G.1 + 189))] [.int (gz r11)] τ10
      refine pw_z_eq (tgt := 64) C dX8_readCut_53 (by decide) (fun q => ?_) (fun q => ?_)
      · replace h := h.1 q
        exact pw_vret C hT dX8_readCut_64 h
      · replace h := h.2 q
        refine pw_aload_n C dX8_readCut_56 rfl 2 rfl ?_
        refine pw_getr C dX8_readCut_57 gf_RX8_13 gk_189.1 gk_189.2 rfl ?_
        refine pw_iload_n C dX8_readCut_60 rfl 0 rfl ?_
        obtain ⟨Φ12, hM, h⟩ := h
        refine pw_callS C dX8_readCut_61 hM gm_X8_cutIn gl_RX8_191 rfl hR (by decide) (by decide) rfl (Nat.le_of_ble_eq_true rfl) ?_
        rintro _ τ13 ⟨rfl, hv⟩
        replace h := h τ13 hv
        show PW x G 3 64 [(2, .int ((10 * r5) + r8)), (1, .int r5), (0, .ref (G.1 + 189))] [] τ13
        exact pw_vret C hT dX8_readCut_64 h
    clear h
    refine pw_icmp_ge (tgt := 49) C dX8_readCut_42 (by decide) (fun q2 => ?_) (fun q2 => ?_)
    · refine pw_iconst (v := 0) C dX8_readCut_49 (by decide) ?_
      exact hJ false (if_pos q2)
    · refine pw_iconst (v := 1) C dX8_readCut_45 (by decide) ?_
      refine pw_goto (tgt := 50) C dX8_readCut_46 (by decide) ?_
      exact hJ true (if_neg q2)
  clear h
  refine pw_icmp_ne (tgt := 27) C dX8_readCut_20 (by decide) (fun q1 => ?_) (fun q1 => ?_)
  · refine pw_bipush (v := 9) C dX8_readCut_27 (by decide) ?_
    exact hJ 9 (if_neg q1)
  · refine pw_iconst (v := 3) C dX8_readCut_23 (by decide) ?_
    refine pw_goto (tgt := 29) C dX8_readCut_24 (by decide) ?_
    exact hJ 3 (if_pos q1)
set_option maxRecDepth 4000 in
theorem sg_X8_readWork_0 {x : gw_X} {G : gw_G} {Φ : gw_S → Prop} (C : XC x G RX8 cX8_readWork 2 none) (hR : gw_ok x 2) (hT : RT x G (fv Φ))  (σ : gw_S)
    (h : ∃ Φ1 : gw_S → Prop, gw_M (xl x) G yX8_accept cX8_accept 2 none 0 [.ref (G.1 + 189), .int 1] σ (fv Φ1) ∧ ∀ (τ2 : gw_S), Φ1 τ2 → (∃ Φ3 : Int32 → gw_S → Prop, gw_M (xl x) G yX8_digit cX8_digit 4 (some .int) 1 [.ref (G.1 + 189), .int 0, .int 7] τ2 (fi Φ3) ∧ ∀ (r5 : Int32) (τ4 : gw_S), Φ3 r5 τ4 → (((τ4.1 191 ((0 : Int32).toNatClampNeg)) ≤ r5 → ∃ Φ6 : Bool → gw_S → Prop, gw_M (xl x) G yX8_goes cX8_goes 2 (some .boolean) 0 [.ref (G.1 + 189), .int 0] τ4 (fz Φ6) ∧ ∀ (r8 : Bool) (τ7 : gw_S), Φ6 r8 τ7 → ((r8 = false → Φ τ7) ∧ (¬ (r8 = false) → ∃ Φ9 : gw_S → Prop, gw_M (xl x) G yX8_workIn cX8_workIn 3 none 1 [.ref (G.1 + 191), .int r5] τ7 (fv Φ9) ∧ ∀ (τ10 : gw_S), Φ9 τ10 → (Φ τ10)))) ∧ (¬ ((τ4.1 191 ((0 : Int32).toNatClampNeg)) ≤ r5) → ∃ Φ11 : Bool → gw_S → Prop, gw_M (xl x) G yX8_canWork cX8_canWork 7 (some .boolean) 1 [.ref (G.1 + 191), .int r5] τ4 (fz Φ11) ∧ ∀ (r13 : Bool) (τ12 : gw_S), Φ11 r13 τ12 → (∃ Φ14 : Bool → gw_S → Prop, gw_M (xl x) G yX8_goes cX8_goes 2 (some .boolean) 0 [.ref (G.1 + 189), .int (gz (if r13 = false then false else true : Bool))] τ12 (fz Φ14) ∧ ∀ (r16 : Bool) (τ15 : gw_S), Φ14 r16 τ15 → ((r16 = false → Φ τ15) ∧ (¬ (r16 = false) → ∃ Φ17 : gw_S → Prop, gw_M (xl x) G yX8_workIn cX8_workIn 3 none 1 [.ref (G.1 + 191), .int r5] τ15 (fv Φ17) ∧ ∀ (τ18 : gw_S), Φ17 τ18 → (Φ τ18)))))))) : PW x G 2 0 [(0, .ref (G.1 + 189))] [] σ := by
  refine pw_aload_n C dX8_readWork_0 rfl 0 rfl ?_
  refine pw_iconst (v := 1) C dX8_readWork_1 (by decide) ?_
  obtain ⟨Φ1, hM, h⟩ := h
  refine pw_callV C dX8_readWork_2 hM gm_X8_accept gl_RX8_165 rfl hR (by decide) (by decide) (by decide) rfl gk_189.1 gk_189.2 rfl (Nat.le_of_ble_eq_true rfl) ?_
  rintro _ τ2 ⟨rfl, hv⟩
  replace h := h τ2 hv
  show PW x G 2 5 [(0, .ref (G.1 + 189))] [] τ2
  refine pw_aload_n C dX8_readWork_5 rfl 0 rfl ?_
  refine pw_iconst (v := 0) C dX8_readWork_6 (by decide) ?_
  refine pw_bipush (v := 7) C dX8_readWork_7 (by decide) ?_
  obtain ⟨Φ3, hM, h⟩ := h
  refine pw_callV C dX8_readWork_9 hM gm_X8_digit gl_RX8_172 rfl hR (by decide) (by decide) (by decide) rfl gk_189.1 gk_189.2 rfl (Nat.le_of_ble_eq_true rfl) ?_
  rintro _ τ4 ⟨r5, rfl, hv⟩
  replace h := h r5 τ4 hv
  show PW x G 2 12 [(0, .ref (G.1 + 189))] [.int r5] τ4
  refine pw_istore_n C dX8_readWork_12 rfl (by decide) rfl ?_
  refine pw_aload_n C dX8_readWork_13 rfl 1 rfl ?_
  refine pw_iload_n C dX8_readWork_14 rfl 0 rfl ?_
  refine pw_aload_n C dX8_readWork_15 rfl 1 rfl ?_
  refine pw_getr C dX8_readWork_16 gf_RX8_13 gk_189.1 gk_189.2 rfl ?_
  refine pw_iconst (v := 0) C dX8_readWork_19 (by decide) ?_
  refine pw_iald C dX8_readWork_20 gk_191.1 gk_191.2 (by show ¬ (_ ∨ _); decide) ?_
  refine pw_icmp_ge (tgt := 39) C dX8_readWork_21 (by decide) (fun q => ?_) (fun q => ?_)
  · replace h := h.1 q
    refine pw_iconst (v := 0) C dX8_readWork_39 (by decide) ?_
    obtain ⟨Φ6, hM, h⟩ := h
    refine pw_callV C dX8_readWork_40 hM gm_X8_goes gl_RX8_175 rfl hR (by decide) (by decide) (by decide) rfl gk_189.1 gk_189.2 rfl (Nat.le_of_ble_eq_true rfl) ?_
    rintro _ τ7 ⟨r8, rfl, hv⟩
    replace h := h r8 τ7 hv
    show PW x G 2 43 [(1, .int r5), (0, .ref (G.1 + 189))] [.int (gz r8)] τ7
    refine pw_z_eq (tgt := 54) C dX8_readWork_43 (by decide) (fun q => ?_) (fun q => ?_)
    · replace h := h.1 q
      exact pw_vret C hT dX8_readWork_54 h
    · replace h := h.2 q
      refine pw_aload_n C dX8_readWork_46 rfl 1 rfl ?_
      refine pw_getr C dX8_readWork_47 gf_RX8_13 gk_189.1 gk_189.2 rfl ?_
      refine pw_iload_n C dX8_readWork_50 rfl 0 rfl ?_
      obtain ⟨Φ9, hM, h⟩ := h
      refine pw_callS C dX8_readWork_51 hM gm_X8_workIn gl_RX8_124 rfl hR (by decide) (by decide) rfl (Nat.le_of_ble_eq_true rfl) ?_
      rintro _ τ10 ⟨rfl, hv⟩
      replace h := h τ10 hv
      show PW x G 2 54 [(1, .int r5), (0, .ref (G.1 + 189))] [] τ10
      exact pw_vret C hT dX8_readWork_54 h
  · replace h := h.2 q
    refine pw_aload_n C dX8_readWork_24 rfl 1 rfl ?_
    refine pw_getr C dX8_readWork_25 gf_RX8_13 gk_189.1 gk_189.2 rfl ?_
    refine pw_iload_n C dX8_readWork_28 rfl 0 rfl ?_
    obtain ⟨Φ11, hM, h⟩ := h
    refine pw_callS C dX8_readWork_29 hM gm_X8_canWork gl_RX8_106 rfl hR (by decide) (by decide) rfl (Nat.le_of_ble_eq_true rfl) ?_
    rintro _ τ12 ⟨r13, rfl, hv⟩
    replace h := h r13 τ12 hv
    show PW x G 2 32 [(1, .int r5), (0, .ref (G.1 + 189))] [.int (gz r13), .ref (G.1 + 189)] τ12
    have hJ : ∀ w0 : Bool, (if r13 = false then false else true : Bool) = w0 → PW x G 2 40 [(1, .int r5), (0, .ref (G.1 + 189))] [.int (gz w0), .ref (G.1 + 189)] τ12 := by
      rintro _ rfl
      obtain ⟨Φ14, hM, h⟩ := h
      refine pw_callV C dX8_readWork_40 hM gm_X8_goes gl_RX8_175 rfl hR (by decide) (by decide) (by decide) rfl gk_189.1 gk_189.2 rfl (Nat.le_of_ble_eq_true rfl) ?_
      rintro _ τ15 ⟨r16, rfl, hv⟩
      replace h := h r16 τ15 hv
      show PW x G 2 43 [(1, .int r5), (0, .ref (G.1 + 189))] [.int (gz r16)] τ15
      refine pw_z_eq (tgt := 54) C dX8_readWork_43 (by decide) (fun q => ?_) (fun q => ?_)
      · replace h := h.1 q
        exact pw_vret C hT dX8_readWork_54 h
      · replace h := h.2 q
        refine pw_aload_n C dX8_readWork_46 rfl 1 rfl ?_
        refine pw_getr C dX8_readWork_47 gf_RX8_13 gk_189.1 gk_189.2 rfl ?_
        refine pw_iload_n C dX8_readWork_50 rfl 0 rfl ?_
        obtain ⟨Φ17, hM, h⟩ := h
        refine pw_callS C dX8_readWork_51 hM gm_X8_workIn gl_RX8_124 rfl hR (by decide) (by decide) rfl (Nat.le_of_ble_eq_true rfl) ?_
        rintro _ τ18 ⟨rfl, hv⟩
        replace h := h τ18 hv
        show PW x G 2 54 [(1, .int r5), (0, .ref (G.1 + 189))] [] τ18
        exact pw_vret C hT dX8_readWork_54 h
    clear h
    refine pw_z_eq (tgt := 39) C dX8_readWork_32 (by decide) (fun q2 => ?_) (fun q2 => ?_)
    · refine pw_iconst (v := 0) C dX8_readWork_39 (by decide) ?_
      exact hJ false (if_pos q2)
    · refine pw_iconst (v := 1) C dX8_readWork_35 (by decide) ?_
      refine pw_goto (tgt := 40) C dX8_readWork_36 (by decide) ?_
      exact hJ true (if_neg q2)
set_option maxRecDepth 4000 in
theorem sg_X8_readCommand_0 {x : gw_X} {G : gw_G} {Φ : gw_S → Prop} (C : XC x G RX8 cX8_readCommand 1 none) (hR : gw_ok x 5) (hT : RT x G (fv Φ))  (σ : gw_S)
    (h : (((σ.1 189 2) ≤ (σ.1 189 3) → True) ∧ (¬ ((σ.1 189 2) ≤ (σ.1 189 3)) → vp_in (σ.1 189 3) 120 ∧ (True))) ∧ (((if (σ.1 189 2) ≤ (σ.1 189 3) then false else (if (σ.1 190 ((σ.1 189 3).toNatClampNeg)) = 109 then true else false : Bool) : Bool) = false → ((if (σ.1 189 2) ≤ (σ.1 189 3) then false else (if (σ.1 190 ((σ.1 189 3).toNatClampNeg)) = 119 then true else false : Bool) : Bool) = false → ((if (σ.1 189 2) ≤ (σ.1 189 3) then false else (if (σ.1 190 ((σ.1 189 3).toNatClampNeg)) = 99 then true else false : Bool) : Bool) = false → ((if (σ.1 189 2) ≤ (σ.1 189 3) then false else (if (σ.1 190 ((σ.1 189 3).toNatClampNeg)) = 102 then true else false : Bool) : Bool) = false → ∃ Φ2 : gw_S → Prop, gw_M (xl x) G yX8_accept cX8_accept 2 none 0 [.ref (G.1 + 189), .int 0] σ (fv Φ2) ∧ ∀ (τ3 : gw_S), Φ2 τ3 → (Φ τ3)) ∧ (¬ ((if (σ.1 189 2) ≤ (σ.1 189 3) then false else (if (σ.1 190 ((σ.1 189 3).toNatClampNeg)) = 102 then true else false : Bool) : Bool) = false) → ∃ Φ4 : gw_S → Prop, gw_M (xl x) G yX8_readWork cX8_readWork 2 none 2 [.ref (G.1 + 189)] σ (fv Φ4) ∧ ∀ (τ5 : gw_S), Φ4 τ5 → (Φ τ5))) ∧ (¬ ((if (σ.1 189 2) ≤ (σ.1 189 3) then false else (if (σ.1 190 ((σ.1 189 3).toNatClampNeg)) = 99 then true else false : Bool) : Bool) = false) → ∃ Φ6 : gw_S → Prop, gw_M (xl x) G yX8_readCut cX8_readCut 3 none 2 [.ref (G.1 + 189)] σ (fv Φ6) ∧ ∀ (τ7 : gw_S), Φ6 τ7 → (Φ τ7))) ∧ (¬ ((if (σ.1 189 2) ≤ (σ.1 189 3) then false else (if (σ.1 190 ((σ.1 189 3).toNatClampNeg)) = 119 then true else false : Bool) : Bool) = false) → ∃ Φ8 : gw_S → Prop, gw_M (xl x) G yX8_readWire cX8_readWire 7 none 4 [.ref (G.1 + 189)] σ (fv Φ8) ∧ ∀ (τ9 : gw_S), Φ8 τ9 → (Φ τ9))) ∧ (¬ ((if (σ.1 189 2) ≤ (σ.1 189 3) then false else (if (σ.1 190 ((σ.1 189 3).toNatClampNeg)) = 109 then true else false : Bool) : Bool) = false) → ∃ Φ10 : gw_S → Prop, gw_M (xl x) G yX8_readModule cX8_readModule 3 none 2 [.ref (G.1 + 189)] σ (fv Φ10) ∧ ∀ (τ11 : gw_S), Φ10 τ11 → (Φ τ11)))) : PW x G 1 0 [(0, .ref (G.1 + 189))] [] σ := by
  refine pw_aload_n C dX8_readCommand_0 rfl 0 rfl ?_
  refine pw_bipush (v := 109) C dX8_readCommand_1 (by decide) ?_
  obtain ⟨g1, h⟩ := h
  refine pw_callV C dX8_readCommand_3 (k_X8_isNext 109 σ g1) gm_X8_isNext gl_RX8_194 rfl hR (by decide) (by decide) (by decide) rfl gk_189.1 gk_189.2 rfl (Nat.le_of_ble_eq_true rfl) ?_
  rintro _ _ ⟨_, rfl, rfl, rfl⟩
  show PW x G 1 6 [(0, .ref (G.1 + 189))] [.int (gz (if (σ.1 189 2) ≤ (σ.1 189 3) then false else (if (σ.1 190 ((σ.1 189 3).toNatClampNeg)) = 109 then true else false : Bool) : Bool))] σ
  refine pw_z_eq (tgt := 16) C dX8_readCommand_6 (by decide) (fun q => ?_) (fun q => ?_)
  · replace h := h.1 q
    refine pw_aload_n C dX8_readCommand_16 rfl 0 rfl ?_
    refine pw_bipush (v := 119) C dX8_readCommand_17 (by decide) ?_
    refine pw_callV C dX8_readCommand_19 (k_X8_isNext 119 σ g1) gm_X8_isNext gl_RX8_194 rfl hR (by decide) (by decide) (by decide) rfl gk_189.1 gk_189.2 rfl (Nat.le_of_ble_eq_true rfl) ?_
    rintro _ _ ⟨_, rfl, rfl, rfl⟩
    show PW x G 1 22 [(0, .ref (G.1 + 189))] [.int (gz (if (σ.1 189 2) ≤ (σ.1 189 3) then false else (if (σ.1 190 ((σ.1 189 3).toNatClampNeg)) = 119 then true else false : Bool) : Bool))] σ
    refine pw_z_eq (tgt := 32) C dX8_readCommand_22 (by decide) (fun q => ?_) (fun q => ?_)
    · replace h := h.1 q
      refine pw_aload_n C dX8_readCommand_32 rfl 0 rfl ?_
      refine pw_bipush (v := 99) C dX8_readCommand_33 (by decide) ?_
      refine pw_callV C dX8_readCommand_35 (k_X8_isNext 99 σ g1) gm_X8_isNext gl_RX8_194 rfl hR (by decide) (by decide) (by decide) rfl gk_189.1 gk_189.2 rfl (Nat.le_of_ble_eq_true rfl) ?_
      rintro _ _ ⟨_, rfl, rfl, rfl⟩
      show PW x G 1 38 [(0, .ref (G.1 + 189))] [.int (gz (if (σ.1 189 2) ≤ (σ.1 189 3) then false else (if (σ.1 190 ((σ.1 189 3).toNatClampNeg)) = 99 then true else false : Bool) : Bool))] σ
      refine pw_z_eq (tgt := 48) C dX8_readCommand_38 (by decide) (fun q => ?_) (fun q => ?_)
      · replace h := h.1 q
        refine pw_aload_n C dX8_readCommand_48 rfl 0 rfl ?_
        refine pw_bipush (v := 102) C dX8_readCommand_49 (by decide) ?_
        refine pw_callV C dX8_readCommand_51 (k_X8_isNext 102 σ g1) gm_X8_isNext gl_RX8_194 rfl hR (by decide) (by decide) (by decide) rfl gk_189.1 gk_189.2 rfl (Nat.le_of_ble_eq_true rfl) ?_
        rintro _ _ ⟨_, rfl, rfl, rfl⟩
        show PW x G 1 54 [(0, .ref (G.1 + 189))] [.int (gz (if (σ.1 189 2) ≤ (σ.1 189 3) then false else (if (σ.1 190 ((σ.1 189 3).toNatClampNeg)) = 102 then true else false : Bool) : Bool))] σ
        refine pw_z_eq (tgt := 64) C dX8_readCommand_54 (by decide) (fun q => ?_) (fun q => ?_)
        · replace h := h.1 q
          refine pw_aload_n C dX8_readCommand_64 rfl 0 rfl ?_
          refine pw_iconst (v := 0) C dX8_readCommand_65 (by decide) ?_
          obtain ⟨Φ2, hM, h⟩ := h
          refine pw_callV C dX8_readCommand_66 hM gm_X8_accept gl_RX8_165 rfl hR (by decide) (by decide) (by decide) rfl gk_189.1 gk_189.2 rfl (Nat.le_of_ble_eq_true rfl) ?_
          rintro _ τ3 ⟨rfl, hv⟩
          replace h := h τ3 hv
          show PW x G 1 69 [(0, .ref (G.1 + 189))] [] τ3
          exact pw_vret C hT dX8_readCommand_69 h
        · replace h := h.2 q
          refine pw_aload_n C dX8_readCommand_57 rfl 0 rfl ?_
          obtain ⟨Φ4, hM, h⟩ := h
          refine pw_callV C dX8_readCommand_58 hM gm_X8_readWork gl_RX8_206 rfl hR (by decide) (by decide) (by decide) rfl gk_189.1 gk_189.2 rfl (Nat.le_of_ble_eq_true rfl) ?_
          rintro _ τ5 ⟨rfl, hv⟩
          replace h := h τ5 hv
          show PW x G 1 61 [(0, .ref (G.1 + 189))] [] τ5
          refine pw_goto (tgt := 69) C dX8_readCommand_61 (by decide) ?_
          exact pw_vret C hT dX8_readCommand_69 h
      · replace h := h.2 q
        refine pw_aload_n C dX8_readCommand_41 rfl 0 rfl ?_
        obtain ⟨Φ6, hM, h⟩ := h
        refine pw_callV C dX8_readCommand_42 hM gm_X8_readCut gl_RX8_203 rfl hR (by decide) (by decide) (by decide) rfl gk_189.1 gk_189.2 rfl (Nat.le_of_ble_eq_true rfl) ?_
        rintro _ τ7 ⟨rfl, hv⟩
        replace h := h τ7 hv
        show PW x G 1 45 [(0, .ref (G.1 + 189))] [] τ7
        refine pw_goto (tgt := 69) C dX8_readCommand_45 (by decide) ?_
        exact pw_vret C hT dX8_readCommand_69 h
    · replace h := h.2 q
      refine pw_aload_n C dX8_readCommand_25 rfl 0 rfl ?_
      obtain ⟨Φ8, hM, h⟩ := h
      refine pw_callV C dX8_readCommand_26 hM gm_X8_readWire gl_RX8_200 rfl hR (by decide) (by decide) (by decide) rfl gk_189.1 gk_189.2 rfl (Nat.le_of_ble_eq_true rfl) ?_
      rintro _ τ9 ⟨rfl, hv⟩
      replace h := h τ9 hv
      show PW x G 1 29 [(0, .ref (G.1 + 189))] [] τ9
      refine pw_goto (tgt := 69) C dX8_readCommand_29 (by decide) ?_
      exact pw_vret C hT dX8_readCommand_69 h
  · replace h := h.2 q
    refine pw_aload_n C dX8_readCommand_9 rfl 0 rfl ?_
    obtain ⟨Φ10, hM, h⟩ := h
    refine pw_callV C dX8_readCommand_10 hM gm_X8_readModule gl_RX8_197 rfl hR (by decide) (by decide) (by decide) rfl gk_189.1 gk_189.2 rfl (Nat.le_of_ble_eq_true rfl) ?_
    rintro _ τ11 ⟨rfl, hv⟩
    replace h := h τ11 hv
    show PW x G 1 13 [(0, .ref (G.1 + 189))] [] τ11
    refine pw_goto (tgt := 69) C dX8_readCommand_13 (by decide) ?_
    exact pw_vret C hT dX8_readCommand_69 h
set_option maxRecDepth 4000 in
theorem sg_X8_readText_0 {x : gw_X} {G : gw_G} {Φ : Int32 → gw_S → Prop} (C : XC x G RX8 cX8_readText 2 (some .int)) (hR : gw_ok x 6) (hT : RT x G (fi Φ))  (σ : gw_S)
    (h : ∀ τ1 : gw_S, τ1 = gw_u σ 189 3 0 → (∀ τ2 : gw_S, τ2 = gw_u τ1 189 4 1 → (∀ τ3 : gw_S, τ3 = gw_u τ2 189 5 0 → (PW x G 2 17 [(0, .ref (G.1 + 189)), (1, .int 0)] [] τ3)))) : PW x G 2 0 [(0, .ref (G.1 + 189))] [] σ := by
  refine pw_aload_n C dX8_readText_0 rfl 0 rfl ?_
  refine pw_iconst (v := 0) C dX8_readText_1 (by decide) ?_
  refine pw_puti C dX8_readText_2 gf_RX8_157 rfl rfl rfl gk_189.1 gk_189.2 rfl ?_
  generalize hτ1 : gw_u σ 189 3 0 = τ1
  replace h := h τ1 hτ1.symm
  show PW x G 2 5 [(0, .ref (G.1 + 189))] [] τ1
  refine pw_aload_n C dX8_readText_5 rfl 0 rfl ?_
  refine pw_iconst (v := 1) C dX8_readText_6 (by decide) ?_
  refine pw_puti C dX8_readText_7 gf_RX8_160 rfl rfl rfl gk_189.1 gk_189.2 rfl ?_
  generalize hτ2 : gw_u τ1 189 4 1 = τ2
  replace h := h τ2 hτ2.symm
  show PW x G 2 10 [(0, .ref (G.1 + 189))] [] τ2
  refine pw_aload_n C dX8_readText_10 rfl 0 rfl ?_
  refine pw_iconst (v := 0) C dX8_readText_11 (by decide) ?_
  refine pw_puti C dX8_readText_12 gf_RX8_169 rfl rfl rfl gk_189.1 gk_189.2 rfl ?_
  generalize hτ3 : gw_u τ2 189 5 0 = τ3
  replace h := h τ3 hτ3.symm
  show PW x G 2 15 [(0, .ref (G.1 + 189))] [] τ3
  refine pw_iconst (v := 0) C dX8_readText_15 (by decide) ?_
  refine pw_istore_n C dX8_readText_16 rfl (by decide) rfl ?_
  exact pw_sub [1, 0] rfl h
set_option maxRecDepth 4000 in
theorem sg_X8_readText_17 {x : gw_X} {G : gw_G} {Φ : Int32 → gw_S → Prop} (C : XC x G RX8 cX8_readText 2 (some .int)) (hR : gw_ok x 6) (hT : RT x G (fi Φ)) (v1 : Int32) (σ : gw_S)
    (h : (96 ≤ v1 → (((σ.1 189 2) ≤ (σ.1 189 3) → True) ∧ (¬ ((σ.1 189 2) ≤ (σ.1 189 3)) → vp_in (σ.1 189 3) 120 ∧ (True))) ∧ (∃ Φ2 : gw_S → Prop, gw_M (xl x) G yX8_accept cX8_accept 2 none 0 [.ref (G.1 + 189), .int (gz (if (σ.1 189 2) ≤ (σ.1 189 3) then false else (if (σ.1 190 ((σ.1 189 3).toNatClampNeg)) = 77 then true else false : Bool) : Bool))] σ (fv Φ2) ∧ ∀ (τ3 : gw_S), Φ2 τ3 → (PW x G 2 46 [(0, .ref (G.1 + 189)), (1, .int v1)] [] τ3))) ∧ (¬ (96 ≤ v1) → vp_in v1 96 ∧ (∀ τ5 : gw_S, τ5 = gw_u σ 191 v1.toNatClampNeg 0 → (PW x G 2 17 [(0, .ref (G.1 + 189)), (1, .int (v1 + 1))] [] τ5)))) : PW x G 2 17 [(0, .ref (G.1 + 189)), (1, .int v1)] [] σ := by
  refine pw_iload_n C dX8_readText_17 rfl 1 rfl ?_
  refine pw_bipush (v := 96) C dX8_readText_18 (by decide) ?_
  refine pw_icmp_ge (tgt := 36) C dX8_readText_20 (by decide) (fun q => ?_) (fun q => ?_)
  · replace h := h.1 q
    refine pw_aload_n C dX8_readText_36 rfl 0 rfl ?_
    refine pw_aload_n C dX8_readText_37 rfl 0 rfl ?_
    refine pw_bipush (v := 77) C dX8_readText_38 (by decide) ?_
    obtain ⟨g1, h⟩ := h
    refine pw_callV C dX8_readText_40 (k_X8_isNext 77 σ g1) gm_X8_isNext gl_RX8_194 rfl hR (by decide) (by decide) (by decide) rfl gk_189.1 gk_189.2 rfl (Nat.le_of_ble_eq_true rfl) ?_
    rintro _ _ ⟨_, rfl, rfl, rfl⟩
    show PW x G 2 43 [(0, .ref (G.1 + 189)), (1, .int v1)] [.int (gz (if (σ.1 189 2) ≤ (σ.1 189 3) then false else (if (σ.1 190 ((σ.1 189 3).toNatClampNeg)) = 77 then true else false : Bool) : Bool)), .ref (G.1 + 189)] σ
    obtain ⟨Φ2, hM, h⟩ := h
    refine pw_callV C dX8_readText_43 hM gm_X8_accept gl_RX8_165 rfl hR (by decide) (by decide) (by decide) rfl gk_189.1 gk_189.2 rfl (Nat.le_of_ble_eq_true rfl) ?_
    rintro _ τ3 ⟨rfl, hv⟩
    replace h := h τ3 hv
    show PW x G 2 46 [(0, .ref (G.1 + 189)), (1, .int v1)] [] τ3
    exact h
  · replace h := h.2 q
    refine pw_aload_n C dX8_readText_23 rfl 0 rfl ?_
    refine pw_getr C dX8_readText_24 gf_RX8_13 gk_189.1 gk_189.2 rfl ?_
    refine pw_iload_n C dX8_readText_27 rfl 1 rfl ?_
    refine pw_iconst (v := 0) C dX8_readText_28 (by decide) ?_
    obtain ⟨g4, h⟩ := h
    refine pw_iast C dX8_readText_29 gk_191.1 gk_191.2 g4 ?_
    generalize hτ5 : gw_u σ 191 v1.toNatClampNeg 0 = τ5
    replace h := h τ5 hτ5.symm
    show PW x G 2 30 [(0, .ref (G.1 + 189)), (1, .int v1)] [] τ5
    refine pw_iinc (v := (v1 + 1)) (j := 1) C dX8_readText_30 rfl rfl (by decide) rfl ?_
    refine pw_goto (tgt := 17) C dX8_readText_33 (by decide) ?_
    exact pw_sub [1, 0] rfl h
set_option maxRecDepth 4000 in
theorem sg_X8_readText_46 {x : gw_X} {G : gw_G} {Φ : Int32 → gw_S → Prop} (C : XC x G RX8 cX8_readText 2 (some .int)) (hR : gw_ok x 6) (hT : RT x G (fi Φ)) (v1 : Int32) (σ : gw_S)
    (h : ((σ.1 189 4) = 0 → Φ (if (σ.1 189 4) = 0 then σ.1 189 3 else (-1) : Int32) σ) ∧ (¬ ((σ.1 189 4) = 0) → ((σ.1 189 2) ≤ (σ.1 189 3) → Φ (if (σ.1 189 4) = 0 then σ.1 189 3 else (-1) : Int32) σ) ∧ (¬ ((σ.1 189 2) ≤ (σ.1 189 3)) → ∃ Φ1 : gw_S → Prop, gw_M (xl x) G yX8_readCommand cX8_readCommand 1 none 5 [.ref (G.1 + 189)] σ (fv Φ1) ∧ ∀ (τ2 : gw_S), Φ1 τ2 → (PW x G 2 46 [(0, .ref (G.1 + 189)), (1, .int v1)] [] τ2)))) : PW x G 2 46 [(0, .ref (G.1 + 189)), (1, .int v1)] [] σ := by
  refine pw_aload_n C dX8_readText_46 rfl 0 rfl ?_
  refine pw_geti C dX8_readText_47 gf_RX8_160 gk_189.1 gk_189.2 rfl ?_
  refine pw_if_eq (tgt := 71) C dX8_readText_50 (by decide) (fun q => ?_) (fun q => ?_)
  · replace h := h.1 q
    refine pw_aload_n C dX8_readText_71 rfl 0 rfl ?_
    refine pw_geti C dX8_readText_72 gf_RX8_160 gk_189.1 gk_189.2 rfl ?_
    have hJ : ∀ w0 : Int32, (if (σ.1 189 4) = 0 then σ.1 189 3 else (-1) : Int32) = w0 → PW x G 2 86 [(0, .ref (G.1 + 189)), (1, .int v1)] [.int w0] σ := by
      rintro _ rfl
      exact pw_iret C hT dX8_readText_86 h
    clear h
    refine pw_if_eq (tgt := 82) C dX8_readText_75 (by decide) (fun q2 => ?_) (fun q2 => ?_)
    · refine pw_aload_n C dX8_readText_82 rfl 0 rfl ?_
      refine pw_geti C dX8_readText_83 gf_RX8_157 gk_189.1 gk_189.2 rfl ?_
      exact hJ (σ.1 189 3) (if_pos q2)
    · refine pw_iconst (v := (-1)) C dX8_readText_78 (by decide) ?_
      refine pw_goto (tgt := 86) C dX8_readText_79 (by decide) ?_
      exact hJ (-1) (if_neg q2)
  · replace h := h.2 q
    refine pw_aload_n C dX8_readText_53 rfl 0 rfl ?_
    refine pw_geti C dX8_readText_54 gf_RX8_157 gk_189.1 gk_189.2 rfl ?_
    refine pw_aload_n C dX8_readText_57 rfl 0 rfl ?_
    refine pw_geti C dX8_readText_58 gf_RX8_150 gk_189.1 gk_189.2 rfl ?_
    refine pw_icmp_ge (tgt := 71) C dX8_readText_61 (by decide) (fun q => ?_) (fun q => ?_)
    · replace h := h.1 q
      refine pw_aload_n C dX8_readText_71 rfl 0 rfl ?_
      refine pw_geti C dX8_readText_72 gf_RX8_160 gk_189.1 gk_189.2 rfl ?_
      have hJ : ∀ w0 : Int32, (if (σ.1 189 4) = 0 then σ.1 189 3 else (-1) : Int32) = w0 → PW x G 2 86 [(0, .ref (G.1 + 189)), (1, .int v1)] [.int w0] σ := by
        rintro _ rfl
        exact pw_iret C hT dX8_readText_86 h
      clear h
      refine pw_if_eq (tgt := 82) C dX8_readText_75 (by decide) (fun q3 => ?_) (fun q3 => ?_)
      · refine pw_aload_n C dX8_readText_82 rfl 0 rfl ?_
        refine pw_geti C dX8_readText_83 gf_RX8_157 gk_189.1 gk_189.2 rfl ?_
        exact hJ (σ.1 189 3) (if_pos q3)
      · refine pw_iconst (v := (-1)) C dX8_readText_78 (by decide) ?_
        refine pw_goto (tgt := 86) C dX8_readText_79 (by decide) ?_
        exact hJ (-1) (if_neg q3)
    · replace h := h.2 q
      refine pw_aload_n C dX8_readText_64 rfl 0 rfl ?_
      obtain ⟨Φ1, hM, h⟩ := h
      refine pw_callV C dX8_readText_65 hM gm_X8_readCommand gl_RX8_209 rfl hR (by decide) (by decide) (by decide) rfl gk_189.1 gk_189.2 rfl (Nat.le_of_ble_eq_true rfl) ?_
      rintro _ τ2 ⟨rfl, hv⟩
      replace h := h τ2 hv
      show PW x G 2 68 [(0, .ref (G.1 + 189)), (1, .int v1)] [] τ2
      refine pw_goto (tgt := 46) C dX8_readText_68 (by decide) ?_
      exact h
set_option maxRecDepth 4000 in
theorem sg_X8_errorPosition_0 {x : gw_X} {G : gw_G} {Φ : Int32 → gw_S → Prop} (C : XC x G RX8 cX8_errorPosition 1 (some .int)) (hR : gw_ok x 7) (hT : RT x G (fi Φ))  (σ : gw_S)
    (h : ∀ τ1 : gw_S, τ1 = gw_u σ 189 0 0 → (∃ Φ2 : Int32 → gw_S → Prop, gw_M (xl x) G yX8_readText cX8_readText 2 (some .int) 6 [.ref (G.1 + 189)] τ1 (fi Φ2) ∧ ∀ (r4 : Int32) (τ3 : gw_S), Φ2 r4 τ3 → (Φ r4 τ3))) : PW x G 1 0 [(0, .ref (G.1 + 189))] [] σ := by
  refine pw_aload_n C dX8_errorPosition_0 rfl 0 rfl ?_
  refine pw_iconst (v := 0) C dX8_errorPosition_1 (by decide) ?_
  refine pw_puti C dX8_errorPosition_2 gf_RX8_60 rfl rfl rfl gk_189.1 gk_189.2 rfl ?_
  generalize hτ1 : gw_u σ 189 0 0 = τ1
  replace h := h τ1 hτ1.symm
  show PW x G 1 5 [(0, .ref (G.1 + 189))] [] τ1
  refine pw_aload_n C dX8_errorPosition_5 rfl 0 rfl ?_
  obtain ⟨Φ2, hM, h⟩ := h
  refine pw_callV C dX8_errorPosition_6 hM gm_X8_readText gl_RX8_212 rfl hR (by decide) (by decide) (by decide) rfl gk_189.1 gk_189.2 rfl (Nat.le_of_ble_eq_true rfl) ?_
  rintro _ τ3 ⟨r4, rfl, hv⟩
  replace h := h r4 τ3 hv
  show PW x G 1 9 [(0, .ref (G.1 + 189))] [.int r4] τ3
  exact pw_iret C hT dX8_errorPosition_9 h
set_option maxRecDepth 4000 in
theorem sg_X8_load_0 {x : gw_X} {G : gw_G} {Φ : Int32 → gw_S → Prop} (C : XC x G RX8 cX8_load 1 (some .int)) (hR : gw_ok x 7) (hT : RT x G (fi Φ))  (σ : gw_S)
    (h : ∃ Φ1 : Int32 → gw_S → Prop, gw_M (xl x) G yX8_readText cX8_readText 2 (some .int) 6 [.ref (G.1 + 189)] σ (fi Φ1) ∧ ∀ (r3 : Int32) (τ2 : gw_S), Φ1 r3 τ2 → (∀ τ4 : gw_S, τ4 = gw_u τ2 189 0 (gz (if r3 = (-1) then false else true : Bool)) → (((if (gz (if r3 = (-1) then false else true : Bool)) ≤ 0 then false else true : Bool) = false → ∃ Φ5 : gw_S → Prop, gw_M (xl x) G yX8_copy cX8_copy 6 none 0 [.ref (G.1 + 191), .int 0, .ref (G.1 + 192), .int 0, .int 96] τ4 (fv Φ5) ∧ ∀ (τ6 : gw_S), Φ5 τ6 → (∀ τ7 : gw_S, τ7 = gw_u τ6 189 10 0 → (∀ τ8 : gw_S, τ8 = gw_u τ7 196 ((0 : Int32).toNatClampNeg) 0 → (∀ τ9 : gw_S, τ9 = gw_u τ8 196 ((1 : Int32).toNatClampNeg) 0 → (Φ (τ9.1 189 5) τ9))))) ∧ (¬ ((if (gz (if r3 = (-1) then false else true : Bool)) ≤ 0 then false else true : Bool) = false) → Φ 0 τ4)))) : PW x G 1 0 [(0, .ref (G.1 + 189))] [] σ := by
  refine pw_aload_n C dX8_load_0 rfl 0 rfl ?_
  refine pw_aload_n C dX8_load_1 rfl 0 rfl ?_
  obtain ⟨Φ1, hM, h⟩ := h
  refine pw_callV C dX8_load_2 hM gm_X8_readText gl_RX8_212 rfl hR (by decide) (by decide) (by decide) rfl gk_189.1 gk_189.2 rfl (Nat.le_of_ble_eq_true rfl) ?_
  rintro _ τ2 ⟨r3, rfl, hv⟩
  replace h := h r3 τ2 hv
  show PW x G 1 5 [(0, .ref (G.1 + 189))] [.int r3, .ref (G.1 + 189)] τ2
  refine pw_iconst (v := (-1)) C dX8_load_5 (by decide) ?_
  have hJ : ∀ w0 : Bool, (if r3 = (-1) then false else true : Bool) = w0 → PW x G 1 14 [(0, .ref (G.1 + 189))] [.int (gz w0), .ref (G.1 + 189)] τ2 := by
    rintro _ rfl
    refine pw_callV C dX8_load_14 (k_X8_refused (gz (if r3 = (-1) then false else true : Bool)) τ2 ) gm_X8_refused gl_RX8_153 rfl hR (by decide) (by decide) (by decide) rfl gk_189.1 gk_189.2 rfl (Nat.le_of_ble_eq_true rfl) ?_
    rintro _ _ ⟨_, rfl, rfl, rfl⟩
    generalize hτ4 : gw_u τ2 189 0 (gz (if r3 = (-1) then false else true : Bool)) = τ4
    replace h := h τ4 hτ4.symm
    show PW x G 1 17 [(0, .ref (G.1 + 189))] [.int (gz (if (gz (if r3 = (-1) then false else true : Bool)) ≤ 0 then false else true : Bool))] τ4
    show PW x G 1 17 [(0, .ref (G.1 + 189))] [.int (gz (if (gz (if r3 = (-1) then false else true : Bool)) ≤ 0 then false else true : Bool))] τ4
    refine pw_z_eq (tgt := 22) C dX8_load_17 (by decide) (fun q => ?_) (fun q => ?_)
    · replace h := h.1 q
      refine pw_aload_n C dX8_load_22 rfl 0 rfl ?_
      refine pw_getr C dX8_load_23 gf_RX8_13 gk_189.1 gk_189.2 rfl ?_
      refine pw_iconst (v := 0) C dX8_load_26 (by decide) ?_
      refine pw_aload_n C dX8_load_27 rfl 0 rfl ?_
      refine pw_getr C dX8_load_28 gf_RX8_16 gk_189.1 gk_189.2 rfl ?_
      refine pw_iconst (v := 0) C dX8_load_31 (by decide) ?_
      refine pw_bipush (v := 96) C dX8_load_32 (by decide) ?_
      obtain ⟨Φ5, hM, h⟩ := h
      refine pw_callS C dX8_load_34 hM gm_X8_copy gl_RX8_69 rfl hR (by decide) (by decide) rfl (Nat.le_of_ble_eq_true rfl) ?_
      rintro _ τ6 ⟨rfl, hv⟩
      replace h := h τ6 hv
      show PW x G 1 37 [(0, .ref (G.1 + 189))] [] τ6
      refine pw_aload_n C dX8_load_37 rfl 0 rfl ?_
      refine pw_iconst (v := 0) C dX8_load_38 (by decide) ?_
      refine pw_puti C dX8_load_39 gf_RX8_66 rfl rfl rfl gk_189.1 gk_189.2 rfl ?_
      generalize hτ7 : gw_u τ6 189 10 0 = τ7
      replace h := h τ7 hτ7.symm
      show PW x G 1 42 [(0, .ref (G.1 + 189))] [] τ7
      refine pw_aload_n C dX8_load_42 rfl 0 rfl ?_
      refine pw_getr C dX8_load_43 gf_RX8_28 gk_189.1 gk_189.2 rfl ?_
      refine pw_iconst (v := 0) C dX8_load_46 (by decide) ?_
      refine pw_iconst (v := 0) C dX8_load_47 (by decide) ?_
      refine pw_bast C dX8_load_48 gk_196.1 gk_196.2 (by show ¬ (_ ∨ _); decide) rfl ?_
      generalize hτ8 : gw_u τ7 196 ((0 : Int32).toNatClampNeg) 0 = τ8
      replace h := h τ8 hτ8.symm
      show PW x G 1 49 [(0, .ref (G.1 + 189))] [] τ8
      refine pw_aload_n C dX8_load_49 rfl 0 rfl ?_
      refine pw_getr C dX8_load_50 gf_RX8_28 gk_189.1 gk_189.2 rfl ?_
      refine pw_iconst (v := 1) C dX8_load_53 (by decide) ?_
      refine pw_iconst (v := 0) C dX8_load_54 (by decide) ?_
      refine pw_bast C dX8_load_55 gk_196.1 gk_196.2 (by show ¬ (_ ∨ _); decide) rfl ?_
      generalize hτ9 : gw_u τ8 196 ((1 : Int32).toNatClampNeg) 0 = τ9
      replace h := h τ9 hτ9.symm
      show PW x G 1 56 [(0, .ref (G.1 + 189))] [] τ9
      refine pw_aload_n C dX8_load_56 rfl 0 rfl ?_
      refine pw_geti C dX8_load_57 gf_RX8_169 gk_189.1 gk_189.2 rfl ?_
      exact pw_iret C hT dX8_load_60 h
    · replace h := h.2 q
      refine pw_iconst (v := 0) C dX8_load_20 (by decide) ?_
      exact pw_iret C hT dX8_load_21 h
  clear h
  refine pw_icmp_ne (tgt := 13) C dX8_load_6 (by decide) (fun q1 => ?_) (fun q1 => ?_)
  · refine pw_iconst (v := 1) C dX8_load_13 (by decide) ?_
    exact hJ true (if_neg q1)
  · refine pw_iconst (v := 0) C dX8_load_9 (by decide) ?_
    refine pw_goto (tgt := 14) C dX8_load_10 (by decide) ?_
    exact hJ false (if_pos q1)
set_option maxRecDepth 4000 in
theorem sg_X8_workers_0 {x : gw_X} {G : gw_G} {Φ : Int32 → gw_S → Prop} (C : XC x G RX8 cX8_workers 3 (some .int)) (hR : gw_ok x 2) (hT : RT x G (fi Φ))  (σ : gw_S)
    (h : PW x G 3 4 [(0, .ref (G.1 + 189)), (1, .int 0), (2, .int 0)] [] σ) : PW x G 3 0 [(0, .ref (G.1 + 189))] [] σ := by
  refine pw_iconst (v := 0) C dX8_workers_0 (by decide) ?_
  refine pw_istore_n C dX8_workers_1 rfl (by decide) rfl ?_
  refine pw_iconst (v := 0) C dX8_workers_2 (by decide) ?_
  refine pw_istore_n C dX8_workers_3 rfl (by decide) rfl ?_
  exact pw_sub [2, 1, 0] rfl h
set_option maxRecDepth 4000 in
theorem sg_X8_workers_4 {x : gw_X} {G : gw_G} {Φ : Int32 → gw_S → Prop} (C : XC x G RX8 cX8_workers 3 (some .int)) (hR : gw_ok x 2) (hT : RT x G (fi Φ)) (v1 : Int32) (v2 : Int32) (σ : gw_S)
    (h : ((σ.1 192 ((0 : Int32).toNatClampNeg)) ≤ v2 → Φ v1 σ) ∧ (¬ ((σ.1 192 ((0 : Int32).toNatClampNeg)) ≤ v2) → ∃ Φ1 : Bool → gw_S → Prop, gw_M (xl x) G yX8_canWork cX8_canWork 7 (some .boolean) 1 [.ref (G.1 + 192), .int v2] σ (fz Φ1) ∧ ∀ (r3 : Bool) (τ2 : gw_S), Φ1 r3 τ2 → (PW x G 3 4 [(0, .ref (G.1 + 189)), (1, .int (v1 ||| (if r3 = false then 0 else (1 : Int32) <<< (v2 &&& 31) : Int32))), (2, .int (v2 + 1))] [] τ2))) : PW x G 3 4 [(0, .ref (G.1 + 189)), (1, .int v1), (2, .int v2)] [] σ := by
  refine pw_iload_n C dX8_workers_4 rfl 2 rfl ?_
  refine pw_aload_n C dX8_workers_5 rfl 0 rfl ?_
  refine pw_getr C dX8_workers_6 gf_RX8_16 gk_189.1 gk_189.2 rfl ?_
  refine pw_iconst (v := 0) C dX8_workers_9 (by decide) ?_
  refine pw_iald C dX8_workers_10 gk_192.1 gk_192.2 (by show ¬ (_ ∨ _); decide) ?_
  refine pw_icmp_ge (tgt := 41) C dX8_workers_11 (by decide) (fun q => ?_) (fun q => ?_)
  · replace h := h.1 q
    refine pw_iload_n C dX8_workers_41 rfl 1 rfl ?_
    exact pw_iret C hT dX8_workers_42 h
  · replace h := h.2 q
    refine pw_iload_n C dX8_workers_14 rfl 1 rfl ?_
    refine pw_aload_n C dX8_workers_15 rfl 0 rfl ?_
    refine pw_getr C dX8_workers_16 gf_RX8_16 gk_189.1 gk_189.2 rfl ?_
    refine pw_iload_n C dX8_workers_19 rfl 2 rfl ?_
    obtain ⟨Φ1, hM, h⟩ := h
    refine pw_callS C dX8_workers_20 hM gm_X8_canWork gl_RX8_106 rfl hR (by decide) (by decide) rfl (Nat.le_of_ble_eq_true rfl) ?_
    rintro _ τ2 ⟨r3, rfl, hv⟩
    replace h := h r3 τ2 hv
    show PW x G 3 23 [(0, .ref (G.1 + 189)), (1, .int v1), (2, .int v2)] [.int (gz r3), .int v1] τ2
    have hJ : ∀ w0 : Int32, (if r3 = false then 0 else (1 : Int32) <<< (v2 &&& 31) : Int32) = w0 → PW x G 3 33 [(0, .ref (G.1 + 189)), (1, .int v1), (2, .int v2)] [.int w0, .int v1] τ2 := by
      rintro _ rfl
      refine pw_ior C dX8_workers_33 ?_
      refine pw_istore_n C dX8_workers_34 rfl (by decide) rfl ?_
      refine pw_iinc (v := (v2 + 1)) (j := 2) C dX8_workers_35 rfl rfl (by decide) rfl ?_
      refine pw_goto (tgt := 4) C dX8_workers_38 (by decide) ?_
      exact pw_sub [2, 1, 0] rfl h
    clear h
    refine pw_z_eq (tgt := 32) C dX8_workers_23 (by decide) (fun q2 => ?_) (fun q2 => ?_)
    · refine pw_iconst (v := 0) C dX8_workers_32 (by decide) ?_
      exact hJ 0 (if_pos q2)
    · refine pw_iconst (v := 1) C dX8_workers_26 (by decide) ?_
      refine pw_iload_n C dX8_workers_27 rfl 2 rfl ?_
      refine pw_ishl C dX8_workers_28 ?_
      refine pw_goto (tgt := 33) C dX8_workers_29 (by decide) ?_
      exact hJ ((1 : Int32) <<< (v2 &&& 31)) (if_neg q2)
set_option maxRecDepth 4000 in
theorem sg_X8_loopers_0 {x : gw_X} {G : gw_G} {Φ : Int32 → gw_S → Prop} (C : XC x G RX8 cX8_loopers 3 (some .int)) (hR : gw_ok x 2) (hT : RT x G (fi Φ))  (σ : gw_S)
    (h : ∃ Φ1 : gw_S → Prop, gw_M (xl x) G yX8_layWays cX8_layWays 7 none 1 [.ref (G.1 + 189), .ref (G.1 + 192), .int 999] σ (fv Φ1) ∧ ∀ (τ2 : gw_S), Φ1 τ2 → (PW x G 3 15 [(0, .ref (G.1 + 189)), (1, .int 0), (2, .int 0)] [] τ2)) : PW x G 3 0 [(0, .ref (G.1 + 189))] [] σ := by
  refine pw_aload_n C dX8_loopers_0 rfl 0 rfl ?_
  refine pw_aload_n C dX8_loopers_1 rfl 0 rfl ?_
  refine pw_getr C dX8_loopers_2 gf_RX8_16 gk_189.1 gk_189.2 rfl ?_
  refine pw_sipush (v := 999) C dX8_loopers_5 (by decide) ?_
  obtain ⟨Φ1, hM, h⟩ := h
  refine pw_callV C dX8_loopers_8 hM gm_X8_layWays gl_RX8_81 rfl hR (by decide) (by decide) (by decide) rfl gk_189.1 gk_189.2 rfl (Nat.le_of_ble_eq_true rfl) ?_
  rintro _ τ2 ⟨rfl, hv⟩
  replace h := h τ2 hv
  show PW x G 3 11 [(0, .ref (G.1 + 189))] [] τ2
  refine pw_iconst (v := 0) C dX8_loopers_11 (by decide) ?_
  refine pw_istore_n C dX8_loopers_12 rfl (by decide) rfl ?_
  refine pw_iconst (v := 0) C dX8_loopers_13 (by decide) ?_
  refine pw_istore_n C dX8_loopers_14 rfl (by decide) rfl ?_
  exact pw_sub [2, 1, 0] rfl h
set_option maxRecDepth 4000 in
theorem sg_X8_loopers_15 {x : gw_X} {G : gw_G} {Φ : Int32 → gw_S → Prop} (C : XC x G RX8 cX8_loopers 3 (some .int)) (hR : gw_ok x 2) (hT : RT x G (fi Φ)) (v1 : Int32) (v2 : Int32) (σ : gw_S)
    (h : ((σ.1 192 ((0 : Int32).toNatClampNeg)) ≤ v2 → Φ v1 σ) ∧ (¬ ((σ.1 192 ((0 : Int32).toNatClampNeg)) ≤ v2) → vp_in (9 * v2) 64 ∧ (PW x G 3 15 [(0, .ref (G.1 + 189)), (1, .int (v1 ||| (if 1000000 ≤ (σ.1 204 ((9 * v2).toNatClampNeg)) then 0 else (1 : Int32) <<< (v2 &&& 31) : Int32))), (2, .int (v2 + 1))] [] σ))) : PW x G 3 15 [(0, .ref (G.1 + 189)), (1, .int v1), (2, .int v2)] [] σ := by
  refine pw_iload_n C dX8_loopers_15 rfl 2 rfl ?_
  refine pw_aload_n C dX8_loopers_16 rfl 0 rfl ?_
  refine pw_getr C dX8_loopers_17 gf_RX8_16 gk_189.1 gk_189.2 rfl ?_
  refine pw_iconst (v := 0) C dX8_loopers_20 (by decide) ?_
  refine pw_iald C dX8_loopers_21 gk_192.1 gk_192.2 (by show ¬ (_ ∨ _); decide) ?_
  refine pw_icmp_ge (tgt := 55) C dX8_loopers_22 (by decide) (fun q => ?_) (fun q => ?_)
  · replace h := h.1 q
    refine pw_iload_n C dX8_loopers_55 rfl 1 rfl ?_
    exact pw_iret C hT dX8_loopers_56 h
  · replace h := h.2 q
    refine pw_iload_n C dX8_loopers_25 rfl 1 rfl ?_
    refine pw_aload_n C dX8_loopers_26 rfl 0 rfl ?_
    refine pw_getr C dX8_loopers_27 gf_RX8_54 gk_189.1 gk_189.2 rfl ?_
    refine pw_bipush (v := 9) C dX8_loopers_30 (by decide) ?_
    refine pw_iload_n C dX8_loopers_32 rfl 2 rfl ?_
    refine pw_imul C dX8_loopers_33 ?_
    obtain ⟨g1, h⟩ := h
    refine pw_iald C dX8_loopers_34 gk_204.1 gk_204.2 g1 ?_
    refine pw_ldc C dX8_loopers_35 gl_RX8_80 ?_
    have hJ : ∀ w0 : Int32, (if 1000000 ≤ (σ.1 204 ((9 * v2).toNatClampNeg)) then 0 else (1 : Int32) <<< (v2 &&& 31) : Int32) = w0 → PW x G 3 47 [(0, .ref (G.1 + 189)), (1, .int v1), (2, .int v2)] [.int w0, .int v1] σ := by
      rintro _ rfl
      refine pw_ior C dX8_loopers_47 ?_
      refine pw_istore_n C dX8_loopers_48 rfl (by decide) rfl ?_
      refine pw_iinc (v := (v2 + 1)) (j := 2) C dX8_loopers_49 rfl rfl (by decide) rfl ?_
      refine pw_goto (tgt := 15) C dX8_loopers_52 (by decide) ?_
      exact pw_sub [2, 1, 0] rfl h
    clear h
    refine pw_icmp_ge (tgt := 46) C dX8_loopers_37 (by decide) (fun q2 => ?_) (fun q2 => ?_)
    · refine pw_iconst (v := 0) C dX8_loopers_46 (by decide) ?_
      exact hJ 0 (if_pos q2)
    · refine pw_iconst (v := 1) C dX8_loopers_40 (by decide) ?_
      refine pw_iload_n C dX8_loopers_41 rfl 2 rfl ?_
      refine pw_ishl C dX8_loopers_42 ?_
      refine pw_goto (tgt := 47) C dX8_loopers_43 (by decide) ?_
      exact hJ ((1 : Int32) <<< (v2 &&& 31)) (if_neg q2)
set_option maxRecDepth 4000 in
theorem sg_X8_about_0 {x : gw_X} {G : gw_G} {Φ : Int32 → gw_S → Prop} (C : XC x G RX8 cX8_about 3 (some .int)) (hR : gw_ok x 5) (hT : RT x G (fi Φ)) (v1 : Int32) (σ : gw_S)
    (h : ∀ τ1 : gw_S, τ1 = gw_u σ 189 0 (gz (if (if (lg_cmp v1.toInt64 0) < 0 then false else (if 0 < (lg_cmp v1.toInt64 8) then false else true : Bool) : Bool) = false then true else false : Bool)) → (((if (gz (if (if (lg_cmp v1.toInt64 0) < 0 then false else (if 0 < (lg_cmp v1.toInt64 8) then false else true : Bool) : Bool) = false then true else false : Bool)) ≤ 0 then false else true : Bool) = false → ∃ Φ2 : Bool → gw_S → Prop, gw_M (xl x) G yX8_layWorks cX8_layWorks 11 (some .boolean) 4 [.ref (G.1 + 189), .ref (G.1 + 192)] τ1 (fz Φ2) ∧ ∀ (r4 : Bool) (τ3 : gw_S), Φ2 r4 τ3 → ((v1.toInt < 0 ∨ 7 < v1.toInt → ∃ Φ5 : Int32 → gw_S → Prop, gw_M (xl x) G yX8_loopers cX8_loopers 3 (some .int) 2 [.ref (G.1 + 189)] τ3 (fi Φ5) ∧ ∀ (r7 : Int32) (τ6 : gw_S), Φ5 r7 τ6 → (Φ r7 τ6)) ∧ (v1.toInt = 0 → vp_in v1 96 ∧ (Φ (τ3.1 192 v1.toNatClampNeg) τ3)) ∧ (v1.toInt = 1 → vp_in v1 96 ∧ (Φ (τ3.1 192 v1.toNatClampNeg) τ3)) ∧ (v1.toInt = 2 → ∃ Φ10 : Int32 → gw_S → Prop, gw_M (xl x) G yX8_marks cX8_marks 3 (some .int) 1 [.ref (G.1 + 192)] τ3 (fi Φ10) ∧ ∀ (r12 : Int32) (τ11 : gw_S), Φ10 r12 τ11 → (Φ r12 τ11)) ∧ (v1.toInt = 3 → ∃ Φ13 : Int32 → gw_S → Prop, gw_M (xl x) G yX8_works cX8_works 3 (some .int) 1 [.ref (G.1 + 192)] τ3 (fi Φ13) ∧ ∀ (r15 : Int32) (τ14 : gw_S), Φ13 r15 τ14 → (Φ r15 τ14)) ∧ (v1.toInt = 4 → Φ (gz (if r4 = false then false else true : Bool)) τ3) ∧ (v1.toInt = 5 → Φ (τ3.1 189 15) τ3) ∧ (v1.toInt = 6 → (r4 = false → Φ (-1) τ3) ∧ (¬ (r4 = false) → ∃ Φ16 : Int32 → gw_S → Prop, gw_M (xl x) G yX8_dueTogether cX8_dueTogether 3 (some .int) 0 [.ref (G.1 + 189)] τ3 (fi Φ16) ∧ ∀ (r18 : Int32) (τ17 : gw_S), Φ16 r18 τ17 → (Φ r18 τ17))) ∧ (v1.toInt = 7 → ∃ Φ19 : Int32 → gw_S → Prop, gw_M (xl x) G yX8_workers cX8_workers 3 (some .int) 2 [.ref (G.1 + 189)] τ3 (fi Φ19) ∧ ∀ (r21 : Int32) (τ20 : gw_S), Φ19 r21 τ20 → (Φ r21 τ20)))) ∧ (¬ ((if (gz (if (if (lg_cmp v1.toInt64 0) < 0 then false else (if 0 < (lg_cmp v1.toInt64 8) then false else true : Bool) : Bool) = false then true else false : Bool)) ≤ 0 then false else true : Bool) = false) → Φ 0 τ1))) : PW x G 3 0 [(0, .ref (G.1 + 189)), (1, .int v1)] [] σ := by
  refine pw_aload_n C dX8_about_0 rfl 0 rfl ?_
  refine pw_iload_n C dX8_about_1 rfl 1 rfl ?_
  refine pw_i2l (v := v1.toInt64) C dX8_about_2 rfl ?_
  refine pw_lconst (v := 0) C dX8_about_3 (by decide) ?_
  refine pw_ldc2 C dX8_about_4 gl_RX8_216 ?_
  refine pw_callS C dX8_about_7 (k_X8_in v1.toInt64 0 8 σ ) gm_X8_in gl_RX8_146 rfl hR (by decide) (by decide) rfl (Nat.le_of_ble_eq_true rfl) ?_
  rintro _ _ ⟨_, rfl, rfl, rfl⟩
  show PW x G 3 10 [(0, .ref (G.1 + 189)), (1, .int v1)] [.int (gz (if (lg_cmp v1.toInt64 0) < 0 then false else (if 0 < (lg_cmp v1.toInt64 8) then false else true : Bool) : Bool)), .ref (G.1 + 189)] σ
  have hJ : ∀ w0 : Bool, (if (if (lg_cmp v1.toInt64 0) < 0 then false else (if 0 < (lg_cmp v1.toInt64 8) then false else true : Bool) : Bool) = false then true else false : Bool) = w0 → PW x G 3 18 [(0, .ref (G.1 + 189)), (1, .int v1)] [.int (gz w0), .ref (G.1 + 189)] σ := by
    rintro _ rfl
    refine pw_callV C dX8_about_18 (k_X8_refused (gz (if (if (lg_cmp v1.toInt64 0) < 0 then false else (if 0 < (lg_cmp v1.toInt64 8) then false else true : Bool) : Bool) = false then true else false : Bool)) σ ) gm_X8_refused gl_RX8_153 rfl hR (by decide) (by decide) (by decide) rfl gk_189.1 gk_189.2 rfl (Nat.le_of_ble_eq_true rfl) ?_
    rintro _ _ ⟨_, rfl, rfl, rfl⟩
    generalize hτ1 : gw_u σ 189 0 (gz (if (if (lg_cmp v1.toInt64 0) < 0 then false else (if 0 < (lg_cmp v1.toInt64 8) then false else true : Bool) : Bool) = false then true else false : Bool)) = τ1
    replace h := h τ1 hτ1.symm
    show PW x G 3 21 [(0, .ref (G.1 + 189)), (1, .int v1)] [.int (gz (if (gz (if (if (lg_cmp v1.toInt64 0) < 0 then false else (if 0 < (lg_cmp v1.toInt64 8) then false else true : Bool) : Bool) = false then true else false : Bool)) ≤ 0 then false else true : Bool))] τ1
    show PW x G 3 21 [(0, .ref (G.1 + 189)), (1, .int v1)] [.int (gz (if (gz (if (if (lg_cmp v1.toInt64 0) < 0 then false else (if 0 < (lg_cmp v1.toInt64 8) then false else true : Bool) : Bool) = false then true else false : Bool)) ≤ 0 then false else true : Bool))] τ1
    refine pw_z_eq (tgt := 26) C dX8_about_21 (by decide) (fun q => ?_) (fun q => ?_)
    · replace h := h.1 q
      refine pw_aload_n C dX8_about_26 rfl 0 rfl ?_
      refine pw_aload_n C dX8_about_27 rfl 0 rfl ?_
      refine pw_getr C dX8_about_28 gf_RX8_16 gk_189.1 gk_189.2 rfl ?_
      obtain ⟨Φ2, hM, h⟩ := h
      refine pw_callV C dX8_about_31 hM gm_X8_layWorks gl_RX8_134 rfl hR (by decide) (by decide) (by decide) rfl gk_189.1 gk_189.2 rfl (Nat.le_of_ble_eq_true rfl) ?_
      rintro _ τ3 ⟨r4, rfl, hv⟩
      replace h := h r4 τ3 hv
      show PW x G 3 34 [(0, .ref (G.1 + 189)), (1, .int v1)] [.int (gz r4)] τ3
      refine pw_istore_n C dX8_about_34 rfl (by decide) rfl ?_
      refine pw_iload_n C dX8_about_35 rfl 2 rfl ?_
      rcases Classical.em (v1.toInt < 0 ∨ 7 < v1.toInt) with q | q
      · replace h := h.1 q
        refine pw_tout (tgt := 140) C dX8_about_36 q (by decide) ?_
        refine pw_aload_n C dX8_about_140 rfl 1 rfl ?_
        obtain ⟨Φ5, hM, h⟩ := h
        refine pw_callV C dX8_about_141 hM gm_X8_loopers gl_RX8_231 rfl hR (by decide) (by decide) (by decide) rfl gk_189.1 gk_189.2 rfl (Nat.le_of_ble_eq_true rfl) ?_
        rintro _ τ6 ⟨r7, rfl, hv⟩
        replace h := h r7 τ6 hv
        show PW x G 3 144 [(2, .int (gz r4)), (0, .ref (G.1 + 189)), (1, .int v1)] [.int r7] τ6
        exact pw_iret C hT dX8_about_144 h
      · replace h := h.2
        have q2 : v1.toInt = 0 ∨ v1.toInt = 1 ∨ v1.toInt = 2 ∨ v1.toInt = 3 ∨ v1.toInt = 4 ∨ v1.toInt = 5 ∨ v1.toInt = 6 ∨ v1.toInt = 7 := by omega
        rcases q2 with q2 | q2 | q2 | q2 | q2 | q2 | q2 | q2
        · replace h := h.1 q2
          refine pw_tin (tgt := 84) (off := 48) C 0 dX8_about_36 q2 (by decide) (by decide) rfl (by decide) ?_
          refine pw_aload_n C dX8_about_84 rfl 1 rfl ?_
          refine pw_getr C dX8_about_85 gf_RX8_16 gk_189.1 gk_189.2 rfl ?_
          refine pw_iload_n C dX8_about_88 rfl 2 rfl ?_
          obtain ⟨g8, h⟩ := h
          refine pw_iald C dX8_about_89 gk_192.1 gk_192.2 g8 ?_
          exact pw_iret C hT dX8_about_90 h
        · replace h := h.2.1 q2
          refine pw_tin (tgt := 84) (off := 48) C 1 dX8_about_36 q2 (by decide) (by decide) rfl (by decide) ?_
          refine pw_aload_n C dX8_about_84 rfl 1 rfl ?_
          refine pw_getr C dX8_about_85 gf_RX8_16 gk_189.1 gk_189.2 rfl ?_
          refine pw_iload_n C dX8_about_88 rfl 2 rfl ?_
          obtain ⟨g9, h⟩ := h
          refine pw_iald C dX8_about_89 gk_192.1 gk_192.2 g9 ?_
          exact pw_iret C hT dX8_about_90 h
        · replace h := h.2.2.1 q2
          refine pw_tin (tgt := 91) (off := 55) C 2 dX8_about_36 q2 (by decide) (by decide) rfl (by decide) ?_
          refine pw_aload_n C dX8_about_91 rfl 1 rfl ?_
          refine pw_getr C dX8_about_92 gf_RX8_16 gk_189.1 gk_189.2 rfl ?_
          obtain ⟨Φ10, hM, h⟩ := h
          refine pw_callS C dX8_about_95 hM gm_X8_marks gl_RX8_218 rfl hR (by decide) (by decide) rfl (Nat.le_of_ble_eq_true rfl) ?_
          rintro _ τ11 ⟨r12, rfl, hv⟩
          replace h := h r12 τ11 hv
          show PW x G 3 98 [(2, .int (gz r4)), (0, .ref (G.1 + 189)), (1, .int v1)] [.int r12] τ11
          exact pw_iret C hT dX8_about_98 h
        · replace h := h.2.2.2.1 q2
          refine pw_tin (tgt := 99) (off := 63) C 3 dX8_about_36 q2 (by decide) (by decide) rfl (by decide) ?_
          refine pw_aload_n C dX8_about_99 rfl 1 rfl ?_
          refine pw_getr C dX8_about_100 gf_RX8_16 gk_189.1 gk_189.2 rfl ?_
          obtain ⟨Φ13, hM, h⟩ := h
          refine pw_callS C dX8_about_103 hM gm_X8_works gl_RX8_222 rfl hR (by decide) (by decide) rfl (Nat.le_of_ble_eq_true rfl) ?_
          rintro _ τ14 ⟨r15, rfl, hv⟩
          replace h := h r15 τ14 hv
          show PW x G 3 106 [(2, .int (gz r4)), (0, .ref (G.1 + 189)), (1, .int v1)] [.int r15] τ14
          exact pw_iret C hT dX8_about_106 h
        · replace h := h.2.2.2.2.1 q2
          refine pw_tin (tgt := 107) (off := 71) C 4 dX8_about_36 q2 (by decide) (by decide) rfl (by decide) ?_
          refine pw_iload_n C dX8_about_107 rfl 0 rfl ?_
          have hJ : ∀ w0 : Bool, (if r4 = false then false else true : Bool) = w0 → PW x G 3 116 [(2, .int (gz r4)), (0, .ref (G.1 + 189)), (1, .int v1)] [.int (gz w0)] τ3 := by
            rintro _ rfl
            exact pw_iret C hT dX8_about_116 h
          clear h
          refine pw_z_eq (tgt := 115) C dX8_about_108 (by decide) (fun q5 => ?_) (fun q5 => ?_)
          · refine pw_iconst (v := 0) C dX8_about_115 (by decide) ?_
            exact hJ false (if_pos q5)
          · refine pw_iconst (v := 1) C dX8_about_111 (by decide) ?_
            refine pw_goto (tgt := 116) C dX8_about_112 (by decide) ?_
            exact hJ true (if_neg q5)
        · replace h := h.2.2.2.2.2.1 q2
          refine pw_tin (tgt := 117) (off := 81) C 5 dX8_about_36 q2 (by decide) (by decide) rfl (by decide) ?_
          refine pw_aload_n C dX8_about_117 rfl 1 rfl ?_
          refine pw_geti C dX8_about_118 gf_RX8_93 gk_189.1 gk_189.2 rfl ?_
          exact pw_iret C hT dX8_about_121 h
        · replace h := h.2.2.2.2.2.2.1 q2
          refine pw_tin (tgt := 122) (off := 86) C 6 dX8_about_36 q2 (by decide) (by decide) rfl (by decide) ?_
          refine pw_iload_n C dX8_about_122 rfl 0 rfl ?_
          refine pw_z_eq (tgt := 133) C dX8_about_123 (by decide) (fun q => ?_) (fun q => ?_)
          · replace h := h.1 q
            refine pw_iconst (v := (-1)) C dX8_about_133 (by decide) ?_
            exact pw_iret C hT dX8_about_134 h
          · replace h := h.2 q
            refine pw_aload_n C dX8_about_126 rfl 1 rfl ?_
            obtain ⟨Φ16, hM, h⟩ := h
            refine pw_callV C dX8_about_127 hM gm_X8_dueTogether gl_RX8_225 rfl hR (by decide) (by decide) (by decide) rfl gk_189.1 gk_189.2 rfl (Nat.le_of_ble_eq_true rfl) ?_
            rintro _ τ17 ⟨r18, rfl, hv⟩
            replace h := h r18 τ17 hv
            show PW x G 3 130 [(2, .int (gz r4)), (0, .ref (G.1 + 189)), (1, .int v1)] [.int r18] τ17
            refine pw_goto (tgt := 134) C dX8_about_130 (by decide) ?_
            exact pw_iret C hT dX8_about_134 h
        · replace h := h.2.2.2.2.2.2.2 q2
          refine pw_tin (tgt := 135) (off := 99) C 7 dX8_about_36 q2 (by decide) (by decide) rfl (by decide) ?_
          refine pw_aload_n C dX8_about_135 rfl 1 rfl ?_
          obtain ⟨Φ19, hM, h⟩ := h
          refine pw_callV C dX8_about_136 hM gm_X8_workers gl_RX8_228 rfl hR (by decide) (by decide) (by decide) rfl gk_189.1 gk_189.2 rfl (Nat.le_of_ble_eq_true rfl) ?_
          rintro _ τ20 ⟨r21, rfl, hv⟩
          replace h := h r21 τ20 hv
          show PW x G 3 139 [(2, .int (gz r4)), (0, .ref (G.1 + 189)), (1, .int v1)] [.int r21] τ20
          exact pw_iret C hT dX8_about_139 h
    · replace h := h.2 q
      refine pw_iconst (v := 0) C dX8_about_24 (by decide) ?_
      exact pw_iret C hT dX8_about_25 h
  clear h
  refine pw_z_eq (tgt := 17) C dX8_about_10 (by decide) (fun q1 => ?_) (fun q1 => ?_)
  · refine pw_iconst (v := 1) C dX8_about_17 (by decide) ?_
    exact hJ true (if_pos q1)
  · refine pw_iconst (v := 0) C dX8_about_13 (by decide) ?_
    refine pw_goto (tgt := 18) C dX8_about_14 (by decide) ?_
    exact hJ false (if_neg q1)
set_option maxRecDepth 4000 in
theorem sg_X8_wiresOf_0 {x : gw_X} {G : gw_G} {Φ : Int32 → gw_S → Prop} (C : XC x G RX8 cX8_wiresOf 5 (some .int)) (hR : gw_ok x 1) (hT : RT x G (fi Φ)) (v1 : Int32) (v2 : Int32) (σ : gw_S)
    (h : PW x G 5 5 [(0, .ref (G.1 + 189)), (1, .int v1), (2, .int v2), (3, .int 0), (4, .int 0)] [] σ) : PW x G 5 0 [(0, .ref (G.1 + 189)), (1, .int v1), (2, .int v2)] [] σ := by
  refine pw_iconst (v := 0) C dX8_wiresOf_0 (by decide) ?_
  refine pw_istore_n C dX8_wiresOf_1 rfl (by decide) rfl ?_
  refine pw_iconst (v := 0) C dX8_wiresOf_2 (by decide) ?_
  refine pw_istore C dX8_wiresOf_3 (by decide) rfl ?_
  exact pw_sub [2, 3, 4, 1, 0] rfl h
set_option maxRecDepth 4000 in
theorem sg_X8_wiresOf_5 {x : gw_X} {G : gw_G} {Φ : Int32 → gw_S → Prop} (C : XC x G RX8 cX8_wiresOf 5 (some .int)) (hR : gw_ok x 1) (hT : RT x G (fi Φ)) (v1 : Int32) (v2 : Int32) (v3 : Int32) (v4 : Int32) (σ : gw_S)
    (h : ((σ.1 192 ((1 : Int32).toNatClampNeg)) ≤ v4 → Φ v3 σ) ∧ (¬ ((σ.1 192 ((1 : Int32).toNatClampNeg)) ≤ v4) → vp_in ((26 + (5 * v4)) + v2) 96 ∧ (PW x G 5 5 [(0, .ref (G.1 + 189)), (1, .int v1), (2, .int v2), (3, .int (v3 + (gz (if (σ.1 192 (((26 + (5 * v4)) + v2).toNatClampNeg)) = v1 then true else false : Bool)))), (4, .int (v4 + 1))] [] σ))) : PW x G 5 5 [(0, .ref (G.1 + 189)), (1, .int v1), (2, .int v2), (3, .int v3), (4, .int v4)] [] σ := by
  refine pw_iload C dX8_wiresOf_5 4 rfl ?_
  refine pw_aload_n C dX8_wiresOf_7 rfl 0 rfl ?_
  refine pw_getr C dX8_wiresOf_8 gf_RX8_16 gk_189.1 gk_189.2 rfl ?_
  refine pw_iconst (v := 1) C dX8_wiresOf_11 (by decide) ?_
  refine pw_iald C dX8_wiresOf_12 gk_192.1 gk_192.2 (by show ¬ (_ ∨ _); decide) ?_
  refine pw_icmp_ge (tgt := 45) C dX8_wiresOf_13 (by decide) (fun q => ?_) (fun q => ?_)
  · replace h := h.1 q
    refine pw_iload_n C dX8_wiresOf_45 rfl 3 rfl ?_
    exact pw_iret C hT dX8_wiresOf_46 h
  · replace h := h.2 q
    refine pw_iload_n C dX8_wiresOf_16 rfl 3 rfl ?_
    refine pw_aload_n C dX8_wiresOf_17 rfl 0 rfl ?_
    refine pw_getr C dX8_wiresOf_18 gf_RX8_16 gk_189.1 gk_189.2 rfl ?_
    refine pw_iload C dX8_wiresOf_21 4 rfl ?_
    refine pw_iload_n C dX8_wiresOf_23 rfl 2 rfl ?_
    refine pw_callS C dX8_wiresOf_24 (k_X8_wireAt v4 v2 σ ) gm_X8_wireAt gl_RX8_73 rfl hR (by decide) (by decide) rfl (Nat.le_of_ble_eq_true rfl) ?_
    rintro _ _ ⟨_, rfl, rfl, rfl⟩
    show PW x G 5 27 [(0, .ref (G.1 + 189)), (1, .int v1), (2, .int v2), (3, .int v3), (4, .int v4)] [.int ((26 + (5 * v4)) + v2), .ref (G.1 + 192), .int v3] σ
    obtain ⟨g1, h⟩ := h
    refine pw_iald C dX8_wiresOf_27 gk_192.1 gk_192.2 g1 ?_
    refine pw_iload_n C dX8_wiresOf_28 rfl 1 rfl ?_
    have hJ : ∀ w0 : Bool, (if (σ.1 192 (((26 + (5 * v4)) + v2).toNatClampNeg)) = v1 then true else false : Bool) = w0 → PW x G 5 37 [(0, .ref (G.1 + 189)), (1, .int v1), (2, .int v2), (3, .int v3), (4, .int v4)] [.int (gz w0), .int v3] σ := by
      rintro _ rfl
      refine pw_iadd C dX8_wiresOf_37 ?_
      refine pw_istore_n C dX8_wiresOf_38 rfl (by decide) rfl ?_
      refine pw_iinc (v := (v4 + 1)) (j := 4) C dX8_wiresOf_39 rfl rfl (by decide) rfl ?_
      refine pw_goto (tgt := 5) C dX8_wiresOf_42 (by decide) ?_
      exact pw_sub [2, 3, 4, 1, 0] rfl h
    clear h
    refine pw_icmp_ne (tgt := 36) C dX8_wiresOf_29 (by decide) (fun q2 => ?_) (fun q2 => ?_)
    · refine pw_iconst (v := 0) C dX8_wiresOf_36 (by decide) ?_
      exact hJ false (if_neg q2)
    · refine pw_iconst (v := 1) C dX8_wiresOf_32 (by decide) ?_
      refine pw_goto (tgt := 37) C dX8_wiresOf_33 (by decide) ?_
      exact hJ true (if_pos q2)
set_option maxRecDepth 4000 in
theorem sg_X8_module_0 {x : gw_X} {G : gw_G} {Φ : Int32 → gw_S → Prop} (C : XC x G RX8 cX8_module 3 (some .int)) (hR : gw_ok x 5) (hT : RT x G (fi Φ)) (v1 : Int32) (v2 : Int32) (σ : gw_S)
    (h : ∀ τ1 : gw_S, τ1 = gw_u σ 189 0 (if (if (lg_cmp v1.toInt64 0) < 0 then false else (if 0 < (lg_cmp v1.toInt64 (((σ.1 192 ((0 : Int32).toNatClampNeg)) - 1).toInt64)) then false else true : Bool) : Bool) = false then 1 else (if (if (lg_cmp v2.toInt64 0) < 0 then false else (if 0 < (lg_cmp v2.toInt64 5) then false else true : Bool) : Bool) = false then 2 else 0 : Int32) : Int32) → (((if (if (if (lg_cmp v1.toInt64 0) < 0 then false else (if 0 < (lg_cmp v1.toInt64 (((σ.1 192 ((0 : Int32).toNatClampNeg)) - 1).toInt64)) then false else true : Bool) : Bool) = false then 1 else (if (if (lg_cmp v2.toInt64 0) < 0 then false else (if 0 < (lg_cmp v2.toInt64 5) then false else true : Bool) : Bool) = false then 2 else 0 : Int32) : Int32) ≤ 0 then false else true : Bool) = false → (v2.toInt < 3 ∨ 5 < v2.toInt → vp_in ((2 + (3 * v1)) + v2) 96 ∧ (Φ (τ1.1 192 (((2 + (3 * v1)) + v2).toNatClampNeg)) τ1)) ∧ (v2.toInt = 3 → ∃ Φ3 : Bool → gw_S → Prop, gw_M (xl x) G yX8_layWorks cX8_layWorks 11 (some .boolean) 4 [.ref (G.1 + 189), .ref (G.1 + 192)] τ1 (fz Φ3) ∧ ∀ (r5 : Bool) (τ4 : gw_S), Φ3 r5 τ4 → (((r5 = false → True) ∧ (¬ (r5 = false) → vp_in v1 8 ∧ (True))) ∧ (Φ (if r5 = false then (-1) else τ4.1 197 v1.toNatClampNeg : Int32) τ4))) ∧ (v2.toInt = 4 → ∃ Φ7 : Int32 → gw_S → Prop, gw_M (xl x) G yX8_wiresOf cX8_wiresOf 5 (some .int) 1 [.ref (G.1 + 189), .int v1, .int 1] τ1 (fi Φ7) ∧ ∀ (r9 : Int32) (τ8 : gw_S), Φ7 r9 τ8 → (Φ r9 τ8)) ∧ (v2.toInt = 5 → ∃ Φ10 : Int32 → gw_S → Prop, gw_M (xl x) G yX8_wiresOf cX8_wiresOf 5 (some .int) 1 [.ref (G.1 + 189), .int v1, .int 0] τ1 (fi Φ10) ∧ ∀ (r12 : Int32) (τ11 : gw_S), Φ10 r12 τ11 → (Φ r12 τ11))) ∧ (¬ ((if (if (if (lg_cmp v1.toInt64 0) < 0 then false else (if 0 < (lg_cmp v1.toInt64 (((σ.1 192 ((0 : Int32).toNatClampNeg)) - 1).toInt64)) then false else true : Bool) : Bool) = false then 1 else (if (if (lg_cmp v2.toInt64 0) < 0 then false else (if 0 < (lg_cmp v2.toInt64 5) then false else true : Bool) : Bool) = false then 2 else 0 : Int32) : Int32) ≤ 0 then false else true : Bool) = false) → Φ 0 τ1))) : PW x G 3 0 [(0, .ref (G.1 + 189)), (1, .int v1), (2, .int v2)] [] σ := by
  refine pw_aload_n C dX8_module_0 rfl 0 rfl ?_
  refine pw_aload_n C dX8_module_1 rfl 0 rfl ?_
  refine pw_iload_n C dX8_module_2 rfl 1 rfl ?_
  refine pw_callV C dX8_module_3 (k_X8_isModule v1 σ ) gm_X8_isModule gl_RX8_234 rfl hR (by decide) (by decide) (by decide) rfl gk_189.1 gk_189.2 rfl (Nat.le_of_ble_eq_true rfl) ?_
  rintro _ _ ⟨_, rfl, rfl, rfl⟩
  show PW x G 3 6 [(0, .ref (G.1 + 189)), (1, .int v1), (2, .int v2)] [.int (gz (if (lg_cmp v1.toInt64 0) < 0 then false else (if 0 < (lg_cmp v1.toInt64 (((σ.1 192 ((0 : Int32).toNatClampNeg)) - 1).toInt64)) then false else true : Bool) : Bool)), .ref (G.1 + 189)] σ
  have hJ : ∀ w0 : Int32, (if (if (lg_cmp v1.toInt64 0) < 0 then false else (if 0 < (lg_cmp v1.toInt64 (((σ.1 192 ((0 : Int32).toNatClampNeg)) - 1).toInt64)) then false else true : Bool) : Bool) = false then 1 else (if (if (lg_cmp v2.toInt64 0) < 0 then false else (if 0 < (lg_cmp v2.toInt64 5) then false else true : Bool) : Bool) = false then 2 else 0 : Int32) : Int32) = w0 → PW x G 3 30 [(0, .ref (G.1 + 189)), (1, .int v1), (2, .int v2)] [.int w0, .ref (G.1 + 189)] σ := by
    rintro _ rfl
    refine pw_callV C dX8_module_30 (k_X8_refused (if (if (lg_cmp v1.toInt64 0) < 0 then false else (if 0 < (lg_cmp v1.toInt64 (((σ.1 192 ((0 : Int32).toNatClampNeg)) - 1).toInt64)) then false else true : Bool) : Bool) = false then 1 else (if (if (lg_cmp v2.toInt64 0) < 0 then false else (if 0 < (lg_cmp v2.toInt64 5) then false else true : Bool) : Bool) = false then 2 else 0 : Int32) : Int32) σ ) gm_X8_refused gl_RX8_153 rfl hR (by decide) (by decide) (by decide) rfl gk_189.1 gk_189.2 rfl (Nat.le_of_ble_eq_true rfl) ?_
    rintro _ _ ⟨_, rfl, rfl, rfl⟩
    generalize hτ1 : gw_u σ 189 0 (if (if (lg_cmp v1.toInt64 0) < 0 then false else (if 0 < (lg_cmp v1.toInt64 (((σ.1 192 ((0 : Int32).toNatClampNeg)) - 1).toInt64)) then false else true : Bool) : Bool) = false then 1 else (if (if (lg_cmp v2.toInt64 0) < 0 then false else (if 0 < (lg_cmp v2.toInt64 5) then false else true : Bool) : Bool) = false then 2 else 0 : Int32) : Int32) = τ1
    replace h := h τ1 hτ1.symm
    show PW x G 3 33 [(0, .ref (G.1 + 189)), (1, .int v1), (2, .int v2)] [.int (gz (if (if (if (lg_cmp v1.toInt64 0) < 0 then false else (if 0 < (lg_cmp v1.toInt64 (((σ.1 192 ((0 : Int32).toNatClampNeg)) - 1).toInt64)) then false else true : Bool) : Bool) = false then 1 else (if (if (lg_cmp v2.toInt64 0) < 0 then false else (if 0 < (lg_cmp v2.toInt64 5) then false else true : Bool) : Bool) = false then 2 else 0 : Int32) : Int32) ≤ 0 then false else true : Bool))] τ1
    show PW x G 3 33 [(0, .ref (G.1 + 189)), (1, .int v1), (2, .int v2)] [.int (gz (if (if (if (lg_cmp v1.toInt64 0) < 0 then false else (if 0 < (lg_cmp v1.toInt64 (((σ.1 192 ((0 : Int32).toNatClampNeg)) - 1).toInt64)) then false else true : Bool) : Bool) = false then 1 else (if (if (lg_cmp v2.toInt64 0) < 0 then false else (if 0 < (lg_cmp v2.toInt64 5) then false else true : Bool) : Bool) = false then 2 else 0 : Int32) : Int32) ≤ 0 then false else true : Bool))] τ1
    refine pw_z_eq (tgt := 38) C dX8_module_33 (by decide) (fun q => ?_) (fun q => ?_)
    · replace h := h.1 q
      refine pw_iload_n C dX8_module_38 rfl 2 rfl ?_
      rcases Classical.em (v2.toInt < 3 ∨ 5 < v2.toInt) with q | q
      · replace h := h.1 q
        refine pw_tout (tgt := 100) C dX8_module_39 q (by decide) ?_
        refine pw_aload_n C dX8_module_100 rfl 0 rfl ?_
        refine pw_getr C dX8_module_101 gf_RX8_16 gk_189.1 gk_189.2 rfl ?_
        refine pw_iload_n C dX8_module_104 rfl 1 rfl ?_
        refine pw_iload_n C dX8_module_105 rfl 2 rfl ?_
        refine pw_callS C dX8_module_106 (k_X8_moduleAt v1 v2 τ1 ) gm_X8_moduleAt gl_RX8_77 rfl hR (by decide) (by decide) rfl (Nat.le_of_ble_eq_true rfl) ?_
        rintro _ _ ⟨_, rfl, rfl, rfl⟩
        show PW x G 3 109 [(0, .ref (G.1 + 189)), (1, .int v1), (2, .int v2)] [.int ((2 + (3 * v1)) + v2), .ref (G.1 + 192)] τ1
        obtain ⟨g2, h⟩ := h
        refine pw_iald C dX8_module_109 gk_192.1 gk_192.2 g2 ?_
        exact pw_iret C hT dX8_module_110 h
      · replace h := h.2
        have q2 : v2.toInt = 3 ∨ v2.toInt = 4 ∨ v2.toInt = 5 := by omega
        rcases q2 with q2 | q2 | q2
        · replace h := h.1 q2
          refine pw_tin (tgt := 64) (off := 25) C 3 dX8_module_39 q2 (by decide) (by decide) rfl (by decide) ?_
          refine pw_aload_n C dX8_module_64 rfl 0 rfl ?_
          refine pw_aload_n C dX8_module_65 rfl 0 rfl ?_
          refine pw_getr C dX8_module_66 gf_RX8_16 gk_189.1 gk_189.2 rfl ?_
          obtain ⟨Φ3, hM, h⟩ := h
          refine pw_callV C dX8_module_69 hM gm_X8_layWorks gl_RX8_134 rfl hR (by decide) (by decide) (by decide) rfl gk_189.1 gk_189.2 rfl (Nat.le_of_ble_eq_true rfl) ?_
          rintro _ τ4 ⟨r5, rfl, hv⟩
          replace h := h r5 τ4 hv
          show PW x G 3 72 [(0, .ref (G.1 + 189)), (1, .int v1), (2, .int v2)] [.int (gz r5)] τ4
          obtain ⟨hs, h⟩ := h
          have hJ : ∀ w0 : Int32, (if r5 = false then (-1) else τ4.1 197 v1.toNatClampNeg : Int32) = w0 → PW x G 3 85 [(0, .ref (G.1 + 189)), (1, .int v1), (2, .int v2)] [.int w0] τ4 := by
            rintro _ rfl
            exact pw_iret C hT dX8_module_85 h
          clear h
          refine pw_z_eq (tgt := 84) C dX8_module_72 (by decide) (fun q5 => ?_) (fun q5 => ?_)
          · replace hs := hs.1 q5
            refine pw_iconst (v := (-1)) C dX8_module_84 (by decide) ?_
            exact hJ (-1) (if_pos q5)
          · replace hs := hs.2 q5
            refine pw_aload_n C dX8_module_75 rfl 0 rfl ?_
            refine pw_getr C dX8_module_76 gf_RX8_32 gk_189.1 gk_189.2 rfl ?_
            refine pw_iload_n C dX8_module_79 rfl 1 rfl ?_
            obtain ⟨g6, hs⟩ := hs
            refine pw_iald C dX8_module_80 gk_197.1 gk_197.2 g6 ?_
            refine pw_goto (tgt := 85) C dX8_module_81 (by decide) ?_
            exact hJ (τ4.1 197 v1.toNatClampNeg) (if_neg q5)
        · replace h := h.2.1 q2
          refine pw_tin (tgt := 86) (off := 47) C 4 dX8_module_39 q2 (by decide) (by decide) rfl (by decide) ?_
          refine pw_aload_n C dX8_module_86 rfl 0 rfl ?_
          refine pw_iload_n C dX8_module_87 rfl 1 rfl ?_
          refine pw_iconst (v := 1) C dX8_module_88 (by decide) ?_
          obtain ⟨Φ7, hM, h⟩ := h
          refine pw_callV C dX8_module_89 hM gm_X8_wiresOf gl_RX8_239 rfl hR (by decide) (by decide) (by decide) rfl gk_189.1 gk_189.2 rfl (Nat.le_of_ble_eq_true rfl) ?_
          rintro _ τ8 ⟨r9, rfl, hv⟩
          replace h := h r9 τ8 hv
          show PW x G 3 92 [(0, .ref (G.1 + 189)), (1, .int v1), (2, .int v2)] [.int r9] τ8
          exact pw_iret C hT dX8_module_92 h
        · replace h := h.2.2 q2
          refine pw_tin (tgt := 93) (off := 54) C 5 dX8_module_39 q2 (by decide) (by decide) rfl (by decide) ?_
          refine pw_aload_n C dX8_module_93 rfl 0 rfl ?_
          refine pw_iload_n C dX8_module_94 rfl 1 rfl ?_
          refine pw_iconst (v := 0) C dX8_module_95 (by decide) ?_
          obtain ⟨Φ10, hM, h⟩ := h
          refine pw_callV C dX8_module_96 hM gm_X8_wiresOf gl_RX8_239 rfl hR (by decide) (by decide) (by decide) rfl gk_189.1 gk_189.2 rfl (Nat.le_of_ble_eq_true rfl) ?_
          rintro _ τ11 ⟨r12, rfl, hv⟩
          replace h := h r12 τ11 hv
          show PW x G 3 99 [(0, .ref (G.1 + 189)), (1, .int v1), (2, .int v2)] [.int r12] τ11
          exact pw_iret C hT dX8_module_99 h
    · replace h := h.2 q
      refine pw_iconst (v := 0) C dX8_module_36 (by decide) ?_
      exact pw_iret C hT dX8_module_37 h
  clear h
  refine pw_z_ne (tgt := 13) C dX8_module_6 (by decide) (fun q1 => ?_) (fun q1 => ?_)
  · refine pw_iload_n C dX8_module_13 rfl 2 rfl ?_
    refine pw_i2l (v := v2.toInt64) C dX8_module_14 rfl ?_
    refine pw_lconst (v := 0) C dX8_module_15 (by decide) ?_
    refine pw_ldc2 C dX8_module_16 gl_RX8_237 ?_
    refine pw_callS C dX8_module_19 (k_X8_in v2.toInt64 0 5 σ ) gm_X8_in gl_RX8_146 rfl hR (by decide) (by decide) rfl (Nat.le_of_ble_eq_true rfl) ?_
    rintro _ _ ⟨_, rfl, rfl, rfl⟩
    show PW x G 3 22 [(0, .ref (G.1 + 189)), (1, .int v1), (2, .int v2)] [.int (gz (if (lg_cmp v2.toInt64 0) < 0 then false else (if 0 < (lg_cmp v2.toInt64 5) then false else true : Bool) : Bool)), .ref (G.1 + 189)] σ
    refine pw_z_eq (tgt := 29) C dX8_module_22 (by decide) (fun q2 => ?_) (fun q2 => ?_)
    · refine pw_iconst (v := 2) C dX8_module_29 (by decide) ?_
      exact hJ 2 ((if_neg q1).trans (if_pos q2))
    · refine pw_iconst (v := 0) C dX8_module_25 (by decide) ?_
      refine pw_goto (tgt := 30) C dX8_module_26 (by decide) ?_
      exact hJ 0 ((if_neg q1).trans (if_neg q2))
  · refine pw_iconst (v := 1) C dX8_module_9 (by decide) ?_
    refine pw_goto (tgt := 30) C dX8_module_10 (by decide) ?_
    exact hJ 1 (if_pos q1)
set_option maxRecDepth 4000 in
theorem sg_X8_wire_0 {x : gw_X} {G : gw_G} {Φ : Int32 → gw_S → Prop} (C : XC x G RX8 cX8_wire 3 (some .int)) (hR : gw_ok x 2) (hT : RT x G (fi Φ)) (v1 : Int32) (v2 : Int32) (σ : gw_S)
    (h : ∀ τ1 : gw_S, τ1 = gw_u σ 189 0 (if (if (lg_cmp v1.toInt64 0) < 0 then false else (if 0 < (lg_cmp v1.toInt64 (((σ.1 192 ((1 : Int32).toNatClampNeg)) - 1).toInt64)) then false else true : Bool) : Bool) = false then 1 else (if (if (lg_cmp v2.toInt64 0) < 0 then false else (if 0 < (lg_cmp v2.toInt64 4) then false else true : Bool) : Bool) = false then 2 else 0 : Int32) : Int32) → ((((if (if (if (lg_cmp v1.toInt64 0) < 0 then false else (if 0 < (lg_cmp v1.toInt64 (((σ.1 192 ((1 : Int32).toNatClampNeg)) - 1).toInt64)) then false else true : Bool) : Bool) = false then 1 else (if (if (lg_cmp v2.toInt64 0) < 0 then false else (if 0 < (lg_cmp v2.toInt64 4) then false else true : Bool) : Bool) = false then 2 else 0 : Int32) : Int32) ≤ 0 then false else true : Bool) = false → vp_in ((26 + (5 * v1)) + v2) 96 ∧ (True)) ∧ (¬ ((if (if (if (lg_cmp v1.toInt64 0) < 0 then false else (if 0 < (lg_cmp v1.toInt64 (((σ.1 192 ((1 : Int32).toNatClampNeg)) - 1).toInt64)) then false else true : Bool) : Bool) = false then 1 else (if (if (lg_cmp v2.toInt64 0) < 0 then false else (if 0 < (lg_cmp v2.toInt64 4) then false else true : Bool) : Bool) = false then 2 else 0 : Int32) : Int32) ≤ 0 then false else true : Bool) = false) → True)) ∧ (Φ (if (if (if (if (lg_cmp v1.toInt64 0) < 0 then false else (if 0 < (lg_cmp v1.toInt64 (((σ.1 192 ((1 : Int32).toNatClampNeg)) - 1).toInt64)) then false else true : Bool) : Bool) = false then 1 else (if (if (lg_cmp v2.toInt64 0) < 0 then false else (if 0 < (lg_cmp v2.toInt64 4) then false else true : Bool) : Bool) = false then 2 else 0 : Int32) : Int32) ≤ 0 then false else true : Bool) = false then τ1.1 192 (((26 + (5 * v1)) + v2).toNatClampNeg) else 0 : Int32) τ1))) : PW x G 3 0 [(0, .ref (G.1 + 189)), (1, .int v1), (2, .int v2)] [] σ := by
  refine pw_aload_n C dX8_wire_0 rfl 0 rfl ?_
  refine pw_aload_n C dX8_wire_1 rfl 0 rfl ?_
  refine pw_iload_n C dX8_wire_2 rfl 1 rfl ?_
  refine pw_callV C dX8_wire_3 (k_X8_isWire v1 σ ) gm_X8_isWire gl_RX8_242 rfl hR (by decide) (by decide) (by decide) rfl gk_189.1 gk_189.2 rfl (Nat.le_of_ble_eq_true rfl) ?_
  rintro _ _ ⟨_, rfl, rfl, rfl⟩
  show PW x G 3 6 [(0, .ref (G.1 + 189)), (1, .int v1), (2, .int v2)] [.int (gz (if (lg_cmp v1.toInt64 0) < 0 then false else (if 0 < (lg_cmp v1.toInt64 (((σ.1 192 ((1 : Int32).toNatClampNeg)) - 1).toInt64)) then false else true : Bool) : Bool)), .ref (G.1 + 189)] σ
  have hJ : ∀ w0 : Int32, (if (if (lg_cmp v1.toInt64 0) < 0 then false else (if 0 < (lg_cmp v1.toInt64 (((σ.1 192 ((1 : Int32).toNatClampNeg)) - 1).toInt64)) then false else true : Bool) : Bool) = false then 1 else (if (if (lg_cmp v2.toInt64 0) < 0 then false else (if 0 < (lg_cmp v2.toInt64 4) then false else true : Bool) : Bool) = false then 2 else 0 : Int32) : Int32) = w0 → PW x G 3 30 [(0, .ref (G.1 + 189)), (1, .int v1), (2, .int v2)] [.int w0, .ref (G.1 + 189)] σ := by
    rintro _ rfl
    refine pw_callV C dX8_wire_30 (k_X8_refused (if (if (lg_cmp v1.toInt64 0) < 0 then false else (if 0 < (lg_cmp v1.toInt64 (((σ.1 192 ((1 : Int32).toNatClampNeg)) - 1).toInt64)) then false else true : Bool) : Bool) = false then 1 else (if (if (lg_cmp v2.toInt64 0) < 0 then false else (if 0 < (lg_cmp v2.toInt64 4) then false else true : Bool) : Bool) = false then 2 else 0 : Int32) : Int32) σ ) gm_X8_refused gl_RX8_153 rfl hR (by decide) (by decide) (by decide) rfl gk_189.1 gk_189.2 rfl (Nat.le_of_ble_eq_true rfl) ?_
    rintro _ _ ⟨_, rfl, rfl, rfl⟩
    generalize hτ1 : gw_u σ 189 0 (if (if (lg_cmp v1.toInt64 0) < 0 then false else (if 0 < (lg_cmp v1.toInt64 (((σ.1 192 ((1 : Int32).toNatClampNeg)) - 1).toInt64)) then false else true : Bool) : Bool) = false then 1 else (if (if (lg_cmp v2.toInt64 0) < 0 then false else (if 0 < (lg_cmp v2.toInt64 4) then false else true : Bool) : Bool) = false then 2 else 0 : Int32) : Int32) = τ1
    replace h := h τ1 hτ1.symm
    show PW x G 3 33 [(0, .ref (G.1 + 189)), (1, .int v1), (2, .int v2)] [.int (gz (if (if (if (lg_cmp v1.toInt64 0) < 0 then false else (if 0 < (lg_cmp v1.toInt64 (((σ.1 192 ((1 : Int32).toNatClampNeg)) - 1).toInt64)) then false else true : Bool) : Bool) = false then 1 else (if (if (lg_cmp v2.toInt64 0) < 0 then false else (if 0 < (lg_cmp v2.toInt64 4) then false else true : Bool) : Bool) = false then 2 else 0 : Int32) : Int32) ≤ 0 then false else true : Bool))] τ1
    show PW x G 3 33 [(0, .ref (G.1 + 189)), (1, .int v1), (2, .int v2)] [.int (gz (if (if (if (lg_cmp v1.toInt64 0) < 0 then false else (if 0 < (lg_cmp v1.toInt64 (((σ.1 192 ((1 : Int32).toNatClampNeg)) - 1).toInt64)) then false else true : Bool) : Bool) = false then 1 else (if (if (lg_cmp v2.toInt64 0) < 0 then false else (if 0 < (lg_cmp v2.toInt64 4) then false else true : Bool) : Bool) = false then 2 else 0 : Int32) : Int32) ≤ 0 then false else true : Bool))] τ1
    obtain ⟨hs, h⟩ := h
    have hJ : ∀ w0 : Int32, (if (if (if (if (lg_cmp v1.toInt64 0) < 0 then false else (if 0 < (lg_cmp v1.toInt64 (((σ.1 192 ((1 : Int32).toNatClampNeg)) - 1).toInt64)) then false else true : Bool) : Bool) = false then 1 else (if (if (lg_cmp v2.toInt64 0) < 0 then false else (if 0 < (lg_cmp v2.toInt64 4) then false else true : Bool) : Bool) = false then 2 else 0 : Int32) : Int32) ≤ 0 then false else true : Bool) = false then τ1.1 192 (((26 + (5 * v1)) + v2).toNatClampNeg) else 0 : Int32) = w0 → PW x G 3 50 [(0, .ref (G.1 + 189)), (1, .int v1), (2, .int v2)] [.int w0] τ1 := by
      rintro _ rfl
      exact pw_iret C hT dX8_wire_50 h
    clear h
    refine pw_z_eq (tgt := 40) C dX8_wire_33 (by decide) (fun q2 => ?_) (fun q2 => ?_)
    · replace hs := hs.1 q2
      refine pw_aload_n C dX8_wire_40 rfl 0 rfl ?_
      refine pw_getr C dX8_wire_41 gf_RX8_16 gk_189.1 gk_189.2 rfl ?_
      refine pw_iload_n C dX8_wire_44 rfl 1 rfl ?_
      refine pw_iload_n C dX8_wire_45 rfl 2 rfl ?_
      refine pw_callS C dX8_wire_46 (k_X8_wireAt v1 v2 τ1 ) gm_X8_wireAt gl_RX8_73 rfl hR (by decide) (by decide) rfl (Nat.le_of_ble_eq_true rfl) ?_
      rintro _ _ ⟨_, rfl, rfl, rfl⟩
      show PW x G 3 49 [(0, .ref (G.1 + 189)), (1, .int v1), (2, .int v2)] [.int ((26 + (5 * v1)) + v2), .ref (G.1 + 192)] τ1
      obtain ⟨g2, hs⟩ := hs
      refine pw_iald C dX8_wire_49 gk_192.1 gk_192.2 g2 ?_
      exact hJ (τ1.1 192 (((26 + (5 * v1)) + v2).toNatClampNeg)) (if_pos q2)
    · replace hs := hs.2 q2
      refine pw_iconst (v := 0) C dX8_wire_36 (by decide) ?_
      refine pw_goto (tgt := 50) C dX8_wire_37 (by decide) ?_
      exact hJ 0 (if_neg q2)
  clear h
  refine pw_z_ne (tgt := 13) C dX8_wire_6 (by decide) (fun q1 => ?_) (fun q1 => ?_)
  · refine pw_iload_n C dX8_wire_13 rfl 2 rfl ?_
    refine pw_i2l (v := v2.toInt64) C dX8_wire_14 rfl ?_
    refine pw_lconst (v := 0) C dX8_wire_15 (by decide) ?_
    refine pw_ldc2 C dX8_wire_16 gl_RX8_245 ?_
    refine pw_callS C dX8_wire_19 (k_X8_in v2.toInt64 0 4 σ ) gm_X8_in gl_RX8_146 rfl hR (by decide) (by decide) rfl (Nat.le_of_ble_eq_true rfl) ?_
    rintro _ _ ⟨_, rfl, rfl, rfl⟩
    show PW x G 3 22 [(0, .ref (G.1 + 189)), (1, .int v1), (2, .int v2)] [.int (gz (if (lg_cmp v2.toInt64 0) < 0 then false else (if 0 < (lg_cmp v2.toInt64 4) then false else true : Bool) : Bool)), .ref (G.1 + 189)] σ
    refine pw_z_eq (tgt := 29) C dX8_wire_22 (by decide) (fun q2 => ?_) (fun q2 => ?_)
    · refine pw_iconst (v := 2) C dX8_wire_29 (by decide) ?_
      exact hJ 2 ((if_neg q1).trans (if_pos q2))
    · refine pw_iconst (v := 0) C dX8_wire_25 (by decide) ?_
      refine pw_goto (tgt := 30) C dX8_wire_26 (by decide) ?_
      exact hJ 0 ((if_neg q1).trans (if_neg q2))
  · refine pw_iconst (v := 1) C dX8_wire_9 (by decide) ?_
    refine pw_goto (tgt := 30) C dX8_wire_10 (by decide) ?_
    exact hJ 1 (if_pos q1)
set_option maxRecDepth 4000 in
theorem sg_X8_between_0 {x : gw_X} {G : gw_G} {Φ : Int32 → gw_S → Prop} (C : XC x G RX8 cX8_between 3 (some .int)) (hR : gw_ok x 2) (hT : RT x G (fi Φ)) (v1 : Int32) (v2 : Int32) (σ : gw_S)
    (h : ∀ τ1 : gw_S, τ1 = gw_u σ 189 0 (gz (if (if (lg_cmp v1.toInt64 0) < 0 then false else (if 0 < (lg_cmp v1.toInt64 (((σ.1 192 ((0 : Int32).toNatClampNeg)) - 1).toInt64)) then false else true : Bool) : Bool) = false then true else (if (if (lg_cmp v2.toInt64 0) < 0 then false else (if 0 < (lg_cmp v2.toInt64 (((σ.1 192 ((0 : Int32).toNatClampNeg)) - 1).toInt64)) then false else true : Bool) : Bool) = false then true else false : Bool) : Bool)) → (((if (gz (if (if (lg_cmp v1.toInt64 0) < 0 then false else (if 0 < (lg_cmp v1.toInt64 (((σ.1 192 ((0 : Int32).toNatClampNeg)) - 1).toInt64)) then false else true : Bool) : Bool) = false then true else (if (if (lg_cmp v2.toInt64 0) < 0 then false else (if 0 < (lg_cmp v2.toInt64 (((σ.1 192 ((0 : Int32).toNatClampNeg)) - 1).toInt64)) then false else true : Bool) : Bool) = false then true else false : Bool) : Bool)) ≤ 0 then false else true : Bool) = false → ∃ Φ2 : gw_S → Prop, gw_M (xl x) G yX8_layWays cX8_layWays 7 none 1 [.ref (G.1 + 189), .ref (G.1 + 192), .int 999] τ1 (fv Φ2) ∧ ∀ (τ3 : gw_S), Φ2 τ3 → (vp_in ((8 * v1) + v2) 64 ∧ (Φ (if 1000000 ≤ (τ3.1 204 (((8 * v1) + v2).toNatClampNeg)) then (-1) else τ3.1 204 (((8 * v1) + v2).toNatClampNeg) : Int32) τ3))) ∧ (¬ ((if (gz (if (if (lg_cmp v1.toInt64 0) < 0 then false else (if 0 < (lg_cmp v1.toInt64 (((σ.1 192 ((0 : Int32).toNatClampNeg)) - 1).toInt64)) then false else true : Bool) : Bool) = false then true else (if (if (lg_cmp v2.toInt64 0) < 0 then false else (if 0 < (lg_cmp v2.toInt64 (((σ.1 192 ((0 : Int32).toNatClampNeg)) - 1).toInt64)) then false else true : Bool) : Bool) = false then true else false : Bool) : Bool)) ≤ 0 then false else true : Bool) = false) → Φ 0 τ1))) : PW x G 3 0 [(0, .ref (G.1 + 189)), (1, .int v1), (2, .int v2)] [] σ := by
  refine pw_aload_n C dX8_between_0 rfl 0 rfl ?_
  refine pw_aload_n C dX8_between_1 rfl 0 rfl ?_
  refine pw_iload_n C dX8_between_2 rfl 1 rfl ?_
  refine pw_callV C dX8_between_3 (k_X8_isModule v1 σ ) gm_X8_isModule gl_RX8_234 rfl hR (by decide) (by decide) (by decide) rfl gk_189.1 gk_189.2 rfl (Nat.le_of_ble_eq_true rfl) ?_
  rintro _ _ ⟨_, rfl, rfl, rfl⟩
  show PW x G 3 6 [(0, .ref (G.1 + 189)), (1, .int v1), (2, .int v2)] [.int (gz (if (lg_cmp v1.toInt64 0) < 0 then false else (if 0 < (lg_cmp v1.toInt64 (((σ.1 192 ((0 : Int32).toNatClampNeg)) - 1).toInt64)) then false else true : Bool) : Bool)), .ref (G.1 + 189)] σ
  have hJ : ∀ w0 : Bool, (if (if (lg_cmp v1.toInt64 0) < 0 then false else (if 0 < (lg_cmp v1.toInt64 (((σ.1 192 ((0 : Int32).toNatClampNeg)) - 1).toInt64)) then false else true : Bool) : Bool) = false then true else (if (if (lg_cmp v2.toInt64 0) < 0 then false else (if 0 < (lg_cmp v2.toInt64 (((σ.1 192 ((0 : Int32).toNatClampNeg)) - 1).toInt64)) then false else true : Bool) : Bool) = false then true else false : Bool) : Bool) = w0 → PW x G 3 22 [(0, .ref (G.1 + 189)), (1, .int v1), (2, .int v2)] [.int (gz w0), .ref (G.1 + 189)] σ := by
    rintro _ rfl
    refine pw_callV C dX8_between_22 (k_X8_refused (gz (if (if (lg_cmp v1.toInt64 0) < 0 then false else (if 0 < (lg_cmp v1.toInt64 (((σ.1 192 ((0 : Int32).toNatClampNeg)) - 1).toInt64)) then false else true : Bool) : Bool) = false then true else (if (if (lg_cmp v2.toInt64 0) < 0 then false else (if 0 < (lg_cmp v2.toInt64 (((σ.1 192 ((0 : Int32).toNatClampNeg)) - 1).toInt64)) then false else true : Bool) : Bool) = false then true else false : Bool) : Bool)) σ ) gm_X8_refused gl_RX8_153 rfl hR (by decide) (by decide) (by decide) rfl gk_189.1 gk_189.2 rfl (Nat.le_of_ble_eq_true rfl) ?_
    rintro _ _ ⟨_, rfl, rfl, rfl⟩
    generalize hτ1 : gw_u σ 189 0 (gz (if (if (lg_cmp v1.toInt64 0) < 0 then false else (if 0 < (lg_cmp v1.toInt64 (((σ.1 192 ((0 : Int32).toNatClampNeg)) - 1).toInt64)) then false else true : Bool) : Bool) = false then true else (if (if (lg_cmp v2.toInt64 0) < 0 then false else (if 0 < (lg_cmp v2.toInt64 (((σ.1 192 ((0 : Int32).toNatClampNeg)) - 1).toInt64)) then false else true : Bool) : Bool) = false then true else false : Bool) : Bool)) = τ1
    replace h := h τ1 hτ1.symm
    show PW x G 3 25 [(0, .ref (G.1 + 189)), (1, .int v1), (2, .int v2)] [.int (gz (if (gz (if (if (lg_cmp v1.toInt64 0) < 0 then false else (if 0 < (lg_cmp v1.toInt64 (((σ.1 192 ((0 : Int32).toNatClampNeg)) - 1).toInt64)) then false else true : Bool) : Bool) = false then true else (if (if (lg_cmp v2.toInt64 0) < 0 then false else (if 0 < (lg_cmp v2.toInt64 (((σ.1 192 ((0 : Int32).toNatClampNeg)) - 1).toInt64)) then false else true : Bool) : Bool) = false then true else false : Bool) : Bool)) ≤ 0 then false else true : Bool))] τ1
    show PW x G 3 25 [(0, .ref (G.1 + 189)), (1, .int v1), (2, .int v2)] [.int (gz (if (gz (if (if (lg_cmp v1.toInt64 0) < 0 then false else (if 0 < (lg_cmp v1.toInt64 (((σ.1 192 ((0 : Int32).toNatClampNeg)) - 1).toInt64)) then false else true : Bool) : Bool) = false then true else (if (if (lg_cmp v2.toInt64 0) < 0 then false else (if 0 < (lg_cmp v2.toInt64 (((σ.1 192 ((0 : Int32).toNatClampNeg)) - 1).toInt64)) then false else true : Bool) : Bool) = false then true else false : Bool) : Bool)) ≤ 0 then false else true : Bool))] τ1
    refine pw_z_eq (tgt := 30) C dX8_between_25 (by decide) (fun q => ?_) (fun q => ?_)
    · replace h := h.1 q
      refine pw_aload_n C dX8_between_30 rfl 0 rfl ?_
      refine pw_aload_n C dX8_between_31 rfl 0 rfl ?_
      refine pw_getr C dX8_between_32 gf_RX8_16 gk_189.1 gk_189.2 rfl ?_
      refine pw_sipush (v := 999) C dX8_between_35 (by decide) ?_
      obtain ⟨Φ2, hM, h⟩ := h
      refine pw_callV C dX8_between_38 hM gm_X8_layWays gl_RX8_81 rfl hR (by decide) (by decide) (by decide) rfl gk_189.1 gk_189.2 rfl (Nat.le_of_ble_eq_true rfl) ?_
      rintro _ τ3 ⟨rfl, hv⟩
      replace h := h τ3 hv
      show PW x G 3 41 [(0, .ref (G.1 + 189)), (1, .int v1), (2, .int v2)] [] τ3
      refine pw_aload_n C dX8_between_41 rfl 0 rfl ?_
      refine pw_getr C dX8_between_42 gf_RX8_54 gk_189.1 gk_189.2 rfl ?_
      refine pw_bipush (v := 8) C dX8_between_45 (by decide) ?_
      refine pw_iload_n C dX8_between_47 rfl 1 rfl ?_
      refine pw_imul C dX8_between_48 ?_
      refine pw_iload_n C dX8_between_49 rfl 2 rfl ?_
      refine pw_iadd C dX8_between_50 ?_
      obtain ⟨g4, h⟩ := h
      refine pw_iald C dX8_between_51 gk_204.1 gk_204.2 g4 ?_
      refine pw_ldc C dX8_between_52 gl_RX8_80 ?_
      have hJ : ∀ w0 : Int32, (if 1000000 ≤ (τ3.1 204 (((8 * v1) + v2).toNatClampNeg)) then (-1) else τ3.1 204 (((8 * v1) + v2).toNatClampNeg) : Int32) = w0 → PW x G 3 72 [(0, .ref (G.1 + 189)), (1, .int v1), (2, .int v2)] [.int w0] τ3 := by
        rintro _ rfl
        exact pw_iret C hT dX8_between_72 h
      clear h
      refine pw_icmp_ge (tgt := 71) C dX8_between_54 (by decide) (fun q3 => ?_) (fun q3 => ?_)
      · refine pw_iconst (v := (-1)) C dX8_between_71 (by decide) ?_
        exact hJ (-1) (if_pos q3)
      · refine pw_aload_n C dX8_between_57 rfl 0 rfl ?_
        refine pw_getr C dX8_between_58 gf_RX8_54 gk_189.1 gk_189.2 rfl ?_
        refine pw_bipush (v := 8) C dX8_between_61 (by decide) ?_
        refine pw_iload_n C dX8_between_63 rfl 1 rfl ?_
        refine pw_imul C dX8_between_64 ?_
        refine pw_iload_n C dX8_between_65 rfl 2 rfl ?_
        refine pw_iadd C dX8_between_66 ?_
        refine pw_iald C dX8_between_67 gk_204.1 gk_204.2 g4 ?_
        refine pw_goto (tgt := 72) C dX8_between_68 (by decide) ?_
        exact hJ (τ3.1 204 (((8 * v1) + v2).toNatClampNeg)) (if_neg q3)
    · replace h := h.2 q
      refine pw_iconst (v := 0) C dX8_between_28 (by decide) ?_
      exact pw_iret C hT dX8_between_29 h
  clear h
  refine pw_z_eq (tgt := 21) C dX8_between_6 (by decide) (fun q1 => ?_) (fun q1 => ?_)
  · refine pw_iconst (v := 1) C dX8_between_21 (by decide) ?_
    exact hJ true (if_pos q1)
  · refine pw_aload_n C dX8_between_9 rfl 0 rfl ?_
    refine pw_iload_n C dX8_between_10 rfl 2 rfl ?_
    refine pw_callV C dX8_between_11 (k_X8_isModule v2 σ ) gm_X8_isModule gl_RX8_234 rfl hR (by decide) (by decide) (by decide) rfl gk_189.1 gk_189.2 rfl (Nat.le_of_ble_eq_true rfl) ?_
    rintro _ _ ⟨_, rfl, rfl, rfl⟩
    show PW x G 3 14 [(0, .ref (G.1 + 189)), (1, .int v1), (2, .int v2)] [.int (gz (if (lg_cmp v2.toInt64 0) < 0 then false else (if 0 < (lg_cmp v2.toInt64 (((σ.1 192 ((0 : Int32).toNatClampNeg)) - 1).toInt64)) then false else true : Bool) : Bool)), .ref (G.1 + 189)] σ
    refine pw_z_eq (tgt := 21) C dX8_between_14 (by decide) (fun q2 => ?_) (fun q2 => ?_)
    · refine pw_iconst (v := 1) C dX8_between_21 (by decide) ?_
      exact hJ true ((if_neg q1).trans (if_pos q2))
    · refine pw_iconst (v := 0) C dX8_between_17 (by decide) ?_
      refine pw_goto (tgt := 22) C dX8_between_18 (by decide) ?_
      exact hJ false ((if_neg q1).trans (if_neg q2))
set_option maxRecDepth 4000 in
theorem sg_X8_addModule_0 {x : gw_X} {G : gw_G} {Φ : Int32 → gw_S → Prop} (C : XC x G RX8 cX8_addModule 4 (some .int)) (hR : gw_ok x 2) (hT : RT x G (fi Φ)) (v1 : Int32) (v2 : Int32) (σ : gw_S)
    (h : ∀ τ1 : gw_S, τ1 = gw_u σ 189 0 (if (if (if (lg_cmp v1.toInt64 0) < 0 then false else (if 0 < (lg_cmp v1.toInt64 3) then false else true : Bool) : Bool) = false then false else (if (if (lg_cmp v2.toInt64 0) < 0 then false else (if 0 < (lg_cmp v2.toInt64 3) then false else true : Bool) : Bool) = false then false else true : Bool) : Bool) = false then 1 else (if (σ.1 192 ((0 : Int32).toNatClampNeg)) = 8 then 2 else 0 : Int32) : Int32) → (((if (if (if (if (lg_cmp v1.toInt64 0) < 0 then false else (if 0 < (lg_cmp v1.toInt64 3) then false else true : Bool) : Bool) = false then false else (if (if (lg_cmp v2.toInt64 0) < 0 then false else (if 0 < (lg_cmp v2.toInt64 3) then false else true : Bool) : Bool) = false then false else true : Bool) : Bool) = false then 1 else (if (σ.1 192 ((0 : Int32).toNatClampNeg)) = 8 then 2 else 0 : Int32) : Int32) ≤ 0 then false else true : Bool) = false → ∃ Φ2 : gw_S → Prop, gw_M (xl x) G yX8_remember cX8_remember 1 none 1 [.ref (G.1 + 189)] τ1 (fv Φ2) ∧ ∀ (τ3 : gw_S), Φ2 τ3 → (∃ Φ4 : gw_S → Prop, gw_M (xl x) G yX8_add cX8_add 4 none 1 [.ref (G.1 + 192), .int v1, .int v2] τ3 (fv Φ4) ∧ ∀ (τ5 : gw_S), Φ4 τ5 → (Φ ((τ5.1 192 ((0 : Int32).toNatClampNeg)) - 1) τ5))) ∧ (¬ ((if (if (if (if (lg_cmp v1.toInt64 0) < 0 then false else (if 0 < (lg_cmp v1.toInt64 3) then false else true : Bool) : Bool) = false then false else (if (if (lg_cmp v2.toInt64 0) < 0 then false else (if 0 < (lg_cmp v2.toInt64 3) then false else true : Bool) : Bool) = false then false else true : Bool) : Bool) = false then 1 else (if (σ.1 192 ((0 : Int32).toNatClampNeg)) = 8 then 2 else 0 : Int32) : Int32) ≤ 0 then false else true : Bool) = false) → Φ 0 τ1))) : PW x G 4 0 [(0, .ref (G.1 + 189)), (1, .int v1), (2, .int v2)] [] σ := by
  refine pw_iload_n C dX8_addModule_0 rfl 1 rfl ?_
  refine pw_callS C dX8_addModule_1 (k_X8_isKind v1 σ ) gm_X8_isKind gl_RX8_249 rfl hR (by decide) (by decide) rfl (Nat.le_of_ble_eq_true rfl) ?_
  rintro _ _ ⟨_, rfl, rfl, rfl⟩
  show PW x G 4 4 [(0, .ref (G.1 + 189)), (1, .int v1), (2, .int v2)] [.int (gz (if (lg_cmp v1.toInt64 0) < 0 then false else (if 0 < (lg_cmp v1.toInt64 3) then false else true : Bool) : Bool))] σ
  have hJ : ∀ w0 : Bool, (if (if (lg_cmp v1.toInt64 0) < 0 then false else (if 0 < (lg_cmp v1.toInt64 3) then false else true : Bool) : Bool) = false then false else (if (if (lg_cmp v2.toInt64 0) < 0 then false else (if 0 < (lg_cmp v2.toInt64 3) then false else true : Bool) : Bool) = false then false else true : Bool) : Bool) = w0 → PW x G 4 19 [(0, .ref (G.1 + 189)), (1, .int v1), (2, .int v2)] [.int (gz w0)] σ := by
    rintro _ rfl
    refine pw_istore_n C dX8_addModule_19 rfl (by decide) rfl ?_
    refine pw_aload_n C dX8_addModule_20 rfl 1 rfl ?_
    refine pw_iload_n C dX8_addModule_21 rfl 0 rfl ?_
    have hJ : ∀ w0 : Int32, (if (if (if (lg_cmp v1.toInt64 0) < 0 then false else (if 0 < (lg_cmp v1.toInt64 3) then false else true : Bool) : Bool) = false then false else (if (if (lg_cmp v2.toInt64 0) < 0 then false else (if 0 < (lg_cmp v2.toInt64 3) then false else true : Bool) : Bool) = false then false else true : Bool) : Bool) = false then 1 else (if (σ.1 192 ((0 : Int32).toNatClampNeg)) = 8 then 2 else 0 : Int32) : Int32) = w0 → PW x G 4 45 [(3, .int (gz (if (if (lg_cmp v1.toInt64 0) < 0 then false else (if 0 < (lg_cmp v1.toInt64 3) then false else true : Bool) : Bool) = false then false else (if (if (lg_cmp v2.toInt64 0) < 0 then false else (if 0 < (lg_cmp v2.toInt64 3) then false else true : Bool) : Bool) = false then false else true : Bool) : Bool))), (0, .ref (G.1 + 189)), (1, .int v1), (2, .int v2)] [.int w0, .ref (G.1 + 189)] σ := by
      rintro _ rfl
      refine pw_callV C dX8_addModule_45 (k_X8_refused (if (if (if (lg_cmp v1.toInt64 0) < 0 then false else (if 0 < (lg_cmp v1.toInt64 3) then false else true : Bool) : Bool) = false then false else (if (if (lg_cmp v2.toInt64 0) < 0 then false else (if 0 < (lg_cmp v2.toInt64 3) then false else true : Bool) : Bool) = false then false else true : Bool) : Bool) = false then 1 else (if (σ.1 192 ((0 : Int32).toNatClampNeg)) = 8 then 2 else 0 : Int32) : Int32) σ ) gm_X8_refused gl_RX8_153 rfl hR (by decide) (by decide) (by decide) rfl gk_189.1 gk_189.2 rfl (Nat.le_of_ble_eq_true rfl) ?_
      rintro _ _ ⟨_, rfl, rfl, rfl⟩
      generalize hτ1 : gw_u σ 189 0 (if (if (if (lg_cmp v1.toInt64 0) < 0 then false else (if 0 < (lg_cmp v1.toInt64 3) then false else true : Bool) : Bool) = false then false else (if (if (lg_cmp v2.toInt64 0) < 0 then false else (if 0 < (lg_cmp v2.toInt64 3) then false else true : Bool) : Bool) = false then false else true : Bool) : Bool) = false then 1 else (if (σ.1 192 ((0 : Int32).toNatClampNeg)) = 8 then 2 else 0 : Int32) : Int32) = τ1
      replace h := h τ1 hτ1.symm
      show PW x G 4 48 [(3, .int (gz (if (if (lg_cmp v1.toInt64 0) < 0 then false else (if 0 < (lg_cmp v1.toInt64 3) then false else true : Bool) : Bool) = false then false else (if (if (lg_cmp v2.toInt64 0) < 0 then false else (if 0 < (lg_cmp v2.toInt64 3) then false else true : Bool) : Bool) = false then false else true : Bool) : Bool))), (0, .ref (G.1 + 189)), (1, .int v1), (2, .int v2)] [.int (gz (if (if (if (if (lg_cmp v1.toInt64 0) < 0 then false else (if 0 < (lg_cmp v1.toInt64 3) then false else true : Bool) : Bool) = false then false else (if (if (lg_cmp v2.toInt64 0) < 0 then false else (if 0 < (lg_cmp v2.toInt64 3) then false else true : Bool) : Bool) = false then false else true : Bool) : Bool) = false then 1 else (if (σ.1 192 ((0 : Int32).toNatClampNeg)) = 8 then 2 else 0 : Int32) : Int32) ≤ 0 then false else true : Bool))] τ1
      show PW x G 4 48 [(3, .int (gz (if (if (lg_cmp v1.toInt64 0) < 0 then false else (if 0 < (lg_cmp v1.toInt64 3) then false else true : Bool) : Bool) = false then false else (if (if (lg_cmp v2.toInt64 0) < 0 then false else (if 0 < (lg_cmp v2.toInt64 3) then false else true : Bool) : Bool) = false then false else true : Bool) : Bool))), (0, .ref (G.1 + 189)), (1, .int v1), (2, .int v2)] [.int (gz (if (if (if (if (lg_cmp v1.toInt64 0) < 0 then false else (if 0 < (lg_cmp v1.toInt64 3) then false else true : Bool) : Bool) = false then false else (if (if (lg_cmp v2.toInt64 0) < 0 then false else (if 0 < (lg_cmp v2.toInt64 3) then false else true : Bool) : Bool) = false then false else true : Bool) : Bool) = false then 1 else (if (σ.1 192 ((0 : Int32).toNatClampNeg)) = 8 then 2 else 0 : Int32) : Int32) ≤ 0 then false else true : Bool))] τ1
      refine pw_z_eq (tgt := 53) C dX8_addModule_48 (by decide) (fun q => ?_) (fun q => ?_)
      · replace h := h.1 q
        refine pw_aload_n C dX8_addModule_53 rfl 1 rfl ?_
        obtain ⟨Φ2, hM, h⟩ := h
        refine pw_callV C dX8_addModule_54 hM gm_X8_remember gl_RX8_252 rfl hR (by decide) (by decide) (by decide) rfl gk_189.1 gk_189.2 rfl (Nat.le_of_ble_eq_true rfl) ?_
        rintro _ τ3 ⟨rfl, hv⟩
        replace h := h τ3 hv
        show PW x G 4 57 [(3, .int (gz (if (if (lg_cmp v1.toInt64 0) < 0 then false else (if 0 < (lg_cmp v1.toInt64 3) then false else true : Bool) : Bool) = false then false else (if (if (lg_cmp v2.toInt64 0) < 0 then false else (if 0 < (lg_cmp v2.toInt64 3) then false else true : Bool) : Bool) = false then false else true : Bool) : Bool))), (0, .ref (G.1 + 189)), (1, .int v1), (2, .int v2)] [] τ3
        refine pw_aload_n C dX8_addModule_57 rfl 1 rfl ?_
        refine pw_getr C dX8_addModule_58 gf_RX8_16 gk_189.1 gk_189.2 rfl ?_
        refine pw_iload_n C dX8_addModule_61 rfl 2 rfl ?_
        refine pw_iload_n C dX8_addModule_62 rfl 3 rfl ?_
        obtain ⟨Φ4, hM, h⟩ := h
        refine pw_callS C dX8_addModule_63 hM gm_X8_add gl_RX8_179 rfl hR (by decide) (by decide) rfl (Nat.le_of_ble_eq_true rfl) ?_
        rintro _ τ5 ⟨rfl, hv⟩
        replace h := h τ5 hv
        show PW x G 4 66 [(3, .int (gz (if (if (lg_cmp v1.toInt64 0) < 0 then false else (if 0 < (lg_cmp v1.toInt64 3) then false else true : Bool) : Bool) = false then false else (if (if (lg_cmp v2.toInt64 0) < 0 then false else (if 0 < (lg_cmp v2.toInt64 3) then false else true : Bool) : Bool) = false then false else true : Bool) : Bool))), (0, .ref (G.1 + 189)), (1, .int v1), (2, .int v2)] [] τ5
        refine pw_aload_n C dX8_addModule_66 rfl 1 rfl ?_
        refine pw_getr C dX8_addModule_67 gf_RX8_16 gk_189.1 gk_189.2 rfl ?_
        refine pw_iconst (v := 0) C dX8_addModule_70 (by decide) ?_
        refine pw_iald C dX8_addModule_71 gk_192.1 gk_192.2 (by show ¬ (_ ∨ _); decide) ?_
        refine pw_iconst (v := 1) C dX8_addModule_72 (by decide) ?_
        refine pw_isub C dX8_addModule_73 ?_
        exact pw_iret C hT dX8_addModule_74 h
      · replace h := h.2 q
        refine pw_iconst (v := 0) C dX8_addModule_51 (by decide) ?_
        exact pw_iret C hT dX8_addModule_52 h
    clear h
    refine pw_z_ne (tgt := 29) C dX8_addModule_22 (by decide) (fun q2 => ?_) (fun q2 => ?_)
    · refine pw_aload_n C dX8_addModule_29 rfl 1 rfl ?_
      refine pw_getr C dX8_addModule_30 gf_RX8_16 gk_189.1 gk_189.2 rfl ?_
      refine pw_iconst (v := 0) C dX8_addModule_33 (by decide) ?_
      refine pw_iald C dX8_addModule_34 gk_192.1 gk_192.2 (by show ¬ (_ ∨ _); decide) ?_
      refine pw_bipush (v := 8) C dX8_addModule_35 (by decide) ?_
      refine pw_icmp_ne (tgt := 44) C dX8_addModule_37 (by decide) (fun q3 => ?_) (fun q3 => ?_)
      · refine pw_iconst (v := 0) C dX8_addModule_44 (by decide) ?_
        exact hJ 0 ((if_neg q2).trans (if_neg q3))
      · refine pw_iconst (v := 2) C dX8_addModule_40 (by decide) ?_
        refine pw_goto (tgt := 45) C dX8_addModule_41 (by decide) ?_
        exact hJ 2 ((if_neg q2).trans (if_pos q3))
    · refine pw_iconst (v := 1) C dX8_addModule_25 (by decide) ?_
      refine pw_goto (tgt := 45) C dX8_addModule_26 (by decide) ?_
      exact hJ 1 (if_pos q2)
  clear h
  refine pw_z_eq (tgt := 18) C dX8_addModule_4 (by decide) (fun q1 => ?_) (fun q1 => ?_)
  · refine pw_iconst (v := 0) C dX8_addModule_18 (by decide) ?_
    exact hJ false (if_pos q1)
  · refine pw_iload_n C dX8_addModule_7 rfl 2 rfl ?_
    refine pw_callS C dX8_addModule_8 (k_X8_isKind v2 σ ) gm_X8_isKind gl_RX8_249 rfl hR (by decide) (by decide) rfl (Nat.le_of_ble_eq_true rfl) ?_
    rintro _ _ ⟨_, rfl, rfl, rfl⟩
    show PW x G 4 11 [(0, .ref (G.1 + 189)), (1, .int v1), (2, .int v2)] [.int (gz (if (lg_cmp v2.toInt64 0) < 0 then false else (if 0 < (lg_cmp v2.toInt64 3) then false else true : Bool) : Bool))] σ
    refine pw_z_eq (tgt := 18) C dX8_addModule_11 (by decide) (fun q2 => ?_) (fun q2 => ?_)
    · refine pw_iconst (v := 0) C dX8_addModule_18 (by decide) ?_
      exact hJ false ((if_neg q1).trans (if_pos q2))
    · refine pw_iconst (v := 1) C dX8_addModule_14 (by decide) ?_
      refine pw_goto (tgt := 19) C dX8_addModule_15 (by decide) ?_
      exact hJ true ((if_neg q1).trans (if_neg q2))
set_option maxRecDepth 4000 in
theorem sg_X8_lay_0 {x : gw_X} {G : gw_G} {Φ : Int32 → gw_S → Prop} (C : XC x G RX8 cX8_lay 8 (some .int)) (hR : gw_ok x 4) (hT : RT x G (fi Φ)) (v1 : Int32) (v2 : Int32) (v3 : Int32) (v4 : Int32) (v5 : Int32) (σ : gw_S)
    (h : (¬ ((if (if (lg_cmp v1.toInt64 0) < 0 then false else (if 0 < (lg_cmp v1.toInt64 (((σ.1 192 ((0 : Int32).toNatClampNeg)) - 1).toInt64)) then false else true : Bool) : Bool) = false then false else (if (if (lg_cmp v2.toInt64 0) < 0 then false else (if 0 < (lg_cmp v2.toInt64 (((σ.1 192 ((0 : Int32).toNatClampNeg)) - 1).toInt64)) then false else true : Bool) : Bool) = false then false else true : Bool) : Bool) = false) → (¬ ((if (if (lg_cmp v3.toInt64 1) < 0 then false else (if 0 < (lg_cmp v3.toInt64 6) then false else true : Bool) : Bool) = false then false else (if (if (lg_cmp v4.toInt64 1) < 0 then false else (if 0 < (lg_cmp v4.toInt64 6) then false else true : Bool) : Bool) = false then false else (if (if (lg_cmp v5.toInt64 0) < 0 then false else (if 0 < (lg_cmp v5.toInt64 99) then false else true : Bool) : Bool) = false then false else true : Bool) : Bool) : Bool) = false) → ∃ Φ1 : Bool → gw_S → Prop, gw_M (xl x) G yX8_canLay cX8_canLay 5 (some .boolean) 3 [.ref (G.1 + 189), .ref (G.1 + 192), .int v1, .int v2, .int v5] σ (fz Φ1) ∧ ∀ (r3 : Bool) (τ2 : gw_S), Φ1 r3 τ2 → (∀ τ4 : gw_S, τ4 = gw_u τ2 189 0 (if r3 = false then 3 else 0 : Int32) → (((if (if r3 = false then 3 else 0 : Int32) ≤ 0 then false else true : Bool) = false → ∃ Φ5 : gw_S → Prop, gw_M (xl x) G yX8_remember cX8_remember 1 none 1 [.ref (G.1 + 189)] τ4 (fv Φ5) ∧ ∀ (τ6 : gw_S), Φ5 τ6 → (∃ Φ7 : gw_S → Prop, gw_M (xl x) G yX8_layIn cX8_layIn 7 none 1 [.ref (G.1 + 192), .int v1, .int v2, .int v3, .int v4, .int v5] τ6 (fv Φ7) ∧ ∀ (τ8 : gw_S), Φ7 τ8 → (Φ ((τ8.1 192 ((1 : Int32).toNatClampNeg)) - 1) τ8))) ∧ (¬ ((if (if r3 = false then 3 else 0 : Int32) ≤ 0 then false else true : Bool) = false) → Φ 0 τ4)))) ∧ ((if (if (lg_cmp v3.toInt64 1) < 0 then false else (if 0 < (lg_cmp v3.toInt64 6) then false else true : Bool) : Bool) = false then false else (if (if (lg_cmp v4.toInt64 1) < 0 then false else (if 0 < (lg_cmp v4.toInt64 6) then false else true : Bool) : Bool) = false then false else (if (if (lg_cmp v5.toInt64 0) < 0 then false else (if 0 < (lg_cmp v5.toInt64 99) then false else true : Bool) : Bool) = false then false else true : Bool) : Bool) : Bool) = false → ∀ τ9 : gw_S, τ9 = gw_u σ 189 0 2 → (((if 2 ≤ 0 then false else true : Bool) = false → ∃ Φ10 : gw_S → Prop, gw_M (xl x) G yX8_remember cX8_remember 1 none 1 [.ref (G.1 + 189)] τ9 (fv Φ10) ∧ ∀ (τ11 : gw_S), Φ10 τ11 → (∃ Φ12 : gw_S → Prop, gw_M (xl x) G yX8_layIn cX8_layIn 7 none 1 [.ref (G.1 + 192), .int v1, .int v2, .int v3, .int v4, .int v5] τ11 (fv Φ12) ∧ ∀ (τ13 : gw_S), Φ12 τ13 → (Φ ((τ13.1 192 ((1 : Int32).toNatClampNeg)) - 1) τ13))) ∧ (¬ ((if 2 ≤ 0 then false else true : Bool) = false) → Φ 0 τ9)))) ∧ ((if (if (lg_cmp v1.toInt64 0) < 0 then false else (if 0 < (lg_cmp v1.toInt64 (((σ.1 192 ((0 : Int32).toNatClampNeg)) - 1).toInt64)) then false else true : Bool) : Bool) = false then false else (if (if (lg_cmp v2.toInt64 0) < 0 then false else (if 0 < (lg_cmp v2.toInt64 (((σ.1 192 ((0 : Int32).toNatClampNeg)) - 1).toInt64)) then false else true : Bool) : Bool) = false then false else true : Bool) : Bool) = false → ∀ τ14 : gw_S, τ14 = gw_u σ 189 0 1 → (((if 1 ≤ 0 then false else true : Bool) = false → ∃ Φ15 : gw_S → Prop, gw_M (xl x) G yX8_remember cX8_remember 1 none 1 [.ref (G.1 + 189)] τ14 (fv Φ15) ∧ ∀ (τ16 : gw_S), Φ15 τ16 → (∃ Φ17 : gw_S → Prop, gw_M (xl x) G yX8_layIn cX8_layIn 7 none 1 [.ref (G.1 + 192), .int v1, .int v2, .int v3, .int v4, .int v5] τ16 (fv Φ17) ∧ ∀ (τ18 : gw_S), Φ17 τ18 → (Φ ((τ18.1 192 ((1 : Int32).toNatClampNeg)) - 1) τ18))) ∧ (¬ ((if 1 ≤ 0 then false else true : Bool) = false) → Φ 0 τ14)))) : PW x G 8 0 [(0, .ref (G.1 + 189)), (1, .int v1), (2, .int v2), (3, .int v3), (4, .int v4), (5, .int v5)] [] σ := by
  refine pw_aload_n C dX8_lay_0 rfl 0 rfl ?_
  refine pw_iload_n C dX8_lay_1 rfl 1 rfl ?_
  refine pw_callV C dX8_lay_2 (k_X8_isModule v1 σ ) gm_X8_isModule gl_RX8_234 rfl hR (by decide) (by decide) (by decide) rfl gk_189.1 gk_189.2 rfl (Nat.le_of_ble_eq_true rfl) ?_
  rintro _ _ ⟨_, rfl, rfl, rfl⟩
  show PW x G 8 5 [(0, .ref (G.1 + 189)), (1, .int v1), (2, .int v2), (3, .int v3), (4, .int v4), (5, .int v5)] [.int (gz (if (lg_cmp v1.toInt64 0) < 0 then false else (if 0 < (lg_cmp v1.toInt64 (((σ.1 192 ((0 : Int32).toNatClampNeg)) - 1).toInt64)) then false else true : Bool) : Bool))] σ
  have hJ : ∀ w0 : Bool, (if (if (lg_cmp v1.toInt64 0) < 0 then false else (if 0 < (lg_cmp v1.toInt64 (((σ.1 192 ((0 : Int32).toNatClampNeg)) - 1).toInt64)) then false else true : Bool) : Bool) = false then false else (if (if (lg_cmp v2.toInt64 0) < 0 then false else (if 0 < (lg_cmp v2.toInt64 (((σ.1 192 ((0 : Int32).toNatClampNeg)) - 1).toInt64)) then false else true : Bool) : Bool) = false then false else true : Bool) : Bool) = w0 → PW x G 8 21 [(0, .ref (G.1 + 189)), (1, .int v1), (2, .int v2), (3, .int v3), (4, .int v4), (5, .int v5)] [.int (gz w0)] σ := by
    rintro _ rfl
    refine pw_istore C dX8_lay_21 (by decide) rfl ?_
    refine pw_iload_n C dX8_lay_23 rfl 4 rfl ?_
    refine pw_callS C dX8_lay_24 (k_X8_isRate v3 σ ) gm_X8_isRate gl_RX8_259 rfl hR (by decide) (by decide) rfl (Nat.le_of_ble_eq_true rfl) ?_
    rintro _ _ ⟨_, rfl, rfl, rfl⟩
    show PW x G 8 27 [(6, .int (gz (if (if (lg_cmp v1.toInt64 0) < 0 then false else (if 0 < (lg_cmp v1.toInt64 (((σ.1 192 ((0 : Int32).toNatClampNeg)) - 1).toInt64)) then false else true : Bool) : Bool) = false then false else (if (if (lg_cmp v2.toInt64 0) < 0 then false else (if 0 < (lg_cmp v2.toInt64 (((σ.1 192 ((0 : Int32).toNatClampNeg)) - 1).toInt64)) then false else true : Bool) : Bool) = false then false else true : Bool) : Bool))), (0, .ref (G.1 + 189)), (1, .int v1), (2, .int v2), (3, .int v3), (4, .int v4), (5, .int v5)] [.int (gz (if (lg_cmp v3.toInt64 1) < 0 then false else (if 0 < (lg_cmp v3.toInt64 6) then false else true : Bool) : Bool))] σ
    have hJ : ∀ w0 : Bool, (if (if (lg_cmp v3.toInt64 1) < 0 then false else (if 0 < (lg_cmp v3.toInt64 6) then false else true : Bool) : Bool) = false then false else (if (if (lg_cmp v4.toInt64 1) < 0 then false else (if 0 < (lg_cmp v4.toInt64 6) then false else true : Bool) : Bool) = false then false else (if (if (lg_cmp v5.toInt64 0) < 0 then false else (if 0 < (lg_cmp v5.toInt64 99) then false else true : Bool) : Bool) = false then false else true : Bool) : Bool) : Bool) = w0 → PW x G 8 51 [(6, .int (gz (if (if (lg_cmp v1.toInt64 0) < 0 then false else (if 0 < (lg_cmp v1.toInt64 (((σ.1 192 ((0 : Int32).toNatClampNeg)) - 1).toInt64)) then false else true : Bool) : Bool) = false then false else (if (if (lg_cmp v2.toInt64 0) < 0 then false else (if 0 < (lg_cmp v2.toInt64 (((σ.1 192 ((0 : Int32).toNatClampNeg)) - 1).toInt64)) then false else true : Bool) : Bool) = false then false else true : Bool) : Bool))), (0, .ref (G.1 + 189)), (1, .int v1), (2, .int v2), (3, .int v3), (4, .int v4), (5, .int v5)] [.int (gz w0)] σ := by
      rintro _ rfl
      refine pw_istore C dX8_lay_51 (by decide) rfl ?_
      refine pw_aload_n C dX8_lay_53 rfl 2 rfl ?_
      refine pw_iload C dX8_lay_54 1 rfl ?_
      refine pw_z_ne (tgt := 63) C dX8_lay_56 (by decide) (fun q => ?_) (fun q => ?_)
      · replace h := h.1 q
        refine pw_iload C dX8_lay_63 0 rfl ?_
        refine pw_z_ne (tgt := 72) C dX8_lay_65 (by decide) (fun q => ?_) (fun q => ?_)
        · replace h := h.1 q
          refine pw_aload_n C dX8_lay_72 rfl 2 rfl ?_
          refine pw_aload_n C dX8_lay_73 rfl 2 rfl ?_
          refine pw_getr C dX8_lay_74 gf_RX8_16 gk_189.1 gk_189.2 rfl ?_
          refine pw_iload_n C dX8_lay_77 rfl 3 rfl ?_
          refine pw_iload_n C dX8_lay_78 rfl 4 rfl ?_
          refine pw_iload C dX8_lay_79 7 rfl ?_
          obtain ⟨Φ1, hM, h⟩ := h
          refine pw_callV C dX8_lay_81 hM gm_X8_canLay gl_RX8_183 rfl hR (by decide) (by decide) (by decide) rfl gk_189.1 gk_189.2 rfl (Nat.le_of_ble_eq_true rfl) ?_
          rintro _ τ2 ⟨r3, rfl, hv⟩
          replace h := h r3 τ2 hv
          show PW x G 8 84 [(7, .int (gz (if (if (lg_cmp v3.toInt64 1) < 0 then false else (if 0 < (lg_cmp v3.toInt64 6) then false else true : Bool) : Bool) = false then false else (if (if (lg_cmp v4.toInt64 1) < 0 then false else (if 0 < (lg_cmp v4.toInt64 6) then false else true : Bool) : Bool) = false then false else (if (if (lg_cmp v5.toInt64 0) < 0 then false else (if 0 < (lg_cmp v5.toInt64 99) then false else true : Bool) : Bool) = false then false else true : Bool) : Bool) : Bool))), (6, .int (gz (if (if (lg_cmp v1.toInt64 0) < 0 then false else (if 0 < (lg_cmp v1.toInt64 (((σ.1 192 ((0 : Int32).toNatClampNeg)) - 1).toInt64)) then false else true : Bool) : Bool) = false then false else (if (if (lg_cmp v2.toInt64 0) < 0 then false else (if 0 < (lg_cmp v2.toInt64 (((σ.1 192 ((0 : Int32).toNatClampNeg)) - 1).toInt64)) then false else true : Bool) : Bool) = false then false else true : Bool) : Bool))), (0, .ref (G.1 + 189)), (1, .int v1), (2, .int v2), (3, .int v3), (4, .int v4), (5, .int v5)] [.int (gz r3), .ref (G.1 + 189)] τ2
          have hJ : ∀ w0 : Int32, (if r3 = false then 3 else 0 : Int32) = w0 → PW x G 8 92 [(7, .int (gz (if (if (lg_cmp v3.toInt64 1) < 0 then false else (if 0 < (lg_cmp v3.toInt64 6) then false else true : Bool) : Bool) = false then false else (if (if (lg_cmp v4.toInt64 1) < 0 then false else (if 0 < (lg_cmp v4.toInt64 6) then false else true : Bool) : Bool) = false then false else (if (if (lg_cmp v5.toInt64 0) < 0 then false else (if 0 < (lg_cmp v5.toInt64 99) then false else true : Bool) : Bool) = false then false else true : Bool) : Bool) : Bool))), (6, .int (gz (if (if (lg_cmp v1.toInt64 0) < 0 then false else (if 0 < (lg_cmp v1.toInt64 (((σ.1 192 ((0 : Int32).toNatClampNeg)) - 1).toInt64)) then false else true : Bool) : Bool) = false then false else (if (if (lg_cmp v2.toInt64 0) < 0 then false else (if 0 < (lg_cmp v2.toInt64 (((σ.1 192 ((0 : Int32).toNatClampNeg)) - 1).toInt64)) then false else true : Bool) : Bool) = false then false else true : Bool) : Bool))), (0, .ref (G.1 + 189)), (1, .int v1), (2, .int v2), (3, .int v3), (4, .int v4), (5, .int v5)] [.int w0, .ref (G.1 + 189)] τ2 := by
            rintro _ rfl
            refine pw_callV C dX8_lay_92 (k_X8_refused (if r3 = false then 3 else 0 : Int32) τ2 ) gm_X8_refused gl_RX8_153 rfl hR (by decide) (by decide) (by decide) rfl gk_189.1 gk_189.2 rfl (Nat.le_of_ble_eq_true rfl) ?_
            rintro _ _ ⟨_, rfl, rfl, rfl⟩
            generalize hτ4 : gw_u τ2 189 0 (if r3 = false then 3 else 0 : Int32) = τ4
            replace h := h τ4 hτ4.symm
            show PW x G 8 95 [(7, .int (gz (if (if (lg_cmp v3.toInt64 1) < 0 then false else (if 0 < (lg_cmp v3.toInt64 6) then false else true : Bool) : Bool) = false then false else (if (if (lg_cmp v4.toInt64 1) < 0 then false else (if 0 < (lg_cmp v4.toInt64 6) then false else true : Bool) : Bool) = false then false else (if (if (lg_cmp v5.toInt64 0) < 0 then false else (if 0 < (lg_cmp v5.toInt64 99) then false else true : Bool) : Bool) = false then false else true : Bool) : Bool) : Bool))), (6, .int (gz (if (if (lg_cmp v1.toInt64 0) < 0 then false else (if 0 < (lg_cmp v1.toInt64 (((σ.1 192 ((0 : Int32).toNatClampNeg)) - 1).toInt64)) then false else true : Bool) : Bool) = false then false else (if (if (lg_cmp v2.toInt64 0) < 0 then false else (if 0 < (lg_cmp v2.toInt64 (((σ.1 192 ((0 : Int32).toNatClampNeg)) - 1).toInt64)) then false else true : Bool) : Bool) = false then false else true : Bool) : Bool))), (0, .ref (G.1 + 189)), (1, .int v1), (2, .int v2), (3, .int v3), (4, .int v4), (5, .int v5)] [.int (gz (if (if r3 = false then 3 else 0 : Int32) ≤ 0 then false else true : Bool))] τ4
            show PW x G 8 95 [(7, .int (gz (if (if (lg_cmp v3.toInt64 1) < 0 then false else (if 0 < (lg_cmp v3.toInt64 6) then false else true : Bool) : Bool) = false then false else (if (if (lg_cmp v4.toInt64 1) < 0 then false else (if 0 < (lg_cmp v4.toInt64 6) then false else true : Bool) : Bool) = false then false else (if (if (lg_cmp v5.toInt64 0) < 0 then false else (if 0 < (lg_cmp v5.toInt64 99) then false else true : Bool) : Bool) = false then false else true : Bool) : Bool) : Bool))), (6, .int (gz (if (if (lg_cmp v1.toInt64 0) < 0 then false else (if 0 < (lg_cmp v1.toInt64 (((σ.1 192 ((0 : Int32).toNatClampNeg)) - 1).toInt64)) then false else true : Bool) : Bool) = false then false else (if (if (lg_cmp v2.toInt64 0) < 0 then false else (if 0 < (lg_cmp v2.toInt64 (((σ.1 192 ((0 : Int32).toNatClampNeg)) - 1).toInt64)) then false else true : Bool) : Bool) = false then false else true : Bool) : Bool))), (0, .ref (G.1 + 189)), (1, .int v1), (2, .int v2), (3, .int v3), (4, .int v4), (5, .int v5)] [.int (gz (if (if r3 = false then 3 else 0 : Int32) ≤ 0 then false else true : Bool))] τ4
            refine pw_z_eq (tgt := 100) C dX8_lay_95 (by decide) (fun q => ?_) (fun q => ?_)
            · replace h := h.1 q
              refine pw_aload_n C dX8_lay_100 rfl 2 rfl ?_
              obtain ⟨Φ5, hM, h⟩ := h
              refine pw_callV C dX8_lay_101 hM gm_X8_remember gl_RX8_252 rfl hR (by decide) (by decide) (by decide) rfl gk_189.1 gk_189.2 rfl (Nat.le_of_ble_eq_true rfl) ?_
              rintro _ τ6 ⟨rfl, hv⟩
              replace h := h τ6 hv
              show PW x G 8 104 [(7, .int (gz (if (if (lg_cmp v3.toInt64 1) < 0 then false else (if 0 < (lg_cmp v3.toInt64 6) then false else true : Bool) : Bool) = false then false else (if (if (lg_cmp v4.toInt64 1) < 0 then false else (if 0 < (lg_cmp v4.toInt64 6) then false else true : Bool) : Bool) = false then false else (if (if (lg_cmp v5.toInt64 0) < 0 then false else (if 0 < (lg_cmp v5.toInt64 99) then false else true : Bool) : Bool) = false then false else true : Bool) : Bool) : Bool))), (6, .int (gz (if (if (lg_cmp v1.toInt64 0) < 0 then false else (if 0 < (lg_cmp v1.toInt64 (((σ.1 192 ((0 : Int32).toNatClampNeg)) - 1).toInt64)) then false else true : Bool) : Bool) = false then false else (if (if (lg_cmp v2.toInt64 0) < 0 then false else (if 0 < (lg_cmp v2.toInt64 (((σ.1 192 ((0 : Int32).toNatClampNeg)) - 1).toInt64)) then false else true : Bool) : Bool) = false then false else true : Bool) : Bool))), (0, .ref (G.1 + 189)), (1, .int v1), (2, .int v2), (3, .int v3), (4, .int v4), (5, .int v5)] [] τ6
              refine pw_aload_n C dX8_lay_104 rfl 2 rfl ?_
              refine pw_getr C dX8_lay_105 gf_RX8_16 gk_189.1 gk_189.2 rfl ?_
              refine pw_iload_n C dX8_lay_108 rfl 3 rfl ?_
              refine pw_iload_n C dX8_lay_109 rfl 4 rfl ?_
              refine pw_iload_n C dX8_lay_110 rfl 5 rfl ?_
              refine pw_iload C dX8_lay_111 6 rfl ?_
              refine pw_iload C dX8_lay_113 7 rfl ?_
              obtain ⟨Φ7, hM, h⟩ := h
              refine pw_callS C dX8_lay_115 hM gm_X8_layIn gl_RX8_187 rfl hR (by decide) (by decide) rfl (Nat.le_of_ble_eq_true rfl) ?_
              rintro _ τ8 ⟨rfl, hv⟩
              replace h := h τ8 hv
              show PW x G 8 118 [(7, .int (gz (if (if (lg_cmp v3.toInt64 1) < 0 then false else (if 0 < (lg_cmp v3.toInt64 6) then false else true : Bool) : Bool) = false then false else (if (if (lg_cmp v4.toInt64 1) < 0 then false else (if 0 < (lg_cmp v4.toInt64 6) then false else true : Bool) : Bool) = false then false else (if (if (lg_cmp v5.toInt64 0) < 0 then false else (if 0 < (lg_cmp v5.toInt64 99) then false else true : Bool) : Bool) = false then false else true : Bool) : Bool) : Bool))), (6, .int (gz (if (if (lg_cmp v1.toInt64 0) < 0 then false else (if 0 < (lg_cmp v1.toInt64 (((σ.1 192 ((0 : Int32).toNatClampNeg)) - 1).toInt64)) then false else true : Bool) : Bool) = false then false else (if (if (lg_cmp v2.toInt64 0) < 0 then false else (if 0 < (lg_cmp v2.toInt64 (((σ.1 192 ((0 : Int32).toNatClampNeg)) - 1).toInt64)) then false else true : Bool) : Bool) = false then false else true : Bool) : Bool))), (0, .ref (G.1 + 189)), (1, .int v1), (2, .int v2), (3, .int v3), (4, .int v4), (5, .int v5)] [] τ8
              refine pw_aload_n C dX8_lay_118 rfl 2 rfl ?_
              refine pw_getr C dX8_lay_119 gf_RX8_16 gk_189.1 gk_189.2 rfl ?_
              refine pw_iconst (v := 1) C dX8_lay_122 (by decide) ?_
              refine pw_iald C dX8_lay_123 gk_192.1 gk_192.2 (by show ¬ (_ ∨ _); decide) ?_
              refine pw_iconst (v := 1) C dX8_lay_124 (by decide) ?_
              refine pw_isub C dX8_lay_125 ?_
              exact pw_iret C hT dX8_lay_126 h
            · replace h := h.2 q
              refine pw_iconst (v := 0) C dX8_lay_98 (by decide) ?_
              exact pw_iret C hT dX8_lay_99 h
          clear h
          refine pw_z_eq (tgt := 91) C dX8_lay_84 (by decide) (fun q5 => ?_) (fun q5 => ?_)
          · refine pw_iconst (v := 3) C dX8_lay_91 (by decide) ?_
            exact hJ 3 (if_pos q5)
          · refine pw_iconst (v := 0) C dX8_lay_87 (by decide) ?_
            refine pw_goto (tgt := 92) C dX8_lay_88 (by decide) ?_
            exact hJ 0 (if_neg q5)
        · replace h := h.2 q
          refine pw_iconst (v := 2) C dX8_lay_68 (by decide) ?_
          refine pw_goto (tgt := 92) C dX8_lay_69 (by decide) ?_
          refine pw_callV C dX8_lay_92 (k_X8_refused 2 σ ) gm_X8_refused gl_RX8_153 rfl hR (by decide) (by decide) (by decide) rfl gk_189.1 gk_189.2 rfl (Nat.le_of_ble_eq_true rfl) ?_
          rintro _ _ ⟨_, rfl, rfl, rfl⟩
          generalize hτ9 : gw_u σ 189 0 2 = τ9
          replace h := h τ9 hτ9.symm
          show PW x G 8 95 [(7, .int (gz (if (if (lg_cmp v3.toInt64 1) < 0 then false else (if 0 < (lg_cmp v3.toInt64 6) then false else true : Bool) : Bool) = false then false else (if (if (lg_cmp v4.toInt64 1) < 0 then false else (if 0 < (lg_cmp v4.toInt64 6) then false else true : Bool) : Bool) = false then false else (if (if (lg_cmp v5.toInt64 0) < 0 then false else (if 0 < (lg_cmp v5.toInt64 99) then false else true : Bool) : Bool) = false then false else true : Bool) : Bool) : Bool))), (6, .int (gz (if (if (lg_cmp v1.toInt64 0) < 0 then false else (if 0 < (lg_cmp v1.toInt64 (((σ.1 192 ((0 : Int32).toNatClampNeg)) - 1).toInt64)) then false else true : Bool) : Bool) = false then false else (if (if (lg_cmp v2.toInt64 0) < 0 then false else (if 0 < (lg_cmp v2.toInt64 (((σ.1 192 ((0 : Int32).toNatClampNeg)) - 1).toInt64)) then false else true : Bool) : Bool) = false then false else true : Bool) : Bool))), (0, .ref (G.1 + 189)), (1, .int v1), (2, .int v2), (3, .int v3), (4, .int v4), (5, .int v5)] [.int (gz (if 2 ≤ 0 then false else true : Bool))] τ9
          show PW x G 8 95 [(7, .int (gz (if (if (lg_cmp v3.toInt64 1) < 0 then false else (if 0 < (lg_cmp v3.toInt64 6) then false else true : Bool) : Bool) = false then false else (if (if (lg_cmp v4.toInt64 1) < 0 then false else (if 0 < (lg_cmp v4.toInt64 6) then false else true : Bool) : Bool) = false then false else (if (if (lg_cmp v5.toInt64 0) < 0 then false else (if 0 < (lg_cmp v5.toInt64 99) then false else true : Bool) : Bool) = false then false else true : Bool) : Bool) : Bool))), (6, .int (gz (if (if (lg_cmp v1.toInt64 0) < 0 then false else (if 0 < (lg_cmp v1.toInt64 (((σ.1 192 ((0 : Int32).toNatClampNeg)) - 1).toInt64)) then false else true : Bool) : Bool) = false then false else (if (if (lg_cmp v2.toInt64 0) < 0 then false else (if 0 < (lg_cmp v2.toInt64 (((σ.1 192 ((0 : Int32).toNatClampNeg)) - 1).toInt64)) then false else true : Bool) : Bool) = false then false else true : Bool) : Bool))), (0, .ref (G.1 + 189)), (1, .int v1), (2, .int v2), (3, .int v3), (4, .int v4), (5, .int v5)] [.int (gz (if 2 ≤ 0 then false else true : Bool))] τ9
          refine pw_z_eq (tgt := 100) C dX8_lay_95 (by decide) (fun q => ?_) (fun q => ?_)
          · replace h := h.1 q
            refine pw_aload_n C dX8_lay_100 rfl 2 rfl ?_
            obtain ⟨Φ10, hM, h⟩ := h
            refine pw_callV C dX8_lay_101 hM gm_X8_remember gl_RX8_252 rfl hR (by decide) (by decide) (by decide) rfl gk_189.1 gk_189.2 rfl (Nat.le_of_ble_eq_true rfl) ?_
            rintro _ τ11 ⟨rfl, hv⟩
            replace h := h τ11 hv
            show PW x G 8 104 [(7, .int (gz (if (if (lg_cmp v3.toInt64 1) < 0 then false else (if 0 < (lg_cmp v3.toInt64 6) then false else true : Bool) : Bool) = false then false else (if (if (lg_cmp v4.toInt64 1) < 0 then false else (if 0 < (lg_cmp v4.toInt64 6) then false else true : Bool) : Bool) = false then false else (if (if (lg_cmp v5.toInt64 0) < 0 then false else (if 0 < (lg_cmp v5.toInt64 99) then false else true : Bool) : Bool) = false then false else true : Bool) : Bool) : Bool))), (6, .int (gz (if (if (lg_cmp v1.toInt64 0) < 0 then false else (if 0 < (lg_cmp v1.toInt64 (((σ.1 192 ((0 : Int32).toNatClampNeg)) - 1).toInt64)) then false else true : Bool) : Bool) = false then false else (if (if (lg_cmp v2.toInt64 0) < 0 then false else (if 0 < (lg_cmp v2.toInt64 (((σ.1 192 ((0 : Int32).toNatClampNeg)) - 1).toInt64)) then false else true : Bool) : Bool) = false then false else true : Bool) : Bool))), (0, .ref (G.1 + 189)), (1, .int v1), (2, .int v2), (3, .int v3), (4, .int v4), (5, .int v5)] [] τ11
            refine pw_aload_n C dX8_lay_104 rfl 2 rfl ?_
            refine pw_getr C dX8_lay_105 gf_RX8_16 gk_189.1 gk_189.2 rfl ?_
            refine pw_iload_n C dX8_lay_108 rfl 3 rfl ?_
            refine pw_iload_n C dX8_lay_109 rfl 4 rfl ?_
            refine pw_iload_n C dX8_lay_110 rfl 5 rfl ?_
            refine pw_iload C dX8_lay_111 6 rfl ?_
            refine pw_iload C dX8_lay_113 7 rfl ?_
            obtain ⟨Φ12, hM, h⟩ := h
            refine pw_callS C dX8_lay_115 hM gm_X8_layIn gl_RX8_187 rfl hR (by decide) (by decide) rfl (Nat.le_of_ble_eq_true rfl) ?_
            rintro _ τ13 ⟨rfl, hv⟩
            replace h := h τ13 hv
            show PW x G 8 118 [(7, .int (gz (if (if (lg_cmp v3.toInt64 1) < 0 then false else (if 0 < (lg_cmp v3.toInt64 6) then false else true : Bool) : Bool) = false then false else (if (if (lg_cmp v4.toInt64 1) < 0 then false else (if 0 < (lg_cmp v4.toInt64 6) then false else true : Bool) : Bool) = false then false else (if (if (lg_cmp v5.toInt64 0) < 0 then false else (if 0 < (lg_cmp v5.toInt64 99) then false else true : Bool) : Bool) = false then false else true : Bool) : Bool) : Bool))), (6, .int (gz (if (if (lg_cmp v1.toInt64 0) < 0 then false else (if 0 < (lg_cmp v1.toInt64 (((σ.1 192 ((0 : Int32).toNatClampNeg)) - 1).toInt64)) then false else true : Bool) : Bool) = false then false else (if (if (lg_cmp v2.toInt64 0) < 0 then false else (if 0 < (lg_cmp v2.toInt64 (((σ.1 192 ((0 : Int32).toNatClampNeg)) - 1).toInt64)) then false else true : Bool) : Bool) = false then false else true : Bool) : Bool))), (0, .ref (G.1 + 189)), (1, .int v1), (2, .int v2), (3, .int v3), (4, .int v4), (5, .int v5)] [] τ13
            refine pw_aload_n C dX8_lay_118 rfl 2 rfl ?_
            refine pw_getr C dX8_lay_119 gf_RX8_16 gk_189.1 gk_189.2 rfl ?_
            refine pw_iconst (v := 1) C dX8_lay_122 (by decide) ?_
            refine pw_iald C dX8_lay_123 gk_192.1 gk_192.2 (by show ¬ (_ ∨ _); decide) ?_
            refine pw_iconst (v := 1) C dX8_lay_124 (by decide) ?_
            refine pw_isub C dX8_lay_125 ?_
            exact pw_iret C hT dX8_lay_126 h
          · replace h := h.2 q
            refine pw_iconst (v := 0) C dX8_lay_98 (by decide) ?_
            exact pw_iret C hT dX8_lay_99 h
      · replace h := h.2 q
        refine pw_iconst (v := 1) C dX8_lay_59 (by decide) ?_
        refine pw_goto (tgt := 92) C dX8_lay_60 (by decide) ?_
        refine pw_callV C dX8_lay_92 (k_X8_refused 1 σ ) gm_X8_refused gl_RX8_153 rfl hR (by decide) (by decide) (by decide) rfl gk_189.1 gk_189.2 rfl (Nat.le_of_ble_eq_true rfl) ?_
        rintro _ _ ⟨_, rfl, rfl, rfl⟩
        generalize hτ14 : gw_u σ 189 0 1 = τ14
        replace h := h τ14 hτ14.symm
        show PW x G 8 95 [(7, .int (gz (if (if (lg_cmp v3.toInt64 1) < 0 then false else (if 0 < (lg_cmp v3.toInt64 6) then false else true : Bool) : Bool) = false then false else (if (if (lg_cmp v4.toInt64 1) < 0 then false else (if 0 < (lg_cmp v4.toInt64 6) then false else true : Bool) : Bool) = false then false else (if (if (lg_cmp v5.toInt64 0) < 0 then false else (if 0 < (lg_cmp v5.toInt64 99) then false else true : Bool) : Bool) = false then false else true : Bool) : Bool) : Bool))), (6, .int (gz (if (if (lg_cmp v1.toInt64 0) < 0 then false else (if 0 < (lg_cmp v1.toInt64 (((σ.1 192 ((0 : Int32).toNatClampNeg)) - 1).toInt64)) then false else true : Bool) : Bool) = false then false else (if (if (lg_cmp v2.toInt64 0) < 0 then false else (if 0 < (lg_cmp v2.toInt64 (((σ.1 192 ((0 : Int32).toNatClampNeg)) - 1).toInt64)) then false else true : Bool) : Bool) = false then false else true : Bool) : Bool))), (0, .ref (G.1 + 189)), (1, .int v1), (2, .int v2), (3, .int v3), (4, .int v4), (5, .int v5)] [.int (gz (if 1 ≤ 0 then false else true : Bool))] τ14
        show PW x G 8 95 [(7, .int (gz (if (if (lg_cmp v3.toInt64 1) < 0 then false else (if 0 < (lg_cmp v3.toInt64 6) then false else true : Bool) : Bool) = false then false else (if (if (lg_cmp v4.toInt64 1) < 0 then false else (if 0 < (lg_cmp v4.toInt64 6) then false else true : Bool) : Bool) = false then false else (if (if (lg_cmp v5.toInt64 0) < 0 then false else (if 0 < (lg_cmp v5.toInt64 99) then false else true : Bool) : Bool) = false then false else true : Bool) : Bool) : Bool))), (6, .int (gz (if (if (lg_cmp v1.toInt64 0) < 0 then false else (if 0 < (lg_cmp v1.toInt64 (((σ.1 192 ((0 : Int32).toNatClampNeg)) - 1).toInt64)) then false else true : Bool) : Bool) = false then false else (if (if (lg_cmp v2.toInt64 0) < 0 then false else (if 0 < (lg_cmp v2.toInt64 (((σ.1 192 ((0 : Int32).toNatClampNeg)) - 1).toInt64)) then false else true : Bool) : Bool) = false then false else true : Bool) : Bool))), (0, .ref (G.1 + 189)), (1, .int v1), (2, .int v2), (3, .int v3), (4, .int v4), (5, .int v5)] [.int (gz (if 1 ≤ 0 then false else true : Bool))] τ14
        refine pw_z_eq (tgt := 100) C dX8_lay_95 (by decide) (fun q => ?_) (fun q => ?_)
        · replace h := h.1 q
          refine pw_aload_n C dX8_lay_100 rfl 2 rfl ?_
          obtain ⟨Φ15, hM, h⟩ := h
          refine pw_callV C dX8_lay_101 hM gm_X8_remember gl_RX8_252 rfl hR (by decide) (by decide) (by decide) rfl gk_189.1 gk_189.2 rfl (Nat.le_of_ble_eq_true rfl) ?_
          rintro _ τ16 ⟨rfl, hv⟩
          replace h := h τ16 hv
          show PW x G 8 104 [(7, .int (gz (if (if (lg_cmp v3.toInt64 1) < 0 then false else (if 0 < (lg_cmp v3.toInt64 6) then false else true : Bool) : Bool) = false then false else (if (if (lg_cmp v4.toInt64 1) < 0 then false else (if 0 < (lg_cmp v4.toInt64 6) then false else true : Bool) : Bool) = false then false else (if (if (lg_cmp v5.toInt64 0) < 0 then false else (if 0 < (lg_cmp v5.toInt64 99) then false else true : Bool) : Bool) = false then false else true : Bool) : Bool) : Bool))), (6, .int (gz (if (if (lg_cmp v1.toInt64 0) < 0 then false else (if 0 < (lg_cmp v1.toInt64 (((σ.1 192 ((0 : Int32).toNatClampNeg)) - 1).toInt64)) then false else true : Bool) : Bool) = false then false else (if (if (lg_cmp v2.toInt64 0) < 0 then false else (if 0 < (lg_cmp v2.toInt64 (((σ.1 192 ((0 : Int32).toNatClampNeg)) - 1).toInt64)) then false else true : Bool) : Bool) = false then false else true : Bool) : Bool))), (0, .ref (G.1 + 189)), (1, .int v1), (2, .int v2), (3, .int v3), (4, .int v4), (5, .int v5)] [] τ16
          refine pw_aload_n C dX8_lay_104 rfl 2 rfl ?_
          refine pw_getr C dX8_lay_105 gf_RX8_16 gk_189.1 gk_189.2 rfl ?_
          refine pw_iload_n C dX8_lay_108 rfl 3 rfl ?_
          refine pw_iload_n C dX8_lay_109 rfl 4 rfl ?_
          refine pw_iload_n C dX8_lay_110 rfl 5 rfl ?_
          refine pw_iload C dX8_lay_111 6 rfl ?_
          refine pw_iload C dX8_lay_113 7 rfl ?_
          obtain ⟨Φ17, hM, h⟩ := h
          refine pw_callS C dX8_lay_115 hM gm_X8_layIn gl_RX8_187 rfl hR (by decide) (by decide) rfl (Nat.le_of_ble_eq_true rfl) ?_
          rintro _ τ18 ⟨rfl, hv⟩
          replace h := h τ18 hv
          show PW x G 8 118 [(7, .int (gz (if (if (lg_cmp v3.toInt64 1) < 0 then false else (if 0 < (lg_cmp v3.toInt64 6) then false else true : Bool) : Bool) = false then false else (if (if (lg_cmp v4.toInt64 1) < 0 then false else (if 0 < (lg_cmp v4.toInt64 6) then false else true : Bool) : Bool) = false then false else (if (if (lg_cmp v5.toInt64 0) < 0 then false else (if 0 < (lg_cmp v5.toInt64 99) then false else true : Bool) : Bool) = false then false else true : Bool) : Bool) : Bool))), (6, .int (gz (if (if (lg_cmp v1.toInt64 0) < 0 then false else (if 0 < (lg_cmp v1.toInt64 (((σ.1 192 ((0 : Int32).toNatClampNeg)) - 1).toInt64)) then false else true : Bool) : Bool) = false then false else (if (if (lg_cmp v2.toInt64 0) < 0 then false else (if 0 < (lg_cmp v2.toInt64 (((σ.1 192 ((0 : Int32).toNatClampNeg)) - 1).toInt64)) then false else true : Bool) : Bool) = false then false else true : Bool) : Bool))), (0, .ref (G.1 + 189)), (1, .int v1), (2, .int v2), (3, .int v3), (4, .int v4), (5, .int v5)] [] τ18
          refine pw_aload_n C dX8_lay_118 rfl 2 rfl ?_
          refine pw_getr C dX8_lay_119 gf_RX8_16 gk_189.1 gk_189.2 rfl ?_
          refine pw_iconst (v := 1) C dX8_lay_122 (by decide) ?_
          refine pw_iald C dX8_lay_123 gk_192.1 gk_192.2 (by show ¬ (_ ∨ _); decide) ?_
          refine pw_iconst (v := 1) C dX8_lay_124 (by decide) ?_
          refine pw_isub C dX8_lay_125 ?_
          exact pw_iret C hT dX8_lay_126 h
        · replace h := h.2 q
          refine pw_iconst (v := 0) C dX8_lay_98 (by decide) ?_
          exact pw_iret C hT dX8_lay_99 h
    clear h
    refine pw_z_eq (tgt := 50) C dX8_lay_27 (by decide) (fun q2 => ?_) (fun q2 => ?_)
    · refine pw_iconst (v := 0) C dX8_lay_50 (by decide) ?_
      exact hJ false (if_pos q2)
    · refine pw_iload C dX8_lay_30 5 rfl ?_
      refine pw_callS C dX8_lay_32 (k_X8_isRate v4 σ ) gm_X8_isRate gl_RX8_259 rfl hR (by decide) (by decide) rfl (Nat.le_of_ble_eq_true rfl) ?_
      rintro _ _ ⟨_, rfl, rfl, rfl⟩
      show PW x G 8 35 [(6, .int (gz (if (if (lg_cmp v1.toInt64 0) < 0 then false else (if 0 < (lg_cmp v1.toInt64 (((σ.1 192 ((0 : Int32).toNatClampNeg)) - 1).toInt64)) then false else true : Bool) : Bool) = false then false else (if (if (lg_cmp v2.toInt64 0) < 0 then false else (if 0 < (lg_cmp v2.toInt64 (((σ.1 192 ((0 : Int32).toNatClampNeg)) - 1).toInt64)) then false else true : Bool) : Bool) = false then false else true : Bool) : Bool))), (0, .ref (G.1 + 189)), (1, .int v1), (2, .int v2), (3, .int v3), (4, .int v4), (5, .int v5)] [.int (gz (if (lg_cmp v4.toInt64 1) < 0 then false else (if 0 < (lg_cmp v4.toInt64 6) then false else true : Bool) : Bool))] σ
      refine pw_z_eq (tgt := 50) C dX8_lay_35 (by decide) (fun q3 => ?_) (fun q3 => ?_)
      · refine pw_iconst (v := 0) C dX8_lay_50 (by decide) ?_
        exact hJ false ((if_neg q2).trans (if_pos q3))
      · refine pw_iload C dX8_lay_38 6 rfl ?_
        refine pw_callS C dX8_lay_40 (k_X8_isMarks v5 σ ) gm_X8_isMarks gl_RX8_262 rfl hR (by decide) (by decide) rfl (Nat.le_of_ble_eq_true rfl) ?_
        rintro _ _ ⟨_, rfl, rfl, rfl⟩
        show PW x G 8 43 [(6, .int (gz (if (if (lg_cmp v1.toInt64 0) < 0 then false else (if 0 < (lg_cmp v1.toInt64 (((σ.1 192 ((0 : Int32).toNatClampNeg)) - 1).toInt64)) then false else true : Bool) : Bool) = false then false else (if (if (lg_cmp v2.toInt64 0) < 0 then false else (if 0 < (lg_cmp v2.toInt64 (((σ.1 192 ((0 : Int32).toNatClampNeg)) - 1).toInt64)) then false else true : Bool) : Bool) = false then false else true : Bool) : Bool))), (0, .ref (G.1 + 189)), (1, .int v1), (2, .int v2), (3, .int v3), (4, .int v4), (5, .int v5)] [.int (gz (if (lg_cmp v5.toInt64 0) < 0 then false else (if 0 < (lg_cmp v5.toInt64 99) then false else true : Bool) : Bool))] σ
        refine pw_z_eq (tgt := 50) C dX8_lay_43 (by decide) (fun q4 => ?_) (fun q4 => ?_)
        · refine pw_iconst (v := 0) C dX8_lay_50 (by decide) ?_
          exact hJ false ((if_neg q2).trans ((if_neg q3).trans (if_pos q4)))
        · refine pw_iconst (v := 1) C dX8_lay_46 (by decide) ?_
          refine pw_goto (tgt := 51) C dX8_lay_47 (by decide) ?_
          exact hJ true ((if_neg q2).trans ((if_neg q3).trans (if_neg q4)))
  clear h
  refine pw_z_eq (tgt := 20) C dX8_lay_5 (by decide) (fun q1 => ?_) (fun q1 => ?_)
  · refine pw_iconst (v := 0) C dX8_lay_20 (by decide) ?_
    exact hJ false (if_pos q1)
  · refine pw_aload_n C dX8_lay_8 rfl 0 rfl ?_
    refine pw_iload_n C dX8_lay_9 rfl 2 rfl ?_
    refine pw_callV C dX8_lay_10 (k_X8_isModule v2 σ ) gm_X8_isModule gl_RX8_234 rfl hR (by decide) (by decide) (by decide) rfl gk_189.1 gk_189.2 rfl (Nat.le_of_ble_eq_true rfl) ?_
    rintro _ _ ⟨_, rfl, rfl, rfl⟩
    show PW x G 8 13 [(0, .ref (G.1 + 189)), (1, .int v1), (2, .int v2), (3, .int v3), (4, .int v4), (5, .int v5)] [.int (gz (if (lg_cmp v2.toInt64 0) < 0 then false else (if 0 < (lg_cmp v2.toInt64 (((σ.1 192 ((0 : Int32).toNatClampNeg)) - 1).toInt64)) then false else true : Bool) : Bool))] σ
    refine pw_z_eq (tgt := 20) C dX8_lay_13 (by decide) (fun q2 => ?_) (fun q2 => ?_)
    · refine pw_iconst (v := 0) C dX8_lay_20 (by decide) ?_
      exact hJ false ((if_neg q1).trans (if_pos q2))
    · refine pw_iconst (v := 1) C dX8_lay_16 (by decide) ?_
      refine pw_goto (tgt := 21) C dX8_lay_17 (by decide) ?_
      exact hJ true ((if_neg q1).trans (if_neg q2))
set_option maxRecDepth 4000 in
theorem sg_X8_cut_0 {x : gw_X} {G : gw_G} {Φ : Int32 → gw_S → Prop} (C : XC x G RX8 cX8_cut 3 (some .int)) (hR : gw_ok x 2) (hT : RT x G (fi Φ)) (v1 : Int32) (σ : gw_S)
    (h : ∀ τ1 : gw_S, τ1 = gw_u σ 189 0 (gz (if (if (lg_cmp v1.toInt64 0) < 0 then false else (if 0 < (lg_cmp v1.toInt64 (((σ.1 192 ((1 : Int32).toNatClampNeg)) - 1).toInt64)) then false else true : Bool) : Bool) = false then true else false : Bool)) → (((if (gz (if (if (lg_cmp v1.toInt64 0) < 0 then false else (if 0 < (lg_cmp v1.toInt64 (((σ.1 192 ((1 : Int32).toNatClampNeg)) - 1).toInt64)) then false else true : Bool) : Bool) = false then true else false : Bool)) ≤ 0 then false else true : Bool) = false → ∃ Φ2 : gw_S → Prop, gw_M (xl x) G yX8_remember cX8_remember 1 none 1 [.ref (G.1 + 189)] τ1 (fv Φ2) ∧ ∀ (τ3 : gw_S), Φ2 τ3 → (vp_in ((26 + (5 * v1)) + 4) 96 ∧ (∃ Φ5 : gw_S → Prop, gw_M (xl x) G yX8_cutIn cX8_cutIn 2 none 1 [.ref (G.1 + 192), .int v1] τ3 (fv Φ5) ∧ ∀ (τ6 : gw_S), Φ5 τ6 → (Φ (τ3.1 192 (((26 + (5 * v1)) + 4).toNatClampNeg)) τ6)))) ∧ (¬ ((if (gz (if (if (lg_cmp v1.toInt64 0) < 0 then false else (if 0 < (lg_cmp v1.toInt64 (((σ.1 192 ((1 : Int32).toNatClampNeg)) - 1).toInt64)) then false else true : Bool) : Bool) = false then true else false : Bool)) ≤ 0 then false else true : Bool) = false) → Φ 0 τ1))) : PW x G 3 0 [(0, .ref (G.1 + 189)), (1, .int v1)] [] σ := by
  refine pw_aload_n C dX8_cut_0 rfl 0 rfl ?_
  refine pw_aload_n C dX8_cut_1 rfl 0 rfl ?_
  refine pw_iload_n C dX8_cut_2 rfl 1 rfl ?_
  refine pw_callV C dX8_cut_3 (k_X8_isWire v1 σ ) gm_X8_isWire gl_RX8_242 rfl hR (by decide) (by decide) (by decide) rfl gk_189.1 gk_189.2 rfl (Nat.le_of_ble_eq_true rfl) ?_
  rintro _ _ ⟨_, rfl, rfl, rfl⟩
  show PW x G 3 6 [(0, .ref (G.1 + 189)), (1, .int v1)] [.int (gz (if (lg_cmp v1.toInt64 0) < 0 then false else (if 0 < (lg_cmp v1.toInt64 (((σ.1 192 ((1 : Int32).toNatClampNeg)) - 1).toInt64)) then false else true : Bool) : Bool)), .ref (G.1 + 189)] σ
  have hJ : ∀ w0 : Bool, (if (if (lg_cmp v1.toInt64 0) < 0 then false else (if 0 < (lg_cmp v1.toInt64 (((σ.1 192 ((1 : Int32).toNatClampNeg)) - 1).toInt64)) then false else true : Bool) : Bool) = false then true else false : Bool) = w0 → PW x G 3 14 [(0, .ref (G.1 + 189)), (1, .int v1)] [.int (gz w0), .ref (G.1 + 189)] σ := by
    rintro _ rfl
    refine pw_callV C dX8_cut_14 (k_X8_refused (gz (if (if (lg_cmp v1.toInt64 0) < 0 then false else (if 0 < (lg_cmp v1.toInt64 (((σ.1 192 ((1 : Int32).toNatClampNeg)) - 1).toInt64)) then false else true : Bool) : Bool) = false then true else false : Bool)) σ ) gm_X8_refused gl_RX8_153 rfl hR (by decide) (by decide) (by decide) rfl gk_189.1 gk_189.2 rfl (Nat.le_of_ble_eq_true rfl) ?_
    rintro _ _ ⟨_, rfl, rfl, rfl⟩
    generalize hτ1 : gw_u σ 189 0 (gz (if (if (lg_cmp v1.toInt64 0) < 0 then false else (if 0 < (lg_cmp v1.toInt64 (((σ.1 192 ((1 : Int32).toNatClampNeg)) - 1).toInt64)) then false else true : Bool) : Bool) = false then true else false : Bool)) = τ1
    replace h := h τ1 hτ1.symm
    show PW x G 3 17 [(0, .ref (G.1 + 189)), (1, .int v1)] [.int (gz (if (gz (if (if (lg_cmp v1.toInt64 0) < 0 then false else (if 0 < (lg_cmp v1.toInt64 (((σ.1 192 ((1 : Int32).toNatClampNeg)) - 1).toInt64)) then false else true : Bool) : Bool) = false then true else false : Bool)) ≤ 0 then false else true : Bool))] τ1
    show PW x G 3 17 [(0, .ref (G.1 + 189)), (1, .int v1)] [.int (gz (if (gz (if (if (lg_cmp v1.toInt64 0) < 0 then false else (if 0 < (lg_cmp v1.toInt64 (((σ.1 192 ((1 : Int32).toNatClampNeg)) - 1).toInt64)) then false else true : Bool) : Bool) = false then true else false : Bool)) ≤ 0 then false else true : Bool))] τ1
    refine pw_z_eq (tgt := 22) C dX8_cut_17 (by decide) (fun q => ?_) (fun q => ?_)
    · replace h := h.1 q
      refine pw_aload_n C dX8_cut_22 rfl 0 rfl ?_
      obtain ⟨Φ2, hM, h⟩ := h
      refine pw_callV C dX8_cut_23 hM gm_X8_remember gl_RX8_252 rfl hR (by decide) (by decide) (by decide) rfl gk_189.1 gk_189.2 rfl (Nat.le_of_ble_eq_true rfl) ?_
      rintro _ τ3 ⟨rfl, hv⟩
      replace h := h τ3 hv
      show PW x G 3 26 [(0, .ref (G.1 + 189)), (1, .int v1)] [] τ3
      refine pw_aload_n C dX8_cut_26 rfl 0 rfl ?_
      refine pw_getr C dX8_cut_27 gf_RX8_16 gk_189.1 gk_189.2 rfl ?_
      refine pw_iload_n C dX8_cut_30 rfl 1 rfl ?_
      refine pw_iconst (v := 4) C dX8_cut_31 (by decide) ?_
      refine pw_callS C dX8_cut_32 (k_X8_wireAt v1 4 τ3 ) gm_X8_wireAt gl_RX8_73 rfl hR (by decide) (by decide) rfl (Nat.le_of_ble_eq_true rfl) ?_
      rintro _ _ ⟨_, rfl, rfl, rfl⟩
      show PW x G 3 35 [(0, .ref (G.1 + 189)), (1, .int v1)] [.int ((26 + (5 * v1)) + 4), .ref (G.1 + 192)] τ3
      obtain ⟨g4, h⟩ := h
      refine pw_iald C dX8_cut_35 gk_192.1 gk_192.2 g4 ?_
      refine pw_istore_n C dX8_cut_36 rfl (by decide) rfl ?_
      refine pw_aload_n C dX8_cut_37 rfl 1 rfl ?_
      refine pw_getr C dX8_cut_38 gf_RX8_16 gk_189.1 gk_189.2 rfl ?_
      refine pw_iload_n C dX8_cut_41 rfl 2 rfl ?_
      obtain ⟨Φ5, hM, h⟩ := h
      refine pw_callS C dX8_cut_42 hM gm_X8_cutIn gl_RX8_191 rfl hR (by decide) (by decide) rfl (Nat.le_of_ble_eq_true rfl) ?_
      rintro _ τ6 ⟨rfl, hv⟩
      replace h := h τ6 hv
      show PW x G 3 45 [(2, .int (τ3.1 192 (((26 + (5 * v1)) + 4).toNatClampNeg))), (0, .ref (G.1 + 189)), (1, .int v1)] [] τ6
      refine pw_iload_n C dX8_cut_45 rfl 0 rfl ?_
      exact pw_iret C hT dX8_cut_46 h
    · replace h := h.2 q
      refine pw_iconst (v := 0) C dX8_cut_20 (by decide) ?_
      exact pw_iret C hT dX8_cut_21 h
  clear h
  refine pw_z_eq (tgt := 13) C dX8_cut_6 (by decide) (fun q1 => ?_) (fun q1 => ?_)
  · refine pw_iconst (v := 1) C dX8_cut_13 (by decide) ?_
    exact hJ true (if_pos q1)
  · refine pw_iconst (v := 0) C dX8_cut_9 (by decide) ?_
    refine pw_goto (tgt := 14) C dX8_cut_10 (by decide) ?_
    exact hJ false (if_neg q1)
set_option maxRecDepth 4000 in
theorem sg_X8_put_0 {x : gw_X} {G : gw_G} {Φ : Int32 → gw_S → Prop} (C : XC x G RX8 cX8_put 4 (some .int)) (hR : gw_ok x 4) (hT : RT x G (fi Φ)) (v1 : Int32) (v2 : Int32) (σ : gw_S)
    (h : (¬ ((if (lg_cmp v1.toInt64 0) < 0 then false else (if 0 < (lg_cmp v1.toInt64 (((σ.1 192 ((1 : Int32).toNatClampNeg)) - 1).toInt64)) then false else true : Bool) : Bool) = false) → (¬ ((if (lg_cmp v2.toInt64 0) < 0 then false else (if 0 < (lg_cmp v2.toInt64 99) then false else true : Bool) : Bool) = false) → ∃ Φ1 : Bool → gw_S → Prop, gw_M (xl x) G yX8_canPut cX8_canPut 4 (some .boolean) 3 [.ref (G.1 + 189), .ref (G.1 + 192), .int v1, .int v2] σ (fz Φ1) ∧ ∀ (r3 : Bool) (τ2 : gw_S), Φ1 r3 τ2 → (∀ τ4 : gw_S, τ4 = gw_u τ2 189 0 (if r3 = false then 3 else 0 : Int32) → (((if (if r3 = false then 3 else 0 : Int32) ≤ 0 then false else true : Bool) = false → ∃ Φ5 : gw_S → Prop, gw_M (xl x) G yX8_remember cX8_remember 1 none 1 [.ref (G.1 + 189)] τ4 (fv Φ5) ∧ ∀ (τ6 : gw_S), Φ5 τ6 → (vp_in ((26 + (5 * v1)) + 4) 96 ∧ (∀ τ8 : gw_S, τ8 = gw_u τ6 192 (((26 + (5 * v1)) + 4).toNatClampNeg) v2 → (Φ (τ6.1 192 (((26 + (5 * v1)) + 4).toNatClampNeg)) τ8)))) ∧ (¬ ((if (if r3 = false then 3 else 0 : Int32) ≤ 0 then false else true : Bool) = false) → Φ 0 τ4)))) ∧ ((if (lg_cmp v2.toInt64 0) < 0 then false else (if 0 < (lg_cmp v2.toInt64 99) then false else true : Bool) : Bool) = false → ∀ τ9 : gw_S, τ9 = gw_u σ 189 0 2 → (((if 2 ≤ 0 then false else true : Bool) = false → ∃ Φ10 : gw_S → Prop, gw_M (xl x) G yX8_remember cX8_remember 1 none 1 [.ref (G.1 + 189)] τ9 (fv Φ10) ∧ ∀ (τ11 : gw_S), Φ10 τ11 → (vp_in ((26 + (5 * v1)) + 4) 96 ∧ (∀ τ13 : gw_S, τ13 = gw_u τ11 192 (((26 + (5 * v1)) + 4).toNatClampNeg) v2 → (Φ (τ11.1 192 (((26 + (5 * v1)) + 4).toNatClampNeg)) τ13)))) ∧ (¬ ((if 2 ≤ 0 then false else true : Bool) = false) → Φ 0 τ9)))) ∧ ((if (lg_cmp v1.toInt64 0) < 0 then false else (if 0 < (lg_cmp v1.toInt64 (((σ.1 192 ((1 : Int32).toNatClampNeg)) - 1).toInt64)) then false else true : Bool) : Bool) = false → ∀ τ14 : gw_S, τ14 = gw_u σ 189 0 1 → (((if 1 ≤ 0 then false else true : Bool) = false → ∃ Φ15 : gw_S → Prop, gw_M (xl x) G yX8_remember cX8_remember 1 none 1 [.ref (G.1 + 189)] τ14 (fv Φ15) ∧ ∀ (τ16 : gw_S), Φ15 τ16 → (vp_in ((26 + (5 * v1)) + 4) 96 ∧ (∀ τ18 : gw_S, τ18 = gw_u τ16 192 (((26 + (5 * v1)) + 4).toNatClampNeg) v2 → (Φ (τ16.1 192 (((26 + (5 * v1)) + 4).toNatClampNeg)) τ18)))) ∧ (¬ ((if 1 ≤ 0 then false else true : Bool) = false) → Φ 0 τ14)))) : PW x G 4 0 [(0, .ref (G.1 + 189)), (1, .int v1), (2, .int v2)] [] σ := by
  refine pw_aload_n C dX8_put_0 rfl 0 rfl ?_
  refine pw_aload_n C dX8_put_1 rfl 0 rfl ?_
  refine pw_iload_n C dX8_put_2 rfl 1 rfl ?_
  refine pw_callV C dX8_put_3 (k_X8_isWire v1 σ ) gm_X8_isWire gl_RX8_242 rfl hR (by decide) (by decide) (by decide) rfl gk_189.1 gk_189.2 rfl (Nat.le_of_ble_eq_true rfl) ?_
  rintro _ _ ⟨_, rfl, rfl, rfl⟩
  show PW x G 4 6 [(0, .ref (G.1 + 189)), (1, .int v1), (2, .int v2)] [.int (gz (if (lg_cmp v1.toInt64 0) < 0 then false else (if 0 < (lg_cmp v1.toInt64 (((σ.1 192 ((1 : Int32).toNatClampNeg)) - 1).toInt64)) then false else true : Bool) : Bool)), .ref (G.1 + 189)] σ
  refine pw_z_ne (tgt := 13) C dX8_put_6 (by decide) (fun q => ?_) (fun q => ?_)
  · replace h := h.1 q
    refine pw_iload_n C dX8_put_13 rfl 2 rfl ?_
    refine pw_callS C dX8_put_14 (k_X8_isMarks v2 σ ) gm_X8_isMarks gl_RX8_262 rfl hR (by decide) (by decide) rfl (Nat.le_of_ble_eq_true rfl) ?_
    rintro _ _ ⟨_, rfl, rfl, rfl⟩
    show PW x G 4 17 [(0, .ref (G.1 + 189)), (1, .int v1), (2, .int v2)] [.int (gz (if (lg_cmp v2.toInt64 0) < 0 then false else (if 0 < (lg_cmp v2.toInt64 99) then false else true : Bool) : Bool)), .ref (G.1 + 189)] σ
    refine pw_z_ne (tgt := 24) C dX8_put_17 (by decide) (fun q => ?_) (fun q => ?_)
    · replace h := h.1 q
      refine pw_aload_n C dX8_put_24 rfl 0 rfl ?_
      refine pw_aload_n C dX8_put_25 rfl 0 rfl ?_
      refine pw_getr C dX8_put_26 gf_RX8_16 gk_189.1 gk_189.2 rfl ?_
      refine pw_iload_n C dX8_put_29 rfl 1 rfl ?_
      refine pw_iload_n C dX8_put_30 rfl 2 rfl ?_
      obtain ⟨Φ1, hM, h⟩ := h
      refine pw_callV C dX8_put_31 hM gm_X8_canPut gl_RX8_265 rfl hR (by decide) (by decide) (by decide) rfl gk_189.1 gk_189.2 rfl (Nat.le_of_ble_eq_true rfl) ?_
      rintro _ τ2 ⟨r3, rfl, hv⟩
      replace h := h r3 τ2 hv
      show PW x G 4 34 [(0, .ref (G.1 + 189)), (1, .int v1), (2, .int v2)] [.int (gz r3), .ref (G.1 + 189)] τ2
      have hJ : ∀ w0 : Int32, (if r3 = false then 3 else 0 : Int32) = w0 → PW x G 4 42 [(0, .ref (G.1 + 189)), (1, .int v1), (2, .int v2)] [.int w0, .ref (G.1 + 189)] τ2 := by
        rintro _ rfl
        refine pw_callV C dX8_put_42 (k_X8_refused (if r3 = false then 3 else 0 : Int32) τ2 ) gm_X8_refused gl_RX8_153 rfl hR (by decide) (by decide) (by decide) rfl gk_189.1 gk_189.2 rfl (Nat.le_of_ble_eq_true rfl) ?_
        rintro _ _ ⟨_, rfl, rfl, rfl⟩
        generalize hτ4 : gw_u τ2 189 0 (if r3 = false then 3 else 0 : Int32) = τ4
        replace h := h τ4 hτ4.symm
        show PW x G 4 45 [(0, .ref (G.1 + 189)), (1, .int v1), (2, .int v2)] [.int (gz (if (if r3 = false then 3 else 0 : Int32) ≤ 0 then false else true : Bool))] τ4
        show PW x G 4 45 [(0, .ref (G.1 + 189)), (1, .int v1), (2, .int v2)] [.int (gz (if (if r3 = false then 3 else 0 : Int32) ≤ 0 then false else true : Bool))] τ4
        refine pw_z_eq (tgt := 50) C dX8_put_45 (by decide) (fun q => ?_) (fun q => ?_)
        · replace h := h.1 q
          refine pw_aload_n C dX8_put_50 rfl 0 rfl ?_
          obtain ⟨Φ5, hM, h⟩ := h
          refine pw_callV C dX8_put_51 hM gm_X8_remember gl_RX8_252 rfl hR (by decide) (by decide) (by decide) rfl gk_189.1 gk_189.2 rfl (Nat.le_of_ble_eq_true rfl) ?_
          rintro _ τ6 ⟨rfl, hv⟩
          replace h := h τ6 hv
          show PW x G 4 54 [(0, .ref (G.1 + 189)), (1, .int v1), (2, .int v2)] [] τ6
          refine pw_aload_n C dX8_put_54 rfl 0 rfl ?_
          refine pw_getr C dX8_put_55 gf_RX8_16 gk_189.1 gk_189.2 rfl ?_
          refine pw_iload_n C dX8_put_58 rfl 1 rfl ?_
          refine pw_iconst (v := 4) C dX8_put_59 (by decide) ?_
          refine pw_callS C dX8_put_60 (k_X8_wireAt v1 4 τ6 ) gm_X8_wireAt gl_RX8_73 rfl hR (by decide) (by decide) rfl (Nat.le_of_ble_eq_true rfl) ?_
          rintro _ _ ⟨_, rfl, rfl, rfl⟩
          show PW x G 4 63 [(0, .ref (G.1 + 189)), (1, .int v1), (2, .int v2)] [.int ((26 + (5 * v1)) + 4), .ref (G.1 + 192)] τ6
          obtain ⟨g7, h⟩ := h
          refine pw_iald C dX8_put_63 gk_192.1 gk_192.2 g7 ?_
          refine pw_istore_n C dX8_put_64 rfl (by decide) rfl ?_
          refine pw_aload_n C dX8_put_65 rfl 1 rfl ?_
          refine pw_getr C dX8_put_66 gf_RX8_16 gk_189.1 gk_189.2 rfl ?_
          refine pw_iload_n C dX8_put_69 rfl 2 rfl ?_
          refine pw_iconst (v := 4) C dX8_put_70 (by decide) ?_
          refine pw_callS C dX8_put_71 (k_X8_wireAt v1 4 τ6 ) gm_X8_wireAt gl_RX8_73 rfl hR (by decide) (by decide) rfl (Nat.le_of_ble_eq_true rfl) ?_
          rintro _ _ ⟨_, rfl, rfl, rfl⟩
          show PW x G 4 74 [(3, .int (τ6.1 192 (((26 + (5 * v1)) + 4).toNatClampNeg))), (0, .ref (G.1 + 189)), (1, .int v1), (2, .int v2)] [.int ((26 + (5 * v1)) + 4), .ref (G.1 + 192)] τ6
          refine pw_iload_n C dX8_put_74 rfl 3 rfl ?_
          refine pw_iast C dX8_put_75 gk_192.1 gk_192.2 g7 ?_
          generalize hτ8 : gw_u τ6 192 (((26 + (5 * v1)) + 4).toNatClampNeg) v2 = τ8
          replace h := h τ8 hτ8.symm
          show PW x G 4 76 [(3, .int (τ6.1 192 (((26 + (5 * v1)) + 4).toNatClampNeg))), (0, .ref (G.1 + 189)), (1, .int v1), (2, .int v2)] [] τ8
          refine pw_iload_n C dX8_put_76 rfl 0 rfl ?_
          exact pw_iret C hT dX8_put_77 h
        · replace h := h.2 q
          refine pw_iconst (v := 0) C dX8_put_48 (by decide) ?_
          exact pw_iret C hT dX8_put_49 h
      clear h
      refine pw_z_eq (tgt := 41) C dX8_put_34 (by decide) (fun q3 => ?_) (fun q3 => ?_)
      · refine pw_iconst (v := 3) C dX8_put_41 (by decide) ?_
        exact hJ 3 (if_pos q3)
      · refine pw_iconst (v := 0) C dX8_put_37 (by decide) ?_
        refine pw_goto (tgt := 42) C dX8_put_38 (by decide) ?_
        exact hJ 0 (if_neg q3)
    · replace h := h.2 q
      refine pw_iconst (v := 2) C dX8_put_20 (by decide) ?_
      refine pw_goto (tgt := 42) C dX8_put_21 (by decide) ?_
      refine pw_callV C dX8_put_42 (k_X8_refused 2 σ ) gm_X8_refused gl_RX8_153 rfl hR (by decide) (by decide) (by decide) rfl gk_189.1 gk_189.2 rfl (Nat.le_of_ble_eq_true rfl) ?_
      rintro _ _ ⟨_, rfl, rfl, rfl⟩
      generalize hτ9 : gw_u σ 189 0 2 = τ9
      replace h := h τ9 hτ9.symm
      show PW x G 4 45 [(0, .ref (G.1 + 189)), (1, .int v1), (2, .int v2)] [.int (gz (if 2 ≤ 0 then false else true : Bool))] τ9
      show PW x G 4 45 [(0, .ref (G.1 + 189)), (1, .int v1), (2, .int v2)] [.int (gz (if 2 ≤ 0 then false else true : Bool))] τ9
      refine pw_z_eq (tgt := 50) C dX8_put_45 (by decide) (fun q => ?_) (fun q => ?_)
      · replace h := h.1 q
        refine pw_aload_n C dX8_put_50 rfl 0 rfl ?_
        obtain ⟨Φ10, hM, h⟩ := h
        refine pw_callV C dX8_put_51 hM gm_X8_remember gl_RX8_252 rfl hR (by decide) (by decide) (by decide) rfl gk_189.1 gk_189.2 rfl (Nat.le_of_ble_eq_true rfl) ?_
        rintro _ τ11 ⟨rfl, hv⟩
        replace h := h τ11 hv
        show PW x G 4 54 [(0, .ref (G.1 + 189)), (1, .int v1), (2, .int v2)] [] τ11
        refine pw_aload_n C dX8_put_54 rfl 0 rfl ?_
        refine pw_getr C dX8_put_55 gf_RX8_16 gk_189.1 gk_189.2 rfl ?_
        refine pw_iload_n C dX8_put_58 rfl 1 rfl ?_
        refine pw_iconst (v := 4) C dX8_put_59 (by decide) ?_
        refine pw_callS C dX8_put_60 (k_X8_wireAt v1 4 τ11 ) gm_X8_wireAt gl_RX8_73 rfl hR (by decide) (by decide) rfl (Nat.le_of_ble_eq_true rfl) ?_
        rintro _ _ ⟨_, rfl, rfl, rfl⟩
        show PW x G 4 63 [(0, .ref (G.1 + 189)), (1, .int v1), (2, .int v2)] [.int ((26 + (5 * v1)) + 4), .ref (G.1 + 192)] τ11
        obtain ⟨g12, h⟩ := h
        refine pw_iald C dX8_put_63 gk_192.1 gk_192.2 g12 ?_
        refine pw_istore_n C dX8_put_64 rfl (by decide) rfl ?_
        refine pw_aload_n C dX8_put_65 rfl 1 rfl ?_
        refine pw_getr C dX8_put_66 gf_RX8_16 gk_189.1 gk_189.2 rfl ?_
        refine pw_iload_n C dX8_put_69 rfl 2 rfl ?_
        refine pw_iconst (v := 4) C dX8_put_70 (by decide) ?_
        refine pw_callS C dX8_put_71 (k_X8_wireAt v1 4 τ11 ) gm_X8_wireAt gl_RX8_73 rfl hR (by decide) (by decide) rfl (Nat.le_of_ble_eq_true rfl) ?_
        rintro _ _ ⟨_, rfl, rfl, rfl⟩
        show PW x G 4 74 [(3, .int (τ11.1 192 (((26 + (5 * v1)) + 4).toNatClampNeg))), (0, .ref (G.1 + 189)), (1, .int v1), (2, .int v2)] [.int ((26 + (5 * v1)) + 4), .ref (G.1 + 192)] τ11
        refine pw_iload_n C dX8_put_74 rfl 3 rfl ?_
        refine pw_iast C dX8_put_75 gk_192.1 gk_192.2 g12 ?_
        generalize hτ13 : gw_u τ11 192 (((26 + (5 * v1)) + 4).toNatClampNeg) v2 = τ13
        replace h := h τ13 hτ13.symm
        show PW x G 4 76 [(3, .int (τ11.1 192 (((26 + (5 * v1)) + 4).toNatClampNeg))), (0, .ref (G.1 + 189)), (1, .int v1), (2, .int v2)] [] τ13
        refine pw_iload_n C dX8_put_76 rfl 0 rfl ?_
        exact pw_iret C hT dX8_put_77 h
      · replace h := h.2 q
        refine pw_iconst (v := 0) C dX8_put_48 (by decide) ?_
        exact pw_iret C hT dX8_put_49 h
  · replace h := h.2 q
    refine pw_iconst (v := 1) C dX8_put_9 (by decide) ?_
    refine pw_goto (tgt := 42) C dX8_put_10 (by decide) ?_
    refine pw_callV C dX8_put_42 (k_X8_refused 1 σ ) gm_X8_refused gl_RX8_153 rfl hR (by decide) (by decide) (by decide) rfl gk_189.1 gk_189.2 rfl (Nat.le_of_ble_eq_true rfl) ?_
    rintro _ _ ⟨_, rfl, rfl, rfl⟩
    generalize hτ14 : gw_u σ 189 0 1 = τ14
    replace h := h τ14 hτ14.symm
    show PW x G 4 45 [(0, .ref (G.1 + 189)), (1, .int v1), (2, .int v2)] [.int (gz (if 1 ≤ 0 then false else true : Bool))] τ14
    show PW x G 4 45 [(0, .ref (G.1 + 189)), (1, .int v1), (2, .int v2)] [.int (gz (if 1 ≤ 0 then false else true : Bool))] τ14
    refine pw_z_eq (tgt := 50) C dX8_put_45 (by decide) (fun q => ?_) (fun q => ?_)
    · replace h := h.1 q
      refine pw_aload_n C dX8_put_50 rfl 0 rfl ?_
      obtain ⟨Φ15, hM, h⟩ := h
      refine pw_callV C dX8_put_51 hM gm_X8_remember gl_RX8_252 rfl hR (by decide) (by decide) (by decide) rfl gk_189.1 gk_189.2 rfl (Nat.le_of_ble_eq_true rfl) ?_
      rintro _ τ16 ⟨rfl, hv⟩
      replace h := h τ16 hv
      show PW x G 4 54 [(0, .ref (G.1 + 189)), (1, .int v1), (2, .int v2)] [] τ16
      refine pw_aload_n C dX8_put_54 rfl 0 rfl ?_
      refine pw_getr C dX8_put_55 gf_RX8_16 gk_189.1 gk_189.2 rfl ?_
      refine pw_iload_n C dX8_put_58 rfl 1 rfl ?_
      refine pw_iconst (v := 4) C dX8_put_59 (by decide) ?_
      refine pw_callS C dX8_put_60 (k_X8_wireAt v1 4 τ16 ) gm_X8_wireAt gl_RX8_73 rfl hR (by decide) (by decide) rfl (Nat.le_of_ble_eq_true rfl) ?_
      rintro _ _ ⟨_, rfl, rfl, rfl⟩
      show PW x G 4 63 [(0, .ref (G.1 + 189)), (1, .int v1), (2, .int v2)] [.int ((26 + (5 * v1)) + 4), .ref (G.1 + 192)] τ16
      obtain ⟨g17, h⟩ := h
      refine pw_iald C dX8_put_63 gk_192.1 gk_192.2 g17 ?_
      refine pw_istore_n C dX8_put_64 rfl (by decide) rfl ?_
      refine pw_aload_n C dX8_put_65 rfl 1 rfl ?_
      refine pw_getr C dX8_put_66 gf_RX8_16 gk_189.1 gk_189.2 rfl ?_
      refine pw_iload_n C dX8_put_69 rfl 2 rfl ?_
      refine pw_iconst (v := 4) C dX8_put_70 (by decide) ?_
      refine pw_callS C dX8_put_71 (k_X8_wireAt v1 4 τ16 ) gm_X8_wireAt gl_RX8_73 rfl hR (by decide) (by decide) rfl (Nat.le_of_ble_eq_true rfl) ?_
      rintro _ _ ⟨_, rfl, rfl, rfl⟩
      show PW x G 4 74 [(3, .int (τ16.1 192 (((26 + (5 * v1)) + 4).toNatClampNeg))), (0, .ref (G.1 + 189)), (1, .int v1), (2, .int v2)] [.int ((26 + (5 * v1)) + 4), .ref (G.1 + 192)] τ16
      refine pw_iload_n C dX8_put_74 rfl 3 rfl ?_
      refine pw_iast C dX8_put_75 gk_192.1 gk_192.2 g17 ?_
      generalize hτ18 : gw_u τ16 192 (((26 + (5 * v1)) + 4).toNatClampNeg) v2 = τ18
      replace h := h τ18 hτ18.symm
      show PW x G 4 76 [(3, .int (τ16.1 192 (((26 + (5 * v1)) + 4).toNatClampNeg))), (0, .ref (G.1 + 189)), (1, .int v1), (2, .int v2)] [] τ18
      refine pw_iload_n C dX8_put_76 rfl 0 rfl ?_
      exact pw_iret C hT dX8_put_77 h
    · replace h := h.2 q
      refine pw_iconst (v := 0) C dX8_put_48 (by decide) ?_
      exact pw_iret C hT dX8_put_49 h
set_option maxRecDepth 4000 in
theorem sg_X8_work_0 {x : gw_X} {G : gw_G} {Φ : Int32 → gw_S → Prop} (C : XC x G RX8 cX8_work 2 (some .int)) (hR : gw_ok x 2) (hT : RT x G (fi Φ)) (v1 : Int32) (σ : gw_S)
    (h : (¬ ((if (lg_cmp v1.toInt64 0) < 0 then false else (if 0 < (lg_cmp v1.toInt64 (((σ.1 192 ((0 : Int32).toNatClampNeg)) - 1).toInt64)) then false else true : Bool) : Bool) = false) → ∃ Φ1 : Bool → gw_S → Prop, gw_M (xl x) G yX8_canWork cX8_canWork 7 (some .boolean) 1 [.ref (G.1 + 192), .int v1] σ (fz Φ1) ∧ ∀ (r3 : Bool) (τ2 : gw_S), Φ1 r3 τ2 → (∀ τ4 : gw_S, τ4 = gw_u τ2 189 0 (if r3 = false then 2 else 0 : Int32) → (((if (if r3 = false then 2 else 0 : Int32) ≤ 0 then false else true : Bool) = false → ∃ Φ5 : gw_S → Prop, gw_M (xl x) G yX8_remember cX8_remember 1 none 1 [.ref (G.1 + 189)] τ4 (fv Φ5) ∧ ∀ (τ6 : gw_S), Φ5 τ6 → (∃ Φ7 : gw_S → Prop, gw_M (xl x) G yX8_workIn cX8_workIn 3 none 1 [.ref (G.1 + 192), .int v1] τ6 (fv Φ7) ∧ ∀ (τ8 : gw_S), Φ7 τ8 → (∃ Φ9 : Int32 → gw_S → Prop, gw_M (xl x) G yX8_marks cX8_marks 3 (some .int) 1 [.ref (G.1 + 192)] τ8 (fi Φ9) ∧ ∀ (r11 : Int32) (τ10 : gw_S), Φ9 r11 τ10 → (Φ r11 τ10)))) ∧ (¬ ((if (if r3 = false then 2 else 0 : Int32) ≤ 0 then false else true : Bool) = false) → Φ 0 τ4)))) ∧ ((if (lg_cmp v1.toInt64 0) < 0 then false else (if 0 < (lg_cmp v1.toInt64 (((σ.1 192 ((0 : Int32).toNatClampNeg)) - 1).toInt64)) then false else true : Bool) : Bool) = false → ∀ τ12 : gw_S, τ12 = gw_u σ 189 0 1 → (((if 1 ≤ 0 then false else true : Bool) = false → ∃ Φ13 : gw_S → Prop, gw_M (xl x) G yX8_remember cX8_remember 1 none 1 [.ref (G.1 + 189)] τ12 (fv Φ13) ∧ ∀ (τ14 : gw_S), Φ13 τ14 → (∃ Φ15 : gw_S → Prop, gw_M (xl x) G yX8_workIn cX8_workIn 3 none 1 [.ref (G.1 + 192), .int v1] τ14 (fv Φ15) ∧ ∀ (τ16 : gw_S), Φ15 τ16 → (∃ Φ17 : Int32 → gw_S → Prop, gw_M (xl x) G yX8_marks cX8_marks 3 (some .int) 1 [.ref (G.1 + 192)] τ16 (fi Φ17) ∧ ∀ (r19 : Int32) (τ18 : gw_S), Φ17 r19 τ18 → (Φ r19 τ18)))) ∧ (¬ ((if 1 ≤ 0 then false else true : Bool) = false) → Φ 0 τ12)))) : PW x G 2 0 [(0, .ref (G.1 + 189)), (1, .int v1)] [] σ := by
  refine pw_aload_n C dX8_work_0 rfl 0 rfl ?_
  refine pw_aload_n C dX8_work_1 rfl 0 rfl ?_
  refine pw_iload_n C dX8_work_2 rfl 1 rfl ?_
  refine pw_callV C dX8_work_3 (k_X8_isModule v1 σ ) gm_X8_isModule gl_RX8_234 rfl hR (by decide) (by decide) (by decide) rfl gk_189.1 gk_189.2 rfl (Nat.le_of_ble_eq_true rfl) ?_
  rintro _ _ ⟨_, rfl, rfl, rfl⟩
  show PW x G 2 6 [(0, .ref (G.1 + 189)), (1, .int v1)] [.int (gz (if (lg_cmp v1.toInt64 0) < 0 then false else (if 0 < (lg_cmp v1.toInt64 (((σ.1 192 ((0 : Int32).toNatClampNeg)) - 1).toInt64)) then false else true : Bool) : Bool)), .ref (G.1 + 189)] σ
  refine pw_z_ne (tgt := 13) C dX8_work_6 (by decide) (fun q => ?_) (fun q => ?_)
  · replace h := h.1 q
    refine pw_aload_n C dX8_work_13 rfl 0 rfl ?_
    refine pw_getr C dX8_work_14 gf_RX8_16 gk_189.1 gk_189.2 rfl ?_
    refine pw_iload_n C dX8_work_17 rfl 1 rfl ?_
    obtain ⟨Φ1, hM, h⟩ := h
    refine pw_callS C dX8_work_18 hM gm_X8_canWork gl_RX8_106 rfl hR (by decide) (by decide) rfl (Nat.le_of_ble_eq_true rfl) ?_
    rintro _ τ2 ⟨r3, rfl, hv⟩
    replace h := h r3 τ2 hv
    show PW x G 2 21 [(0, .ref (G.1 + 189)), (1, .int v1)] [.int (gz r3), .ref (G.1 + 189)] τ2
    have hJ : ∀ w0 : Int32, (if r3 = false then 2 else 0 : Int32) = w0 → PW x G 2 29 [(0, .ref (G.1 + 189)), (1, .int v1)] [.int w0, .ref (G.1 + 189)] τ2 := by
      rintro _ rfl
      refine pw_callV C dX8_work_29 (k_X8_refused (if r3 = false then 2 else 0 : Int32) τ2 ) gm_X8_refused gl_RX8_153 rfl hR (by decide) (by decide) (by decide) rfl gk_189.1 gk_189.2 rfl (Nat.le_of_ble_eq_true rfl) ?_
      rintro _ _ ⟨_, rfl, rfl, rfl⟩
      generalize hτ4 : gw_u τ2 189 0 (if r3 = false then 2 else 0 : Int32) = τ4
      replace h := h τ4 hτ4.symm
      show PW x G 2 32 [(0, .ref (G.1 + 189)), (1, .int v1)] [.int (gz (if (if r3 = false then 2 else 0 : Int32) ≤ 0 then false else true : Bool))] τ4
      show PW x G 2 32 [(0, .ref (G.1 + 189)), (1, .int v1)] [.int (gz (if (if r3 = false then 2 else 0 : Int32) ≤ 0 then false else true : Bool))] τ4
      refine pw_z_eq (tgt := 37) C dX8_work_32 (by decide) (fun q => ?_) (fun q => ?_)
      · replace h := h.1 q
        refine pw_aload_n C dX8_work_37 rfl 0 rfl ?_
        obtain ⟨Φ5, hM, h⟩ := h
        refine pw_callV C dX8_work_38 hM gm_X8_remember gl_RX8_252 rfl hR (by decide) (by decide) (by decide) rfl gk_189.1 gk_189.2 rfl (Nat.le_of_ble_eq_true rfl) ?_
        rintro _ τ6 ⟨rfl, hv⟩
        replace h := h τ6 hv
        show PW x G 2 41 [(0, .ref (G.1 + 189)), (1, .int v1)] [] τ6
        refine pw_aload_n C dX8_work_41 rfl 0 rfl ?_
        refine pw_getr C dX8_work_42 gf_RX8_16 gk_189.1 gk_189.2 rfl ?_
        refine pw_iload_n C dX8_work_45 rfl 1 rfl ?_
        obtain ⟨Φ7, hM, h⟩ := h
        refine pw_callS C dX8_work_46 hM gm_X8_workIn gl_RX8_124 rfl hR (by decide) (by decide) rfl (Nat.le_of_ble_eq_true rfl) ?_
        rintro _ τ8 ⟨rfl, hv⟩
        replace h := h τ8 hv
        show PW x G 2 49 [(0, .ref (G.1 + 189)), (1, .int v1)] [] τ8
        refine pw_aload_n C dX8_work_49 rfl 0 rfl ?_
        refine pw_getr C dX8_work_50 gf_RX8_16 gk_189.1 gk_189.2 rfl ?_
        obtain ⟨Φ9, hM, h⟩ := h
        refine pw_callS C dX8_work_53 hM gm_X8_marks gl_RX8_218 rfl hR (by decide) (by decide) rfl (Nat.le_of_ble_eq_true rfl) ?_
        rintro _ τ10 ⟨r11, rfl, hv⟩
        replace h := h r11 τ10 hv
        show PW x G 2 56 [(0, .ref (G.1 + 189)), (1, .int v1)] [.int r11] τ10
        exact pw_iret C hT dX8_work_56 h
      · replace h := h.2 q
        refine pw_iconst (v := 0) C dX8_work_35 (by decide) ?_
        exact pw_iret C hT dX8_work_36 h
    clear h
    refine pw_z_eq (tgt := 28) C dX8_work_21 (by decide) (fun q2 => ?_) (fun q2 => ?_)
    · refine pw_iconst (v := 2) C dX8_work_28 (by decide) ?_
      exact hJ 2 (if_pos q2)
    · refine pw_iconst (v := 0) C dX8_work_24 (by decide) ?_
      refine pw_goto (tgt := 29) C dX8_work_25 (by decide) ?_
      exact hJ 0 (if_neg q2)
  · replace h := h.2 q
    refine pw_iconst (v := 1) C dX8_work_9 (by decide) ?_
    refine pw_goto (tgt := 29) C dX8_work_10 (by decide) ?_
    refine pw_callV C dX8_work_29 (k_X8_refused 1 σ ) gm_X8_refused gl_RX8_153 rfl hR (by decide) (by decide) (by decide) rfl gk_189.1 gk_189.2 rfl (Nat.le_of_ble_eq_true rfl) ?_
    rintro _ _ ⟨_, rfl, rfl, rfl⟩
    generalize hτ12 : gw_u σ 189 0 1 = τ12
    replace h := h τ12 hτ12.symm
    show PW x G 2 32 [(0, .ref (G.1 + 189)), (1, .int v1)] [.int (gz (if 1 ≤ 0 then false else true : Bool))] τ12
    show PW x G 2 32 [(0, .ref (G.1 + 189)), (1, .int v1)] [.int (gz (if 1 ≤ 0 then false else true : Bool))] τ12
    refine pw_z_eq (tgt := 37) C dX8_work_32 (by decide) (fun q => ?_) (fun q => ?_)
    · replace h := h.1 q
      refine pw_aload_n C dX8_work_37 rfl 0 rfl ?_
      obtain ⟨Φ13, hM, h⟩ := h
      refine pw_callV C dX8_work_38 hM gm_X8_remember gl_RX8_252 rfl hR (by decide) (by decide) (by decide) rfl gk_189.1 gk_189.2 rfl (Nat.le_of_ble_eq_true rfl) ?_
      rintro _ τ14 ⟨rfl, hv⟩
      replace h := h τ14 hv
      show PW x G 2 41 [(0, .ref (G.1 + 189)), (1, .int v1)] [] τ14
      refine pw_aload_n C dX8_work_41 rfl 0 rfl ?_
      refine pw_getr C dX8_work_42 gf_RX8_16 gk_189.1 gk_189.2 rfl ?_
      refine pw_iload_n C dX8_work_45 rfl 1 rfl ?_
      obtain ⟨Φ15, hM, h⟩ := h
      refine pw_callS C dX8_work_46 hM gm_X8_workIn gl_RX8_124 rfl hR (by decide) (by decide) rfl (Nat.le_of_ble_eq_true rfl) ?_
      rintro _ τ16 ⟨rfl, hv⟩
      replace h := h τ16 hv
      show PW x G 2 49 [(0, .ref (G.1 + 189)), (1, .int v1)] [] τ16
      refine pw_aload_n C dX8_work_49 rfl 0 rfl ?_
      refine pw_getr C dX8_work_50 gf_RX8_16 gk_189.1 gk_189.2 rfl ?_
      obtain ⟨Φ17, hM, h⟩ := h
      refine pw_callS C dX8_work_53 hM gm_X8_marks gl_RX8_218 rfl hR (by decide) (by decide) rfl (Nat.le_of_ble_eq_true rfl) ?_
      rintro _ τ18 ⟨r19, rfl, hv⟩
      replace h := h r19 τ18 hv
      show PW x G 2 56 [(0, .ref (G.1 + 189)), (1, .int v1)] [.int r19] τ18
      exact pw_iret C hT dX8_work_56 h
    · replace h := h.2 q
      refine pw_iconst (v := 0) C dX8_work_35 (by decide) ?_
      exact pw_iret C hT dX8_work_36 h
set_option maxRecDepth 4000 in
theorem sg_X8_round_0 {x : gw_X} {G : gw_G} {Φ : Int32 → gw_S → Prop} (C : XC x G RX8 cX8_round 3 (some .int)) (hR : gw_ok x 6) (hT : RT x G (fi Φ)) (v1 : Int32) (σ : gw_S)
    (h : (¬ ((if (lg_cmp v1.toInt64 0) < 0 then false else (if 0 < (lg_cmp v1.toInt64 2) then false else true : Bool) : Bool) = false) → ∃ Φ1 : Bool → gw_S → Prop, gw_M (xl x) G yX8_tryRound cX8_tryRound 3 (some .boolean) 5 [.ref (G.1 + 189), .int v1] σ (fz Φ1) ∧ ∀ (r3 : Bool) (τ2 : gw_S), Φ1 r3 τ2 → (∀ τ4 : gw_S, τ4 = gw_u τ2 189 0 (if r3 = false then 2 else (if (τ2.1 189 22) = 0 then 2 else 0 : Int32) : Int32) → (((if (if r3 = false then 2 else (if (τ2.1 189 22) = 0 then 2 else 0 : Int32) : Int32) ≤ 0 then false else true : Bool) = false → ∃ Φ5 : gw_S → Prop, gw_M (xl x) G yX8_remember cX8_remember 1 none 1 [.ref (G.1 + 189)] τ4 (fv Φ5) ∧ ∀ (τ6 : gw_S), Φ5 τ6 → (∃ Φ7 : gw_S → Prop, gw_M (xl x) G yX8_copy cX8_copy 6 none 0 [.ref (G.1 + 193), .int 0, .ref (G.1 + 192), .int 0, .int 96] τ6 (fv Φ7) ∧ ∀ (τ8 : gw_S), Φ7 τ8 → (Φ (τ8.1 189 20) τ8))) ∧ (¬ ((if (if r3 = false then 2 else (if (τ2.1 189 22) = 0 then 2 else 0 : Int32) : Int32) ≤ 0 then false else true : Bool) = false) → Φ 0 τ4)))) ∧ ((if (lg_cmp v1.toInt64 0) < 0 then false else (if 0 < (lg_cmp v1.toInt64 2) then false else true : Bool) : Bool) = false → ∀ τ9 : gw_S, τ9 = gw_u σ 189 0 1 → (((if 1 ≤ 0 then false else true : Bool) = false → ∃ Φ10 : gw_S → Prop, gw_M (xl x) G yX8_remember cX8_remember 1 none 1 [.ref (G.1 + 189)] τ9 (fv Φ10) ∧ ∀ (τ11 : gw_S), Φ10 τ11 → (∃ Φ12 : gw_S → Prop, gw_M (xl x) G yX8_copy cX8_copy 6 none 0 [.ref (G.1 + 193), .int 0, .ref (G.1 + 192), .int 0, .int 96] τ11 (fv Φ12) ∧ ∀ (τ13 : gw_S), Φ12 τ13 → (Φ (τ13.1 189 20) τ13))) ∧ (¬ ((if 1 ≤ 0 then false else true : Bool) = false) → Φ 0 τ9)))) : PW x G 3 0 [(0, .ref (G.1 + 189)), (1, .int v1)] [] σ := by
  refine pw_iload_n C dX8_round_0 rfl 1 rfl ?_
  refine pw_callS C dX8_round_1 (k_X8_isRule v1 σ ) gm_X8_isRule gl_RX8_270 rfl hR (by decide) (by decide) rfl (Nat.le_of_ble_eq_true rfl) ?_
  rintro _ _ ⟨_, rfl, rfl, rfl⟩
  show PW x G 3 4 [(0, .ref (G.1 + 189)), (1, .int v1)] [.int (gz (if (lg_cmp v1.toInt64 0) < 0 then false else (if 0 < (lg_cmp v1.toInt64 2) then false else true : Bool) : Bool))] σ
  refine pw_istore_n C dX8_round_4 rfl (by decide) rfl ?_
  refine pw_aload_n C dX8_round_5 rfl 1 rfl ?_
  refine pw_iload_n C dX8_round_6 rfl 0 rfl ?_
  refine pw_z_ne (tgt := 14) C dX8_round_7 (by decide) (fun q => ?_) (fun q => ?_)
  · replace h := h.1 q
    refine pw_aload_n C dX8_round_14 rfl 1 rfl ?_
    refine pw_iload_n C dX8_round_15 rfl 2 rfl ?_
    obtain ⟨Φ1, hM, h⟩ := h
    refine pw_callV C dX8_round_16 hM gm_X8_tryRound gl_RX8_273 rfl hR (by decide) (by decide) (by decide) rfl gk_189.1 gk_189.2 rfl (Nat.le_of_ble_eq_true rfl) ?_
    rintro _ τ2 ⟨r3, rfl, hv⟩
    replace h := h r3 τ2 hv
    show PW x G 3 19 [(2, .int (gz (if (lg_cmp v1.toInt64 0) < 0 then false else (if 0 < (lg_cmp v1.toInt64 2) then false else true : Bool) : Bool))), (0, .ref (G.1 + 189)), (1, .int v1)] [.int (gz r3), .ref (G.1 + 189)] τ2
    have hJ : ∀ w0 : Int32, (if r3 = false then 2 else (if (τ2.1 189 22) = 0 then 2 else 0 : Int32) : Int32) = w0 → PW x G 3 34 [(2, .int (gz (if (lg_cmp v1.toInt64 0) < 0 then false else (if 0 < (lg_cmp v1.toInt64 2) then false else true : Bool) : Bool))), (0, .ref (G.1 + 189)), (1, .int v1)] [.int w0, .ref (G.1 + 189)] τ2 := by
      rintro _ rfl
      refine pw_callV C dX8_round_34 (k_X8_refused (if r3 = false then 2 else (if (τ2.1 189 22) = 0 then 2 else 0 : Int32) : Int32) τ2 ) gm_X8_refused gl_RX8_153 rfl hR (by decide) (by decide) (by decide) rfl gk_189.1 gk_189.2 rfl (Nat.le_of_ble_eq_true rfl) ?_
      rintro _ _ ⟨_, rfl, rfl, rfl⟩
      generalize hτ4 : gw_u τ2 189 0 (if r3 = false then 2 else (if (τ2.1 189 22) = 0 then 2 else 0 : Int32) : Int32) = τ4
      replace h := h τ4 hτ4.symm
      show PW x G 3 37 [(2, .int (gz (if (lg_cmp v1.toInt64 0) < 0 then false else (if 0 < (lg_cmp v1.toInt64 2) then false else true : Bool) : Bool))), (0, .ref (G.1 + 189)), (1, .int v1)] [.int (gz (if (if r3 = false then 2 else (if (τ2.1 189 22) = 0 then 2 else 0 : Int32) : Int32) ≤ 0 then false else true : Bool))] τ4
      show PW x G 3 37 [(2, .int (gz (if (lg_cmp v1.toInt64 0) < 0 then false else (if 0 < (lg_cmp v1.toInt64 2) then false else true : Bool) : Bool))), (0, .ref (G.1 + 189)), (1, .int v1)] [.int (gz (if (if r3 = false then 2 else (if (τ2.1 189 22) = 0 then 2 else 0 : Int32) : Int32) ≤ 0 then false else true : Bool))] τ4
      refine pw_z_eq (tgt := 42) C dX8_round_37 (by decide) (fun q => ?_) (fun q => ?_)
      · replace h := h.1 q
        refine pw_aload_n C dX8_round_42 rfl 1 rfl ?_
        obtain ⟨Φ5, hM, h⟩ := h
        refine pw_callV C dX8_round_43 hM gm_X8_remember gl_RX8_252 rfl hR (by decide) (by decide) (by decide) rfl gk_189.1 gk_189.2 rfl (Nat.le_of_ble_eq_true rfl) ?_
        rintro _ τ6 ⟨rfl, hv⟩
        replace h := h τ6 hv
        show PW x G 3 46 [(2, .int (gz (if (lg_cmp v1.toInt64 0) < 0 then false else (if 0 < (lg_cmp v1.toInt64 2) then false else true : Bool) : Bool))), (0, .ref (G.1 + 189)), (1, .int v1)] [] τ6
        refine pw_aload_n C dX8_round_46 rfl 1 rfl ?_
        refine pw_getr C dX8_round_47 gf_RX8_19 gk_189.1 gk_189.2 rfl ?_
        refine pw_iconst (v := 0) C dX8_round_50 (by decide) ?_
        refine pw_aload_n C dX8_round_51 rfl 1 rfl ?_
        refine pw_getr C dX8_round_52 gf_RX8_16 gk_189.1 gk_189.2 rfl ?_
        refine pw_iconst (v := 0) C dX8_round_55 (by decide) ?_
        refine pw_bipush (v := 96) C dX8_round_56 (by decide) ?_
        obtain ⟨Φ7, hM, h⟩ := h
        refine pw_callS C dX8_round_58 hM gm_X8_copy gl_RX8_69 rfl hR (by decide) (by decide) rfl (Nat.le_of_ble_eq_true rfl) ?_
        rintro _ τ8 ⟨rfl, hv⟩
        replace h := h τ8 hv
        show PW x G 3 61 [(2, .int (gz (if (lg_cmp v1.toInt64 0) < 0 then false else (if 0 < (lg_cmp v1.toInt64 2) then false else true : Bool) : Bool))), (0, .ref (G.1 + 189)), (1, .int v1)] [] τ8
        refine pw_aload_n C dX8_round_61 rfl 1 rfl ?_
        refine pw_geti C dX8_round_62 gf_RX8_114 gk_189.1 gk_189.2 rfl ?_
        exact pw_iret C hT dX8_round_65 h
      · replace h := h.2 q
        refine pw_iconst (v := 0) C dX8_round_40 (by decide) ?_
        exact pw_iret C hT dX8_round_41 h
    clear h
    refine pw_z_eq (tgt := 33) C dX8_round_19 (by decide) (fun q2 => ?_) (fun q2 => ?_)
    · refine pw_iconst (v := 2) C dX8_round_33 (by decide) ?_
      exact hJ 2 (if_pos q2)
    · refine pw_aload_n C dX8_round_22 rfl 1 rfl ?_
      refine pw_geti C dX8_round_23 gf_RX8_127 gk_189.1 gk_189.2 rfl ?_
      refine pw_if_eq (tgt := 33) C dX8_round_26 (by decide) (fun q3 => ?_) (fun q3 => ?_)
      · refine pw_iconst (v := 2) C dX8_round_33 (by decide) ?_
        exact hJ 2 ((if_neg q2).trans (if_pos q3))
      · refine pw_iconst (v := 0) C dX8_round_29 (by decide) ?_
        refine pw_goto (tgt := 34) C dX8_round_30 (by decide) ?_
        exact hJ 0 ((if_neg q2).trans (if_neg q3))
  · replace h := h.2 q
    refine pw_iconst (v := 1) C dX8_round_10 (by decide) ?_
    refine pw_goto (tgt := 34) C dX8_round_11 (by decide) ?_
    refine pw_callV C dX8_round_34 (k_X8_refused 1 σ ) gm_X8_refused gl_RX8_153 rfl hR (by decide) (by decide) (by decide) rfl gk_189.1 gk_189.2 rfl (Nat.le_of_ble_eq_true rfl) ?_
    rintro _ _ ⟨_, rfl, rfl, rfl⟩
    generalize hτ9 : gw_u σ 189 0 1 = τ9
    replace h := h τ9 hτ9.symm
    show PW x G 3 37 [(2, .int (gz (if (lg_cmp v1.toInt64 0) < 0 then false else (if 0 < (lg_cmp v1.toInt64 2) then false else true : Bool) : Bool))), (0, .ref (G.1 + 189)), (1, .int v1)] [.int (gz (if 1 ≤ 0 then false else true : Bool))] τ9
    show PW x G 3 37 [(2, .int (gz (if (lg_cmp v1.toInt64 0) < 0 then false else (if 0 < (lg_cmp v1.toInt64 2) then false else true : Bool) : Bool))), (0, .ref (G.1 + 189)), (1, .int v1)] [.int (gz (if 1 ≤ 0 then false else true : Bool))] τ9
    refine pw_z_eq (tgt := 42) C dX8_round_37 (by decide) (fun q => ?_) (fun q => ?_)
    · replace h := h.1 q
      refine pw_aload_n C dX8_round_42 rfl 1 rfl ?_
      obtain ⟨Φ10, hM, h⟩ := h
      refine pw_callV C dX8_round_43 hM gm_X8_remember gl_RX8_252 rfl hR (by decide) (by decide) (by decide) rfl gk_189.1 gk_189.2 rfl (Nat.le_of_ble_eq_true rfl) ?_
      rintro _ τ11 ⟨rfl, hv⟩
      replace h := h τ11 hv
      show PW x G 3 46 [(2, .int (gz (if (lg_cmp v1.toInt64 0) < 0 then false else (if 0 < (lg_cmp v1.toInt64 2) then false else true : Bool) : Bool))), (0, .ref (G.1 + 189)), (1, .int v1)] [] τ11
      refine pw_aload_n C dX8_round_46 rfl 1 rfl ?_
      refine pw_getr C dX8_round_47 gf_RX8_19 gk_189.1 gk_189.2 rfl ?_
      refine pw_iconst (v := 0) C dX8_round_50 (by decide) ?_
      refine pw_aload_n C dX8_round_51 rfl 1 rfl ?_
      refine pw_getr C dX8_round_52 gf_RX8_16 gk_189.1 gk_189.2 rfl ?_
      refine pw_iconst (v := 0) C dX8_round_55 (by decide) ?_
      refine pw_bipush (v := 96) C dX8_round_56 (by decide) ?_
      obtain ⟨Φ12, hM, h⟩ := h
      refine pw_callS C dX8_round_58 hM gm_X8_copy gl_RX8_69 rfl hR (by decide) (by decide) rfl (Nat.le_of_ble_eq_true rfl) ?_
      rintro _ τ13 ⟨rfl, hv⟩
      replace h := h τ13 hv
      show PW x G 3 61 [(2, .int (gz (if (lg_cmp v1.toInt64 0) < 0 then false else (if 0 < (lg_cmp v1.toInt64 2) then false else true : Bool) : Bool))), (0, .ref (G.1 + 189)), (1, .int v1)] [] τ13
      refine pw_aload_n C dX8_round_61 rfl 1 rfl ?_
      refine pw_geti C dX8_round_62 gf_RX8_114 gk_189.1 gk_189.2 rfl ?_
      exact pw_iret C hT dX8_round_65 h
    · replace h := h.2 q
      refine pw_iconst (v := 0) C dX8_round_40 (by decide) ?_
      exact pw_iret C hT dX8_round_41 h
set_option maxRecDepth 4000 in
theorem sg_X8_undo_0 {x : gw_X} {G : gw_G} {Φ : Int32 → gw_S → Prop} (C : XC x G RX8 cX8_undo 1 (some .int)) (hR : gw_ok x 1) (hT : RT x G (fi Φ))  (σ : gw_S)
    (h : ∀ τ1 : gw_S, τ1 = gw_u σ 189 0 (gz (if (σ.1 189 10) = 0 then true else false : Bool)) → (((if (gz (if (σ.1 189 10) = 0 then true else false : Bool)) ≤ 0 then false else true : Bool) = false → ∀ τ2 : gw_S, τ2 = gw_u τ1 189 10 ((τ1.1 189 10) - 1) → (∃ Φ3 : gw_S → Prop, gw_M (xl x) G yX8_copy cX8_copy 6 none 0 [.ref (G.1 + 194), .int (96 * (τ2.1 189 10)), .ref (G.1 + 192), .int 0, .int 96] τ2 (fv Φ3) ∧ ∀ (τ4 : gw_S), Φ3 τ4 → (Φ (τ4.1 189 10) τ4))) ∧ (¬ ((if (gz (if (σ.1 189 10) = 0 then true else false : Bool)) ≤ 0 then false else true : Bool) = false) → Φ 0 τ1))) : PW x G 1 0 [(0, .ref (G.1 + 189))] [] σ := by
  refine pw_aload_n C dX8_undo_0 rfl 0 rfl ?_
  refine pw_aload_n C dX8_undo_1 rfl 0 rfl ?_
  refine pw_geti C dX8_undo_2 gf_RX8_66 gk_189.1 gk_189.2 rfl ?_
  have hJ : ∀ w0 : Bool, (if (σ.1 189 10) = 0 then true else false : Bool) = w0 → PW x G 1 13 [(0, .ref (G.1 + 189))] [.int (gz w0), .ref (G.1 + 189)] σ := by
    rintro _ rfl
    refine pw_callV C dX8_undo_13 (k_X8_refused (gz (if (σ.1 189 10) = 0 then true else false : Bool)) σ ) gm_X8_refused gl_RX8_153 rfl hR (by decide) (by decide) (by decide) rfl gk_189.1 gk_189.2 rfl (Nat.le_of_ble_eq_true rfl) ?_
    rintro _ _ ⟨_, rfl, rfl, rfl⟩
    generalize hτ1 : gw_u σ 189 0 (gz (if (σ.1 189 10) = 0 then true else false : Bool)) = τ1
    replace h := h τ1 hτ1.symm
    show PW x G 1 16 [(0, .ref (G.1 + 189))] [.int (gz (if (gz (if (σ.1 189 10) = 0 then true else false : Bool)) ≤ 0 then false else true : Bool))] τ1
    show PW x G 1 16 [(0, .ref (G.1 + 189))] [.int (gz (if (gz (if (σ.1 189 10) = 0 then true else false : Bool)) ≤ 0 then false else true : Bool))] τ1
    refine pw_z_eq (tgt := 21) C dX8_undo_16 (by decide) (fun q => ?_) (fun q => ?_)
    · replace h := h.1 q
      refine pw_aload_n C dX8_undo_21 rfl 0 rfl ?_
      refine pw_dup C dX8_undo_22 rfl ?_
      refine pw_geti C dX8_undo_23 gf_RX8_66 gk_189.1 gk_189.2 rfl ?_
      refine pw_iconst (v := 1) C dX8_undo_26 (by decide) ?_
      refine pw_isub C dX8_undo_27 ?_
      refine pw_puti C dX8_undo_28 gf_RX8_66 rfl rfl rfl gk_189.1 gk_189.2 rfl ?_
      generalize hτ2 : gw_u τ1 189 10 ((τ1.1 189 10) - 1) = τ2
      replace h := h τ2 hτ2.symm
      show PW x G 1 31 [(0, .ref (G.1 + 189))] [] τ2
      refine pw_aload_n C dX8_undo_31 rfl 0 rfl ?_
      refine pw_getr C dX8_undo_32 gf_RX8_22 gk_189.1 gk_189.2 rfl ?_
      refine pw_bipush (v := 96) C dX8_undo_35 (by decide) ?_
      refine pw_aload_n C dX8_undo_37 rfl 0 rfl ?_
      refine pw_geti C dX8_undo_38 gf_RX8_66 gk_189.1 gk_189.2 rfl ?_
      refine pw_imul C dX8_undo_41 ?_
      refine pw_aload_n C dX8_undo_42 rfl 0 rfl ?_
      refine pw_getr C dX8_undo_43 gf_RX8_16 gk_189.1 gk_189.2 rfl ?_
      refine pw_iconst (v := 0) C dX8_undo_46 (by decide) ?_
      refine pw_bipush (v := 96) C dX8_undo_47 (by decide) ?_
      obtain ⟨Φ3, hM, h⟩ := h
      refine pw_callS C dX8_undo_49 hM gm_X8_copy gl_RX8_69 rfl hR (by decide) (by decide) rfl (Nat.le_of_ble_eq_true rfl) ?_
      rintro _ τ4 ⟨rfl, hv⟩
      replace h := h τ4 hv
      show PW x G 1 52 [(0, .ref (G.1 + 189))] [] τ4
      refine pw_aload_n C dX8_undo_52 rfl 0 rfl ?_
      refine pw_geti C dX8_undo_53 gf_RX8_66 gk_189.1 gk_189.2 rfl ?_
      exact pw_iret C hT dX8_undo_56 h
    · replace h := h.2 q
      refine pw_iconst (v := 0) C dX8_undo_19 (by decide) ?_
      exact pw_iret C hT dX8_undo_20 h
  clear h
  refine pw_if_ne (tgt := 12) C dX8_undo_5 (by decide) (fun q1 => ?_) (fun q1 => ?_)
  · refine pw_iconst (v := 0) C dX8_undo_12 (by decide) ?_
    exact hJ false (if_neg q1)
  · refine pw_iconst (v := 1) C dX8_undo_8 (by decide) ?_
    refine pw_goto (tgt := 13) C dX8_undo_9 (by decide) ?_
    exact hJ true (if_pos q1)
set_option maxRecDepth 4000 in
theorem sg_X8_order_0 {x : gw_X} {G : gw_G} {Φ : Int32 → gw_S → Prop} (C : XC x G RX8 cX8_order 3 (some .int)) (hR : gw_ok x 6) (hT : RT x G (fi Φ)) (v1 : Int32) (v2 : Int32) (σ : gw_S)
    (h : ∀ τ1 : gw_S, τ1 = gw_u σ 189 0 (gz (if (if (lg_cmp v1.toInt64 0) < 0 then false else (if 0 < (lg_cmp v1.toInt64 2) then false else true : Bool) : Bool) = false then true else (if v2 < 0 then true else false : Bool) : Bool)) → (((if (gz (if (if (lg_cmp v1.toInt64 0) < 0 then false else (if 0 < (lg_cmp v1.toInt64 2) then false else true : Bool) : Bool) = false then true else (if v2 < 0 then true else false : Bool) : Bool)) ≤ 0 then false else true : Bool) = false → ∃ Φ2 : Bool → gw_S → Prop, gw_M (xl x) G yX8_tryRound cX8_tryRound 3 (some .boolean) 5 [.ref (G.1 + 189), .int v1] τ1 (fz Φ2) ∧ ∀ (r4 : Bool) (τ3 : gw_S), Φ2 r4 τ3 → (((r4 = false → True) ∧ (¬ (r4 = false) → (((τ3.1 189 20) ≤ v2 → True) ∧ (¬ ((τ3.1 189 20) ≤ v2) → vp_in v2 480 ∧ (True))))) ∧ (Φ (if r4 = false then (-1) else (if (τ3.1 189 20) ≤ v2 then (-1) else τ3.1 202 v2.toNatClampNeg : Int32) : Int32) τ3))) ∧ (¬ ((if (gz (if (if (lg_cmp v1.toInt64 0) < 0 then false else (if 0 < (lg_cmp v1.toInt64 2) then false else true : Bool) : Bool) = false then true else (if v2 < 0 then true else false : Bool) : Bool)) ≤ 0 then false else true : Bool) = false) → Φ 0 τ1))) : PW x G 3 0 [(0, .ref (G.1 + 189)), (1, .int v1), (2, .int v2)] [] σ := by
  refine pw_aload_n C dX8_order_0 rfl 0 rfl ?_
  refine pw_iload_n C dX8_order_1 rfl 1 rfl ?_
  refine pw_callS C dX8_order_2 (k_X8_isRule v1 σ ) gm_X8_isRule gl_RX8_270 rfl hR (by decide) (by decide) rfl (Nat.le_of_ble_eq_true rfl) ?_
  rintro _ _ ⟨_, rfl, rfl, rfl⟩
  show PW x G 3 5 [(0, .ref (G.1 + 189)), (1, .int v1), (2, .int v2)] [.int (gz (if (lg_cmp v1.toInt64 0) < 0 then false else (if 0 < (lg_cmp v1.toInt64 2) then false else true : Bool) : Bool)), .ref (G.1 + 189)] σ
  have hJ : ∀ w0 : Bool, (if (if (lg_cmp v1.toInt64 0) < 0 then false else (if 0 < (lg_cmp v1.toInt64 2) then false else true : Bool) : Bool) = false then true else (if v2 < 0 then true else false : Bool) : Bool) = w0 → PW x G 3 17 [(0, .ref (G.1 + 189)), (1, .int v1), (2, .int v2)] [.int (gz w0), .ref (G.1 + 189)] σ := by
    rintro _ rfl
    refine pw_callV C dX8_order_17 (k_X8_refused (gz (if (if (lg_cmp v1.toInt64 0) < 0 then false else (if 0 < (lg_cmp v1.toInt64 2) then false else true : Bool) : Bool) = false then true else (if v2 < 0 then true else false : Bool) : Bool)) σ ) gm_X8_refused gl_RX8_153 rfl hR (by decide) (by decide) (by decide) rfl gk_189.1 gk_189.2 rfl (Nat.le_of_ble_eq_true rfl) ?_
    rintro _ _ ⟨_, rfl, rfl, rfl⟩
    generalize hτ1 : gw_u σ 189 0 (gz (if (if (lg_cmp v1.toInt64 0) < 0 then false else (if 0 < (lg_cmp v1.toInt64 2) then false else true : Bool) : Bool) = false then true else (if v2 < 0 then true else false : Bool) : Bool)) = τ1
    replace h := h τ1 hτ1.symm
    show PW x G 3 20 [(0, .ref (G.1 + 189)), (1, .int v1), (2, .int v2)] [.int (gz (if (gz (if (if (lg_cmp v1.toInt64 0) < 0 then false else (if 0 < (lg_cmp v1.toInt64 2) then false else true : Bool) : Bool) = false then true else (if v2 < 0 then true else false : Bool) : Bool)) ≤ 0 then false else true : Bool))] τ1
    show PW x G 3 20 [(0, .ref (G.1 + 189)), (1, .int v1), (2, .int v2)] [.int (gz (if (gz (if (if (lg_cmp v1.toInt64 0) < 0 then false else (if 0 < (lg_cmp v1.toInt64 2) then false else true : Bool) : Bool) = false then true else (if v2 < 0 then true else false : Bool) : Bool)) ≤ 0 then false else true : Bool))] τ1
    refine pw_z_eq (tgt := 25) C dX8_order_20 (by decide) (fun q => ?_) (fun q => ?_)
    · replace h := h.1 q
      refine pw_aload_n C dX8_order_25 rfl 0 rfl ?_
      refine pw_iload_n C dX8_order_26 rfl 1 rfl ?_
      obtain ⟨Φ2, hM, h⟩ := h
      refine pw_callV C dX8_order_27 hM gm_X8_tryRound gl_RX8_273 rfl hR (by decide) (by decide) (by decide) rfl gk_189.1 gk_189.2 rfl (Nat.le_of_ble_eq_true rfl) ?_
      rintro _ τ3 ⟨r4, rfl, hv⟩
      replace h := h r4 τ3 hv
      show PW x G 3 30 [(0, .ref (G.1 + 189)), (1, .int v1), (2, .int v2)] [.int (gz r4)] τ3
      obtain ⟨hs, h⟩ := h
      have hJ : ∀ w0 : Int32, (if r4 = false then (-1) else (if (τ3.1 189 20) ≤ v2 then (-1) else τ3.1 202 v2.toNatClampNeg : Int32) : Int32) = w0 → PW x G 3 51 [(0, .ref (G.1 + 189)), (1, .int v1), (2, .int v2)] [.int w0] τ3 := by
        rintro _ rfl
        exact pw_iret C hT dX8_order_51 h
      clear h
      refine pw_z_eq (tgt := 50) C dX8_order_30 (by decide) (fun q3 => ?_) (fun q3 => ?_)
      · replace hs := hs.1 q3
        refine pw_iconst (v := (-1)) C dX8_order_50 (by decide) ?_
        exact hJ (-1) (if_pos q3)
      · replace hs := hs.2 q3
        refine pw_iload_n C dX8_order_33 rfl 2 rfl ?_
        refine pw_aload_n C dX8_order_34 rfl 0 rfl ?_
        refine pw_geti C dX8_order_35 gf_RX8_114 gk_189.1 gk_189.2 rfl ?_
        refine pw_icmp_ge (tgt := 50) C dX8_order_38 (by decide) (fun q4 => ?_) (fun q4 => ?_)
        · replace hs := hs.1 q4
          refine pw_iconst (v := (-1)) C dX8_order_50 (by decide) ?_
          exact hJ (-1) ((if_neg q3).trans (if_pos q4))
        · replace hs := hs.2 q4
          refine pw_aload_n C dX8_order_41 rfl 0 rfl ?_
          refine pw_getr C dX8_order_42 gf_RX8_48 gk_189.1 gk_189.2 rfl ?_
          refine pw_iload_n C dX8_order_45 rfl 2 rfl ?_
          obtain ⟨g5, hs⟩ := hs
          refine pw_iald C dX8_order_46 gk_202.1 gk_202.2 g5 ?_
          refine pw_goto (tgt := 51) C dX8_order_47 (by decide) ?_
          exact hJ (τ3.1 202 v2.toNatClampNeg) ((if_neg q3).trans (if_neg q4))
    · replace h := h.2 q
      refine pw_iconst (v := 0) C dX8_order_23 (by decide) ?_
      exact pw_iret C hT dX8_order_24 h
  clear h
  refine pw_z_eq (tgt := 16) C dX8_order_5 (by decide) (fun q1 => ?_) (fun q1 => ?_)
  · refine pw_iconst (v := 1) C dX8_order_16 (by decide) ?_
    exact hJ true (if_pos q1)
  · refine pw_iload_n C dX8_order_8 rfl 2 rfl ?_
    refine pw_if_lt (tgt := 16) C dX8_order_9 (by decide) (fun q2 => ?_) (fun q2 => ?_)
    · refine pw_iconst (v := 1) C dX8_order_16 (by decide) ?_
      exact hJ true ((if_neg q1).trans (if_pos q2))
    · refine pw_iconst (v := 0) C dX8_order_12 (by decide) ?_
      refine pw_goto (tgt := 17) C dX8_order_13 (by decide) ?_
      exact hJ false ((if_neg q1).trans (if_neg q2))
set_option maxRecDepth 4000 in
theorem sg_X8_sticks_0 {x : gw_X} {G : gw_G} {Φ : Int32 → gw_S → Prop} (C : XC x G RX8 cX8_sticks 2 (some .int)) (hR : gw_ok x 6) (hT : RT x G (fi Φ)) (v1 : Int32) (σ : gw_S)
    (h : ∀ τ1 : gw_S, τ1 = gw_u σ 189 0 (gz (if (if (lg_cmp v1.toInt64 0) < 0 then false else (if 0 < (lg_cmp v1.toInt64 2) then false else true : Bool) : Bool) = false then true else false : Bool)) → (((if (gz (if (if (lg_cmp v1.toInt64 0) < 0 then false else (if 0 < (lg_cmp v1.toInt64 2) then false else true : Bool) : Bool) = false then true else false : Bool)) ≤ 0 then false else true : Bool) = false → ∃ Φ2 : Bool → gw_S → Prop, gw_M (xl x) G yX8_tryRound cX8_tryRound 3 (some .boolean) 5 [.ref (G.1 + 189), .int v1] τ1 (fz Φ2) ∧ ∀ (r4 : Bool) (τ3 : gw_S), Φ2 r4 τ3 → (Φ (if r4 = false then (-1) else (if (τ3.1 189 22) = 0 then τ3.1 189 20 else (-1) : Int32) : Int32) τ3)) ∧ (¬ ((if (gz (if (if (lg_cmp v1.toInt64 0) < 0 then false else (if 0 < (lg_cmp v1.toInt64 2) then false else true : Bool) : Bool) = false then true else false : Bool)) ≤ 0 then false else true : Bool) = false) → Φ 0 τ1))) : PW x G 2 0 [(0, .ref (G.1 + 189)), (1, .int v1)] [] σ := by
  refine pw_aload_n C dX8_sticks_0 rfl 0 rfl ?_
  refine pw_iload_n C dX8_sticks_1 rfl 1 rfl ?_
  refine pw_callS C dX8_sticks_2 (k_X8_isRule v1 σ ) gm_X8_isRule gl_RX8_270 rfl hR (by decide) (by decide) rfl (Nat.le_of_ble_eq_true rfl) ?_
  rintro _ _ ⟨_, rfl, rfl, rfl⟩
  show PW x G 2 5 [(0, .ref (G.1 + 189)), (1, .int v1)] [.int (gz (if (lg_cmp v1.toInt64 0) < 0 then false else (if 0 < (lg_cmp v1.toInt64 2) then false else true : Bool) : Bool)), .ref (G.1 + 189)] σ
  have hJ : ∀ w0 : Bool, (if (if (lg_cmp v1.toInt64 0) < 0 then false else (if 0 < (lg_cmp v1.toInt64 2) then false else true : Bool) : Bool) = false then true else false : Bool) = w0 → PW x G 2 13 [(0, .ref (G.1 + 189)), (1, .int v1)] [.int (gz w0), .ref (G.1 + 189)] σ := by
    rintro _ rfl
    refine pw_callV C dX8_sticks_13 (k_X8_refused (gz (if (if (lg_cmp v1.toInt64 0) < 0 then false else (if 0 < (lg_cmp v1.toInt64 2) then false else true : Bool) : Bool) = false then true else false : Bool)) σ ) gm_X8_refused gl_RX8_153 rfl hR (by decide) (by decide) (by decide) rfl gk_189.1 gk_189.2 rfl (Nat.le_of_ble_eq_true rfl) ?_
    rintro _ _ ⟨_, rfl, rfl, rfl⟩
    generalize hτ1 : gw_u σ 189 0 (gz (if (if (lg_cmp v1.toInt64 0) < 0 then false else (if 0 < (lg_cmp v1.toInt64 2) then false else true : Bool) : Bool) = false then true else false : Bool)) = τ1
    replace h := h τ1 hτ1.symm
    show PW x G 2 16 [(0, .ref (G.1 + 189)), (1, .int v1)] [.int (gz (if (gz (if (if (lg_cmp v1.toInt64 0) < 0 then false else (if 0 < (lg_cmp v1.toInt64 2) then false else true : Bool) : Bool) = false then true else false : Bool)) ≤ 0 then false else true : Bool))] τ1
    show PW x G 2 16 [(0, .ref (G.1 + 189)), (1, .int v1)] [.int (gz (if (gz (if (if (lg_cmp v1.toInt64 0) < 0 then false else (if 0 < (lg_cmp v1.toInt64 2) then false else true : Bool) : Bool) = false then true else false : Bool)) ≤ 0 then false else true : Bool))] τ1
    refine pw_z_eq (tgt := 21) C dX8_sticks_16 (by decide) (fun q => ?_) (fun q => ?_)
    · replace h := h.1 q
      refine pw_aload_n C dX8_sticks_21 rfl 0 rfl ?_
      refine pw_iload_n C dX8_sticks_22 rfl 1 rfl ?_
      obtain ⟨Φ2, hM, h⟩ := h
      refine pw_callV C dX8_sticks_23 hM gm_X8_tryRound gl_RX8_273 rfl hR (by decide) (by decide) (by decide) rfl gk_189.1 gk_189.2 rfl (Nat.le_of_ble_eq_true rfl) ?_
      rintro _ τ3 ⟨r4, rfl, hv⟩
      replace h := h r4 τ3 hv
      show PW x G 2 26 [(0, .ref (G.1 + 189)), (1, .int v1)] [.int (gz r4)] τ3
      have hJ : ∀ w0 : Int32, (if r4 = false then (-1) else (if (τ3.1 189 22) = 0 then τ3.1 189 20 else (-1) : Int32) : Int32) = w0 → PW x G 2 44 [(0, .ref (G.1 + 189)), (1, .int v1)] [.int w0] τ3 := by
        rintro _ rfl
        exact pw_iret C hT dX8_sticks_44 h
      clear h
      refine pw_z_eq (tgt := 43) C dX8_sticks_26 (by decide) (fun q3 => ?_) (fun q3 => ?_)
      · refine pw_iconst (v := (-1)) C dX8_sticks_43 (by decide) ?_
        exact hJ (-1) (if_pos q3)
      · refine pw_aload_n C dX8_sticks_29 rfl 0 rfl ?_
        refine pw_geti C dX8_sticks_30 gf_RX8_127 gk_189.1 gk_189.2 rfl ?_
        refine pw_if_ne (tgt := 43) C dX8_sticks_33 (by decide) (fun q4 => ?_) (fun q4 => ?_)
        · refine pw_iconst (v := (-1)) C dX8_sticks_43 (by decide) ?_
          exact hJ (-1) ((if_neg q3).trans (if_neg q4))
        · refine pw_aload_n C dX8_sticks_36 rfl 0 rfl ?_
          refine pw_geti C dX8_sticks_37 gf_RX8_114 gk_189.1 gk_189.2 rfl ?_
          refine pw_goto (tgt := 44) C dX8_sticks_40 (by decide) ?_
          exact hJ (τ3.1 189 20) ((if_neg q3).trans (if_pos q4))
    · replace h := h.2 q
      refine pw_iconst (v := 0) C dX8_sticks_19 (by decide) ?_
      exact pw_iret C hT dX8_sticks_20 h
  clear h
  refine pw_z_eq (tgt := 12) C dX8_sticks_5 (by decide) (fun q1 => ?_) (fun q1 => ?_)
  · refine pw_iconst (v := 1) C dX8_sticks_12 (by decide) ?_
    exact hJ true (if_pos q1)
  · refine pw_iconst (v := 0) C dX8_sticks_8 (by decide) ?_
    refine pw_goto (tgt := 13) C dX8_sticks_9 (by decide) ?_
    exact hJ false (if_neg q1)
set_option maxRecDepth 4000 in
theorem sg_X8_holds_0 {x : gw_X} {G : gw_G} {Φ : Int32 → gw_S → Prop} (C : XC x G RX8 cX8_holds 3 (some .int)) (hR : gw_ok x 6) (hT : RT x G (fi Φ)) (v1 : Int32) (v2 : Int32) (σ : gw_S)
    (h : ∀ τ1 : gw_S, τ1 = gw_u σ 189 0 (if (if (lg_cmp v1.toInt64 0) < 0 then false else (if 0 < (lg_cmp v1.toInt64 (((σ.1 192 ((1 : Int32).toNatClampNeg)) - 1).toInt64)) then false else true : Bool) : Bool) = false then 1 else (if (if (lg_cmp v2.toInt64 0) < 0 then false else (if 0 < (lg_cmp v2.toInt64 2) then false else true : Bool) : Bool) = false then 2 else 0 : Int32) : Int32) → (((if (if (if (lg_cmp v1.toInt64 0) < 0 then false else (if 0 < (lg_cmp v1.toInt64 (((σ.1 192 ((1 : Int32).toNatClampNeg)) - 1).toInt64)) then false else true : Bool) : Bool) = false then 1 else (if (if (lg_cmp v2.toInt64 0) < 0 then false else (if 0 < (lg_cmp v2.toInt64 2) then false else true : Bool) : Bool) = false then 2 else 0 : Int32) : Int32) ≤ 0 then false else true : Bool) = false → ∃ Φ2 : Bool → gw_S → Prop, gw_M (xl x) G yX8_tryRound cX8_tryRound 3 (some .boolean) 5 [.ref (G.1 + 189), .int v2] τ1 (fz Φ2) ∧ ∀ (r4 : Bool) (τ3 : gw_S), Φ2 r4 τ3 → (((r4 = false → True) ∧ (¬ (r4 = false) → vp_in v1 14 ∧ (True))) ∧ (Φ (if r4 = false then (-1) else τ3.1 203 v1.toNatClampNeg : Int32) τ3))) ∧ (¬ ((if (if (if (lg_cmp v1.toInt64 0) < 0 then false else (if 0 < (lg_cmp v1.toInt64 (((σ.1 192 ((1 : Int32).toNatClampNeg)) - 1).toInt64)) then false else true : Bool) : Bool) = false then 1 else (if (if (lg_cmp v2.toInt64 0) < 0 then false else (if 0 < (lg_cmp v2.toInt64 2) then false else true : Bool) : Bool) = false then 2 else 0 : Int32) : Int32) ≤ 0 then false else true : Bool) = false) → Φ 0 τ1))) : PW x G 3 0 [(0, .ref (G.1 + 189)), (1, .int v1), (2, .int v2)] [] σ := by
  refine pw_aload_n C dX8_holds_0 rfl 0 rfl ?_
  refine pw_aload_n C dX8_holds_1 rfl 0 rfl ?_
  refine pw_iload_n C dX8_holds_2 rfl 1 rfl ?_
  refine pw_callV C dX8_holds_3 (k_X8_isWire v1 σ ) gm_X8_isWire gl_RX8_242 rfl hR (by decide) (by decide) (by decide) rfl gk_189.1 gk_189.2 rfl (Nat.le_of_ble_eq_true rfl) ?_
  rintro _ _ ⟨_, rfl, rfl, rfl⟩
  show PW x G 3 6 [(0, .ref (G.1 + 189)), (1, .int v1), (2, .int v2)] [.int (gz (if (lg_cmp v1.toInt64 0) < 0 then false else (if 0 < (lg_cmp v1.toInt64 (((σ.1 192 ((1 : Int32).toNatClampNeg)) - 1).toInt64)) then false else true : Bool) : Bool)), .ref (G.1 + 189)] σ
  have hJ : ∀ w0 : Int32, (if (if (lg_cmp v1.toInt64 0) < 0 then false else (if 0 < (lg_cmp v1.toInt64 (((σ.1 192 ((1 : Int32).toNatClampNeg)) - 1).toInt64)) then false else true : Bool) : Bool) = false then 1 else (if (if (lg_cmp v2.toInt64 0) < 0 then false else (if 0 < (lg_cmp v2.toInt64 2) then false else true : Bool) : Bool) = false then 2 else 0 : Int32) : Int32) = w0 → PW x G 3 25 [(0, .ref (G.1 + 189)), (1, .int v1), (2, .int v2)] [.int w0, .ref (G.1 + 189)] σ := by
    rintro _ rfl
    refine pw_callV C dX8_holds_25 (k_X8_refused (if (if (lg_cmp v1.toInt64 0) < 0 then false else (if 0 < (lg_cmp v1.toInt64 (((σ.1 192 ((1 : Int32).toNatClampNeg)) - 1).toInt64)) then false else true : Bool) : Bool) = false then 1 else (if (if (lg_cmp v2.toInt64 0) < 0 then false else (if 0 < (lg_cmp v2.toInt64 2) then false else true : Bool) : Bool) = false then 2 else 0 : Int32) : Int32) σ ) gm_X8_refused gl_RX8_153 rfl hR (by decide) (by decide) (by decide) rfl gk_189.1 gk_189.2 rfl (Nat.le_of_ble_eq_true rfl) ?_
    rintro _ _ ⟨_, rfl, rfl, rfl⟩
    generalize hτ1 : gw_u σ 189 0 (if (if (lg_cmp v1.toInt64 0) < 0 then false else (if 0 < (lg_cmp v1.toInt64 (((σ.1 192 ((1 : Int32).toNatClampNeg)) - 1).toInt64)) then false else true : Bool) : Bool) = false then 1 else (if (if (lg_cmp v2.toInt64 0) < 0 then false else (if 0 < (lg_cmp v2.toInt64 2) then false else true : Bool) : Bool) = false then 2 else 0 : Int32) : Int32) = τ1
    replace h := h τ1 hτ1.symm
    show PW x G 3 28 [(0, .ref (G.1 + 189)), (1, .int v1), (2, .int v2)] [.int (gz (if (if (if (lg_cmp v1.toInt64 0) < 0 then false else (if 0 < (lg_cmp v1.toInt64 (((σ.1 192 ((1 : Int32).toNatClampNeg)) - 1).toInt64)) then false else true : Bool) : Bool) = false then 1 else (if (if (lg_cmp v2.toInt64 0) < 0 then false else (if 0 < (lg_cmp v2.toInt64 2) then false else true : Bool) : Bool) = false then 2 else 0 : Int32) : Int32) ≤ 0 then false else true : Bool))] τ1
    show PW x G 3 28 [(0, .ref (G.1 + 189)), (1, .int v1), (2, .int v2)] [.int (gz (if (if (if (lg_cmp v1.toInt64 0) < 0 then false else (if 0 < (lg_cmp v1.toInt64 (((σ.1 192 ((1 : Int32).toNatClampNeg)) - 1).toInt64)) then false else true : Bool) : Bool) = false then 1 else (if (if (lg_cmp v2.toInt64 0) < 0 then false else (if 0 < (lg_cmp v2.toInt64 2) then false else true : Bool) : Bool) = false then 2 else 0 : Int32) : Int32) ≤ 0 then false else true : Bool))] τ1
    refine pw_z_eq (tgt := 33) C dX8_holds_28 (by decide) (fun q => ?_) (fun q => ?_)
    · replace h := h.1 q
      refine pw_aload_n C dX8_holds_33 rfl 0 rfl ?_
      refine pw_iload_n C dX8_holds_34 rfl 2 rfl ?_
      obtain ⟨Φ2, hM, h⟩ := h
      refine pw_callV C dX8_holds_35 hM gm_X8_tryRound gl_RX8_273 rfl hR (by decide) (by decide) (by decide) rfl gk_189.1 gk_189.2 rfl (Nat.le_of_ble_eq_true rfl) ?_
      rintro _ τ3 ⟨r4, rfl, hv⟩
      replace h := h r4 τ3 hv
      show PW x G 3 38 [(0, .ref (G.1 + 189)), (1, .int v1), (2, .int v2)] [.int (gz r4)] τ3
      obtain ⟨hs, h⟩ := h
      have hJ : ∀ w0 : Int32, (if r4 = false then (-1) else τ3.1 203 v1.toNatClampNeg : Int32) = w0 → PW x G 3 51 [(0, .ref (G.1 + 189)), (1, .int v1), (2, .int v2)] [.int w0] τ3 := by
        rintro _ rfl
        exact pw_iret C hT dX8_holds_51 h
      clear h
      refine pw_z_eq (tgt := 50) C dX8_holds_38 (by decide) (fun q3 => ?_) (fun q3 => ?_)
      · replace hs := hs.1 q3
        refine pw_iconst (v := (-1)) C dX8_holds_50 (by decide) ?_
        exact hJ (-1) (if_pos q3)
      · replace hs := hs.2 q3
        refine pw_aload_n C dX8_holds_41 rfl 0 rfl ?_
        refine pw_getr C dX8_holds_42 gf_RX8_51 gk_189.1 gk_189.2 rfl ?_
        refine pw_iload_n C dX8_holds_45 rfl 1 rfl ?_
        obtain ⟨g5, hs⟩ := hs
        refine pw_iald C dX8_holds_46 gk_203.1 gk_203.2 g5 ?_
        refine pw_goto (tgt := 51) C dX8_holds_47 (by decide) ?_
        exact hJ (τ3.1 203 v1.toNatClampNeg) (if_neg q3)
    · replace h := h.2 q
      refine pw_iconst (v := 0) C dX8_holds_31 (by decide) ?_
      exact pw_iret C hT dX8_holds_32 h
  clear h
  refine pw_z_ne (tgt := 13) C dX8_holds_6 (by decide) (fun q1 => ?_) (fun q1 => ?_)
  · refine pw_iload_n C dX8_holds_13 rfl 2 rfl ?_
    refine pw_callS C dX8_holds_14 (k_X8_isRule v2 σ ) gm_X8_isRule gl_RX8_270 rfl hR (by decide) (by decide) rfl (Nat.le_of_ble_eq_true rfl) ?_
    rintro _ _ ⟨_, rfl, rfl, rfl⟩
    show PW x G 3 17 [(0, .ref (G.1 + 189)), (1, .int v1), (2, .int v2)] [.int (gz (if (lg_cmp v2.toInt64 0) < 0 then false else (if 0 < (lg_cmp v2.toInt64 2) then false else true : Bool) : Bool)), .ref (G.1 + 189)] σ
    refine pw_z_eq (tgt := 24) C dX8_holds_17 (by decide) (fun q2 => ?_) (fun q2 => ?_)
    · refine pw_iconst (v := 2) C dX8_holds_24 (by decide) ?_
      exact hJ 2 ((if_neg q1).trans (if_pos q2))
    · refine pw_iconst (v := 0) C dX8_holds_20 (by decide) ?_
      refine pw_goto (tgt := 25) C dX8_holds_21 (by decide) ?_
      exact hJ 0 ((if_neg q1).trans (if_neg q2))
  · refine pw_iconst (v := 1) C dX8_holds_9 (by decide) ?_
    refine pw_goto (tgt := 25) C dX8_holds_10 (by decide) ?_
    exact hJ 1 (if_pos q1)
set_option maxRecDepth 4000 in
theorem sg_X8_bestRule_0 {x : gw_X} {G : gw_G} {Φ : Int32 → gw_S → Prop} (C : XC x G RX8 cX8_bestRule 7 (some .int)) (hR : gw_ok x 6) (hT : RT x G (fi Φ))  (σ : gw_S)
    (h : ∀ τ1 : gw_S, τ1 = gw_u σ 189 0 0 → (PW x G 7 11 [(0, .ref (G.1 + 189)), (1, .int (-1)), (2, .int 0), (3, .int 0)] [] τ1)) : PW x G 7 0 [(0, .ref (G.1 + 189))] [] σ := by
  refine pw_aload_n C dX8_bestRule_0 rfl 0 rfl ?_
  refine pw_iconst (v := 0) C dX8_bestRule_1 (by decide) ?_
  refine pw_puti C dX8_bestRule_2 gf_RX8_60 rfl rfl rfl gk_189.1 gk_189.2 rfl ?_
  generalize hτ1 : gw_u σ 189 0 0 = τ1
  replace h := h τ1 hτ1.symm
  show PW x G 7 5 [(0, .ref (G.1 + 189))] [] τ1
  refine pw_iconst (v := (-1)) C dX8_bestRule_5 (by decide) ?_
  refine pw_istore_n C dX8_bestRule_6 rfl (by decide) rfl ?_
  refine pw_iconst (v := 0) C dX8_bestRule_7 (by decide) ?_
  refine pw_istore_n C dX8_bestRule_8 rfl (by decide) rfl ?_
  refine pw_iconst (v := 0) C dX8_bestRule_9 (by decide) ?_
  refine pw_istore_n C dX8_bestRule_10 rfl (by decide) rfl ?_
  exact pw_sub [3, 2, 1, 0] rfl h
set_option maxRecDepth 4000 in
theorem sg_X8_bestRule_11 {x : gw_X} {G : gw_G} {Φ : Int32 → gw_S → Prop} (C : XC x G RX8 cX8_bestRule 7 (some .int)) (hR : gw_ok x 6) (hT : RT x G (fi Φ)) (v1 : Int32) (v2 : Int32) (v3 : Int32) (σ : gw_S)
    (h : (3 ≤ v3 → Φ v1 σ) ∧ (¬ (3 ≤ v3) → ∃ Φ1 : Bool → gw_S → Prop, gw_M (xl x) G yX8_tryRound cX8_tryRound 3 (some .boolean) 5 [.ref (G.1 + 189), .int v3] σ (fz Φ1) ∧ ∀ (r3 : Bool) (τ2 : gw_S), Φ1 r3 τ2 → (PW x G 7 44 [(0, .ref (G.1 + 189)), (1, .int v1), (2, .int v2), (3, .int v3), (4, .int (gz (if r3 = false then false else (if (τ2.1 189 22) = 0 then false else true : Bool) : Bool))), (5, .int 0), (6, .int 0)] [] τ2))) : PW x G 7 11 [(0, .ref (G.1 + 189)), (1, .int v1), (2, .int v2), (3, .int v3)] [] σ := by
  refine pw_iload_n C dX8_bestRule_11 rfl 3 rfl ?_
  refine pw_iconst (v := 3) C dX8_bestRule_12 (by decide) ?_
  refine pw_icmp_ge (tgt := 125) C dX8_bestRule_13 (by decide) (fun q => ?_) (fun q => ?_)
  · replace h := h.1 q
    refine pw_iload_n C dX8_bestRule_125 rfl 1 rfl ?_
    exact pw_iret C hT dX8_bestRule_126 h
  · replace h := h.2 q
    refine pw_aload_n C dX8_bestRule_16 rfl 0 rfl ?_
    refine pw_iload_n C dX8_bestRule_17 rfl 3 rfl ?_
    obtain ⟨Φ1, hM, h⟩ := h
    refine pw_callV C dX8_bestRule_18 hM gm_X8_tryRound gl_RX8_273 rfl hR (by decide) (by decide) (by decide) rfl gk_189.1 gk_189.2 rfl (Nat.le_of_ble_eq_true rfl) ?_
    rintro _ τ2 ⟨r3, rfl, hv⟩
    replace h := h r3 τ2 hv
    show PW x G 7 21 [(0, .ref (G.1 + 189)), (1, .int v1), (2, .int v2), (3, .int v3)] [.int (gz r3)] τ2
    have hJ : ∀ w0 : Bool, (if r3 = false then false else (if (τ2.1 189 22) = 0 then false else true : Bool) : Bool) = w0 → PW x G 7 36 [(0, .ref (G.1 + 189)), (1, .int v1), (2, .int v2), (3, .int v3)] [.int (gz w0)] τ2 := by
      rintro _ rfl
      refine pw_istore C dX8_bestRule_36 (by decide) rfl ?_
      refine pw_iconst (v := 0) C dX8_bestRule_38 (by decide) ?_
      refine pw_istore C dX8_bestRule_39 (by decide) rfl ?_
      refine pw_iconst (v := 0) C dX8_bestRule_41 (by decide) ?_
      refine pw_istore C dX8_bestRule_42 (by decide) rfl ?_
      exact pw_sub [3, 4, 5, 6, 2, 1, 0] rfl h
    clear h
    refine pw_z_eq (tgt := 35) C dX8_bestRule_21 (by decide) (fun q2 => ?_) (fun q2 => ?_)
    · refine pw_iconst (v := 0) C dX8_bestRule_35 (by decide) ?_
      exact hJ false (if_pos q2)
    · refine pw_aload_n C dX8_bestRule_24 rfl 0 rfl ?_
      refine pw_geti C dX8_bestRule_25 gf_RX8_127 gk_189.1 gk_189.2 rfl ?_
      refine pw_if_eq (tgt := 35) C dX8_bestRule_28 (by decide) (fun q3 => ?_) (fun q3 => ?_)
      · refine pw_iconst (v := 0) C dX8_bestRule_35 (by decide) ?_
        exact hJ false ((if_neg q2).trans (if_pos q3))
      · refine pw_iconst (v := 1) C dX8_bestRule_31 (by decide) ?_
        refine pw_goto (tgt := 36) C dX8_bestRule_32 (by decide) ?_
        exact hJ true ((if_neg q2).trans (if_neg q3))
set_option maxRecDepth 4000 in
theorem sg_X8_bestRule_44 {x : gw_X} {G : gw_G} {Φ : Int32 → gw_S → Prop} (C : XC x G RX8 cX8_bestRule 7 (some .int)) (hR : gw_ok x 6) (hT : RT x G (fi Φ)) (v1 : Int32) (v2 : Int32) (v3 : Int32) (v4 : Int32) (v5 : Int32) (v6 : Int32) (σ : gw_S)
    (h : ((σ.1 192 ((1 : Int32).toNatClampNeg)) ≤ v6 → PW x G 7 11 [(0, .ref (G.1 + 189)), (1, .int (if (if v4 = 0 then false else (if v1 = (-1) then true else (if v2 ≤ v5 then false else true : Bool) : Bool) : Bool) = false then v1 else v3 : Int32)), (2, .int (if (if v4 = 0 then false else (if v1 = (-1) then true else (if v2 ≤ v5 then false else true : Bool) : Bool) : Bool) = false then v2 else v5 : Int32)), (3, .int (v3 + 1))] [] σ) ∧ (¬ ((σ.1 192 ((1 : Int32).toNatClampNeg)) ≤ v6) → vp_in v6 14 ∧ (PW x G 7 44 [(0, .ref (G.1 + 189)), (1, .int v1), (2, .int v2), (3, .int v3), (4, .int v4), (5, .int (v5 + (σ.1 203 v6.toNatClampNeg))), (6, .int (v6 + 1))] [] σ))) : PW x G 7 44 [(0, .ref (G.1 + 189)), (1, .int v1), (2, .int v2), (3, .int v3), (4, .int v4), (5, .int v5), (6, .int v6)] [] σ := by
  refine pw_iload C dX8_bestRule_44 6 rfl ?_
  refine pw_aload_n C dX8_bestRule_46 rfl 0 rfl ?_
  refine pw_getr C dX8_bestRule_47 gf_RX8_16 gk_189.1 gk_189.2 rfl ?_
  refine pw_iconst (v := 1) C dX8_bestRule_50 (by decide) ?_
  refine pw_iald C dX8_bestRule_51 gk_192.1 gk_192.2 (by show ¬ (_ ∨ _); decide) ?_
  refine pw_icmp_ge (tgt := 73) C dX8_bestRule_52 (by decide) (fun q => ?_) (fun q => ?_)
  · replace h := h.1 q
    refine pw_iload C dX8_bestRule_73 4 rfl ?_
    have hJ : ∀ w0 : Bool, (if v4 = 0 then false else (if v1 = (-1) then true else (if v2 ≤ v5 then false else true : Bool) : Bool) : Bool) = w0 → PW x G 7 94 [(0, .ref (G.1 + 189)), (1, .int v1), (2, .int v2), (3, .int v3), (4, .int v4), (5, .int v5), (6, .int v6)] [.int (gz w0)] σ := by
      rintro _ rfl
      refine pw_istore C dX8_bestRule_94 (by decide) rfl ?_
      refine pw_iload C dX8_bestRule_96 0 rfl ?_
      have hJ : ∀ w0 : Int32, (if (if v4 = 0 then false else (if v1 = (-1) then true else (if v2 ≤ v5 then false else true : Bool) : Bool) : Bool) = false then v1 else v3 : Int32) = w0 → PW x G 7 106 [(6, .int (gz (if v4 = 0 then false else (if v1 = (-1) then true else (if v2 ≤ v5 then false else true : Bool) : Bool) : Bool))), (0, .ref (G.1 + 189)), (1, .int v1), (2, .int v2), (3, .int v3), (4, .int v4), (5, .int v5)] [.int w0] σ := by
        rintro _ rfl
        refine pw_istore_n C dX8_bestRule_106 rfl (by decide) rfl ?_
        refine pw_iload C dX8_bestRule_107 1 rfl ?_
        have hJ : ∀ w0 : Int32, (if (if v4 = 0 then false else (if v1 = (-1) then true else (if v2 ≤ v5 then false else true : Bool) : Bool) : Bool) = false then v2 else v5 : Int32) = w0 → PW x G 7 118 [(1, .int (if (if v4 = 0 then false else (if v1 = (-1) then true else (if v2 ≤ v5 then false else true : Bool) : Bool) : Bool) = false then v1 else v3 : Int32)), (6, .int (gz (if v4 = 0 then false else (if v1 = (-1) then true else (if v2 ≤ v5 then false else true : Bool) : Bool) : Bool))), (0, .ref (G.1 + 189)), (2, .int v2), (3, .int v3), (4, .int v4), (5, .int v5)] [.int w0] σ := by
          rintro _ rfl
          refine pw_istore_n C dX8_bestRule_118 rfl (by decide) rfl ?_
          refine pw_iinc (v := (v3 + 1)) (j := 4) C dX8_bestRule_119 rfl rfl (by decide) rfl ?_
          refine pw_goto (tgt := 11) C dX8_bestRule_122 (by decide) ?_
          exact pw_sub [4, 2, 1, 0] rfl h
        clear h
        refine pw_z_eq (tgt := 117) C dX8_bestRule_109 (by decide) (fun q4 => ?_) (fun q4 => ?_)
        · refine pw_iload_n C dX8_bestRule_117 rfl 3 rfl ?_
          exact hJ v2 (if_pos q4)
        · refine pw_iload C dX8_bestRule_112 6 rfl ?_
          refine pw_goto (tgt := 118) C dX8_bestRule_114 (by decide) ?_
          exact hJ v5 (if_neg q4)
      clear h
      refine pw_z_eq (tgt := 105) C dX8_bestRule_98 (by decide) (fun q3 => ?_) (fun q3 => ?_)
      · refine pw_iload_n C dX8_bestRule_105 rfl 2 rfl ?_
        exact hJ v1 (if_pos q3)
      · refine pw_iload_n C dX8_bestRule_101 rfl 4 rfl ?_
        refine pw_goto (tgt := 106) C dX8_bestRule_102 (by decide) ?_
        exact hJ v3 (if_neg q3)
    clear h
    refine pw_if_eq (tgt := 93) C dX8_bestRule_75 (by decide) (fun q2 => ?_) (fun q2 => ?_)
    · refine pw_iconst (v := 0) C dX8_bestRule_93 (by decide) ?_
      exact hJ false (if_pos q2)
    · refine pw_iload_n C dX8_bestRule_78 rfl 1 rfl ?_
      refine pw_iconst (v := (-1)) C dX8_bestRule_79 (by decide) ?_
      refine pw_icmp_eq (tgt := 89) C dX8_bestRule_80 (by decide) (fun q3 => ?_) (fun q3 => ?_)
      · refine pw_iconst (v := 1) C dX8_bestRule_89 (by decide) ?_
        refine pw_goto (tgt := 94) C dX8_bestRule_90 (by decide) ?_
        exact hJ true ((if_neg q2).trans (if_pos q3))
      · refine pw_iload C dX8_bestRule_83 5 rfl ?_
        refine pw_iload_n C dX8_bestRule_85 rfl 2 rfl ?_
        refine pw_icmp_ge (tgt := 93) C dX8_bestRule_86 (by decide) (fun q4 => ?_) (fun q4 => ?_)
        · refine pw_iconst (v := 0) C dX8_bestRule_93 (by decide) ?_
          exact hJ false ((if_neg q2).trans ((if_neg q3).trans (if_pos q4)))
        · refine pw_iconst (v := 1) C dX8_bestRule_89 (by decide) ?_
          refine pw_goto (tgt := 94) C dX8_bestRule_90 (by decide) ?_
          exact hJ true ((if_neg q2).trans ((if_neg q3).trans (if_neg q4)))
  · replace h := h.2 q
    refine pw_iload C dX8_bestRule_55 5 rfl ?_
    refine pw_aload_n C dX8_bestRule_57 rfl 0 rfl ?_
    refine pw_getr C dX8_bestRule_58 gf_RX8_51 gk_189.1 gk_189.2 rfl ?_
    refine pw_iload C dX8_bestRule_61 6 rfl ?_
    obtain ⟨g1, h⟩ := h
    refine pw_iald C dX8_bestRule_63 gk_203.1 gk_203.2 g1 ?_
    refine pw_iadd C dX8_bestRule_64 ?_
    refine pw_istore C dX8_bestRule_65 (by decide) rfl ?_
    refine pw_iinc (v := (v6 + 1)) (j := 6) C dX8_bestRule_67 rfl rfl (by decide) rfl ?_
    refine pw_goto (tgt := 44) C dX8_bestRule_70 (by decide) ?_
    exact pw_sub [2, 3, 4, 5, 6, 1, 0] rfl h
set_option maxRecDepth 4000 in
theorem sg_X8_fewest_0 {x : gw_X} {G : gw_G} {Φ : Int32 → gw_S → Prop} (C : XC x G RX8 cX8_fewest 3 (some .int)) (hR : gw_ok x 5) (hT : RT x G (fi Φ)) (v1 : Int32) (σ : gw_S)
    (h : ∀ τ1 : gw_S, τ1 = gw_u σ 189 0 (gz (if (if (lg_cmp v1.toInt64 0) < 0 then false else (if 0 < (lg_cmp v1.toInt64 (((σ.1 192 ((1 : Int32).toNatClampNeg)) - 1).toInt64)) then false else true : Bool) : Bool) = false then true else false : Bool)) → (((if (gz (if (if (lg_cmp v1.toInt64 0) < 0 then false else (if 0 < (lg_cmp v1.toInt64 (((σ.1 192 ((1 : Int32).toNatClampNeg)) - 1).toInt64)) then false else true : Bool) : Bool) = false then true else false : Bool)) ≤ 0 then false else true : Bool) = false → PW x G 3 24 [(0, .ref (G.1 + 189)), (1, .int v1), (2, .int 0)] [] τ1) ∧ (¬ ((if (gz (if (if (lg_cmp v1.toInt64 0) < 0 then false else (if 0 < (lg_cmp v1.toInt64 (((σ.1 192 ((1 : Int32).toNatClampNeg)) - 1).toInt64)) then false else true : Bool) : Bool) = false then true else false : Bool)) ≤ 0 then false else true : Bool) = false) → Φ 0 τ1))) : PW x G 3 0 [(0, .ref (G.1 + 189)), (1, .int v1)] [] σ := by
  refine pw_aload_n C dX8_fewest_0 rfl 0 rfl ?_
  refine pw_aload_n C dX8_fewest_1 rfl 0 rfl ?_
  refine pw_iload_n C dX8_fewest_2 rfl 1 rfl ?_
  refine pw_callV C dX8_fewest_3 (k_X8_isWire v1 σ ) gm_X8_isWire gl_RX8_242 rfl hR (by decide) (by decide) (by decide) rfl gk_189.1 gk_189.2 rfl (Nat.le_of_ble_eq_true rfl) ?_
  rintro _ _ ⟨_, rfl, rfl, rfl⟩
  show PW x G 3 6 [(0, .ref (G.1 + 189)), (1, .int v1)] [.int (gz (if (lg_cmp v1.toInt64 0) < 0 then false else (if 0 < (lg_cmp v1.toInt64 (((σ.1 192 ((1 : Int32).toNatClampNeg)) - 1).toInt64)) then false else true : Bool) : Bool)), .ref (G.1 + 189)] σ
  have hJ : ∀ w0 : Bool, (if (if (lg_cmp v1.toInt64 0) < 0 then false else (if 0 < (lg_cmp v1.toInt64 (((σ.1 192 ((1 : Int32).toNatClampNeg)) - 1).toInt64)) then false else true : Bool) : Bool) = false then true else false : Bool) = w0 → PW x G 3 14 [(0, .ref (G.1 + 189)), (1, .int v1)] [.int (gz w0), .ref (G.1 + 189)] σ := by
    rintro _ rfl
    refine pw_callV C dX8_fewest_14 (k_X8_refused (gz (if (if (lg_cmp v1.toInt64 0) < 0 then false else (if 0 < (lg_cmp v1.toInt64 (((σ.1 192 ((1 : Int32).toNatClampNeg)) - 1).toInt64)) then false else true : Bool) : Bool) = false then true else false : Bool)) σ ) gm_X8_refused gl_RX8_153 rfl hR (by decide) (by decide) (by decide) rfl gk_189.1 gk_189.2 rfl (Nat.le_of_ble_eq_true rfl) ?_
    rintro _ _ ⟨_, rfl, rfl, rfl⟩
    generalize hτ1 : gw_u σ 189 0 (gz (if (if (lg_cmp v1.toInt64 0) < 0 then false else (if 0 < (lg_cmp v1.toInt64 (((σ.1 192 ((1 : Int32).toNatClampNeg)) - 1).toInt64)) then false else true : Bool) : Bool) = false then true else false : Bool)) = τ1
    replace h := h τ1 hτ1.symm
    show PW x G 3 17 [(0, .ref (G.1 + 189)), (1, .int v1)] [.int (gz (if (gz (if (if (lg_cmp v1.toInt64 0) < 0 then false else (if 0 < (lg_cmp v1.toInt64 (((σ.1 192 ((1 : Int32).toNatClampNeg)) - 1).toInt64)) then false else true : Bool) : Bool) = false then true else false : Bool)) ≤ 0 then false else true : Bool))] τ1
    show PW x G 3 17 [(0, .ref (G.1 + 189)), (1, .int v1)] [.int (gz (if (gz (if (if (lg_cmp v1.toInt64 0) < 0 then false else (if 0 < (lg_cmp v1.toInt64 (((σ.1 192 ((1 : Int32).toNatClampNeg)) - 1).toInt64)) then false else true : Bool) : Bool) = false then true else false : Bool)) ≤ 0 then false else true : Bool))] τ1
    refine pw_z_eq (tgt := 22) C dX8_fewest_17 (by decide) (fun q => ?_) (fun q => ?_)
    · replace h := h.1 q
      refine pw_iconst (v := 0) C dX8_fewest_22 (by decide) ?_
      refine pw_istore_n C dX8_fewest_23 rfl (by decide) rfl ?_
      exact pw_sub [1, 2, 0] rfl h
    · replace h := h.2 q
      refine pw_iconst (v := 0) C dX8_fewest_20 (by decide) ?_
      exact pw_iret C hT dX8_fewest_21 h
  clear h
  refine pw_z_eq (tgt := 13) C dX8_fewest_6 (by decide) (fun q1 => ?_) (fun q1 => ?_)
  · refine pw_iconst (v := 1) C dX8_fewest_13 (by decide) ?_
    exact hJ true (if_pos q1)
  · refine pw_iconst (v := 0) C dX8_fewest_9 (by decide) ?_
    refine pw_goto (tgt := 14) C dX8_fewest_10 (by decide) ?_
    exact hJ false (if_neg q1)
set_option maxRecDepth 4000 in
theorem sg_X8_fewest_24 {x : gw_X} {G : gw_G} {Φ : Int32 → gw_S → Prop} (C : XC x G RX8 cX8_fewest 3 (some .int)) (hR : gw_ok x 5) (hT : RT x G (fi Φ)) (v1 : Int32) (v2 : Int32) (σ : gw_S)
    (h : (99 < v2 → Φ (-1) σ) ∧ (¬ (99 < v2) → ∃ Φ1 : gw_S → Prop, gw_M (xl x) G yX8_tryIt cX8_tryIt 1 none 1 [.ref (G.1 + 189)] σ (fv Φ1) ∧ ∀ (τ2 : gw_S), Φ1 τ2 → (vp_in ((26 + (5 * v1)) + 4) 96 ∧ (∀ τ4 : gw_S, τ4 = gw_u τ2 193 (((26 + (5 * v1)) + 4).toNatClampNeg) v2 → (∃ Φ5 : Bool → gw_S → Prop, gw_M (xl x) G yX8_layWorks cX8_layWorks 11 (some .boolean) 4 [.ref (G.1 + 189), .ref (G.1 + 193)] τ4 (fz Φ5) ∧ ∀ (r7 : Bool) (τ6 : gw_S), Φ5 r7 τ6 → ((¬ (r7 = false) → ∃ Φ8 : gw_S → Prop, gw_M (xl x) G yX8_play cX8_play 6 none 3 [.ref (G.1 + 189), .ref (G.1 + 193), .int 0] τ6 (fv Φ8) ∧ ∀ (τ9 : gw_S), Φ8 τ9 → (((τ9.1 189 22) = 0 → PW x G 3 24 [(0, .ref (G.1 + 189)), (1, .int v1), (2, .int (v2 + 1))] [] τ9) ∧ (¬ ((τ9.1 189 22) = 0) → Φ v2 τ9))) ∧ (r7 = false → Φ (-1) τ6))))))) : PW x G 3 24 [(0, .ref (G.1 + 189)), (1, .int v1), (2, .int v2)] [] σ := by
  refine pw_iload_n C dX8_fewest_24 rfl 2 rfl ?_
  refine pw_bipush (v := 99) C dX8_fewest_25 (by decide) ?_
  refine pw_icmp_gt (tgt := 82) C dX8_fewest_27 (by decide) (fun q => ?_) (fun q => ?_)
  · replace h := h.1 q
    refine pw_iconst (v := (-1)) C dX8_fewest_82 (by decide) ?_
    exact pw_iret C hT dX8_fewest_83 h
  · replace h := h.2 q
    refine pw_aload_n C dX8_fewest_30 rfl 0 rfl ?_
    obtain ⟨Φ1, hM, h⟩ := h
    refine pw_callV C dX8_fewest_31 hM gm_X8_tryIt gl_RX8_131 rfl hR (by decide) (by decide) (by decide) rfl gk_189.1 gk_189.2 rfl (Nat.le_of_ble_eq_true rfl) ?_
    rintro _ τ2 ⟨rfl, hv⟩
    replace h := h τ2 hv
    show PW x G 3 34 [(0, .ref (G.1 + 189)), (1, .int v1), (2, .int v2)] [] τ2
    refine pw_aload_n C dX8_fewest_34 rfl 0 rfl ?_
    refine pw_getr C dX8_fewest_35 gf_RX8_19 gk_189.1 gk_189.2 rfl ?_
    refine pw_iload_n C dX8_fewest_38 rfl 1 rfl ?_
    refine pw_iconst (v := 4) C dX8_fewest_39 (by decide) ?_
    refine pw_callS C dX8_fewest_40 (k_X8_wireAt v1 4 τ2 ) gm_X8_wireAt gl_RX8_73 rfl hR (by decide) (by decide) rfl (Nat.le_of_ble_eq_true rfl) ?_
    rintro _ _ ⟨_, rfl, rfl, rfl⟩
    show PW x G 3 43 [(0, .ref (G.1 + 189)), (1, .int v1), (2, .int v2)] [.int ((26 + (5 * v1)) + 4), .ref (G.1 + 193)] τ2
    refine pw_iload_n C dX8_fewest_43 rfl 2 rfl ?_
    obtain ⟨g3, h⟩ := h
    refine pw_iast C dX8_fewest_44 gk_193.1 gk_193.2 g3 ?_
    generalize hτ4 : gw_u τ2 193 (((26 + (5 * v1)) + 4).toNatClampNeg) v2 = τ4
    replace h := h τ4 hτ4.symm
    show PW x G 3 45 [(0, .ref (G.1 + 189)), (1, .int v1), (2, .int v2)] [] τ4
    refine pw_aload_n C dX8_fewest_45 rfl 0 rfl ?_
    refine pw_aload_n C dX8_fewest_46 rfl 0 rfl ?_
    refine pw_getr C dX8_fewest_47 gf_RX8_19 gk_189.1 gk_189.2 rfl ?_
    obtain ⟨Φ5, hM, h⟩ := h
    refine pw_callV C dX8_fewest_50 hM gm_X8_layWorks gl_RX8_134 rfl hR (by decide) (by decide) (by decide) rfl gk_189.1 gk_189.2 rfl (Nat.le_of_ble_eq_true rfl) ?_
    rintro _ τ6 ⟨r7, rfl, hv⟩
    replace h := h r7 τ6 hv
    show PW x G 3 53 [(0, .ref (G.1 + 189)), (1, .int v1), (2, .int v2)] [.int (gz r7)] τ6
    refine pw_z_ne (tgt := 58) C dX8_fewest_53 (by decide) (fun q => ?_) (fun q => ?_)
    · replace h := h.1 q
      refine pw_aload_n C dX8_fewest_58 rfl 0 rfl ?_
      refine pw_aload_n C dX8_fewest_59 rfl 0 rfl ?_
      refine pw_getr C dX8_fewest_60 gf_RX8_19 gk_189.1 gk_189.2 rfl ?_
      refine pw_iconst (v := 0) C dX8_fewest_63 (by decide) ?_
      obtain ⟨Φ8, hM, h⟩ := h
      refine pw_callV C dX8_fewest_64 hM gm_X8_play gl_RX8_138 rfl hR (by decide) (by decide) (by decide) rfl gk_189.1 gk_189.2 rfl (Nat.le_of_ble_eq_true rfl) ?_
      rintro _ τ9 ⟨rfl, hv⟩
      replace h := h τ9 hv
      show PW x G 3 67 [(0, .ref (G.1 + 189)), (1, .int v1), (2, .int v2)] [] τ9
      refine pw_aload_n C dX8_fewest_67 rfl 0 rfl ?_
      refine pw_geti C dX8_fewest_68 gf_RX8_127 gk_189.1 gk_189.2 rfl ?_
      refine pw_if_eq (tgt := 76) C dX8_fewest_71 (by decide) (fun q => ?_) (fun q => ?_)
      · replace h := h.1 q
        refine pw_iinc (v := (v2 + 1)) (j := 2) C dX8_fewest_76 rfl rfl (by decide) rfl ?_
        refine pw_goto (tgt := 24) C dX8_fewest_79 (by decide) ?_
        exact pw_sub [1, 2, 0] rfl h
      · replace h := h.2 q
        refine pw_iload_n C dX8_fewest_74 rfl 2 rfl ?_
        exact pw_iret C hT dX8_fewest_75 h
    · replace h := h.2 q
      refine pw_iconst (v := (-1)) C dX8_fewest_56 (by decide) ?_
      exact pw_iret C hT dX8_fewest_57 h
set_option maxRecDepth 4000 in
theorem sg_X8_agrees_0 {x : gw_X} {G : gw_G} {Φ : Int32 → gw_S → Prop} (C : XC x G RX8 cX8_agrees 4 (some .int)) (hR : gw_ok x 5) (hT : RT x G (fi Φ)) (v1 : Int32) (v2 : Int32) (σ : gw_S)
    (h : ∀ τ1 : gw_S, τ1 = gw_u σ 189 0 (if (if (lg_cmp v1.toInt64 0) < 0 then false else (if 0 < (lg_cmp v1.toInt64 (((σ.1 192 ((1 : Int32).toNatClampNeg)) - 1).toInt64)) then false else true : Bool) : Bool) = false then 1 else (if (if (lg_cmp v2.toInt64 1) < 0 then false else (if 0 < (lg_cmp v2.toInt64 6) then false else true : Bool) : Bool) = false then 2 else 0 : Int32) : Int32) → (((if (if (if (lg_cmp v1.toInt64 0) < 0 then false else (if 0 < (lg_cmp v1.toInt64 (((σ.1 192 ((1 : Int32).toNatClampNeg)) - 1).toInt64)) then false else true : Bool) : Bool) = false then 1 else (if (if (lg_cmp v2.toInt64 1) < 0 then false else (if 0 < (lg_cmp v2.toInt64 6) then false else true : Bool) : Bool) = false then 2 else 0 : Int32) : Int32) ≤ 0 then false else true : Bool) = false → PW x G 4 35 [(0, .ref (G.1 + 189)), (1, .int v1), (2, .int v2), (3, .int 1)] [] τ1) ∧ (¬ ((if (if (if (lg_cmp v1.toInt64 0) < 0 then false else (if 0 < (lg_cmp v1.toInt64 (((σ.1 192 ((1 : Int32).toNatClampNeg)) - 1).toInt64)) then false else true : Bool) : Bool) = false then 1 else (if (if (lg_cmp v2.toInt64 1) < 0 then false else (if 0 < (lg_cmp v2.toInt64 6) then false else true : Bool) : Bool) = false then 2 else 0 : Int32) : Int32) ≤ 0 then false else true : Bool) = false) → Φ 0 τ1))) : PW x G 4 0 [(0, .ref (G.1 + 189)), (1, .int v1), (2, .int v2)] [] σ := by
  refine pw_aload_n C dX8_agrees_0 rfl 0 rfl ?_
  refine pw_aload_n C dX8_agrees_1 rfl 0 rfl ?_
  refine pw_iload_n C dX8_agrees_2 rfl 1 rfl ?_
  refine pw_callV C dX8_agrees_3 (k_X8_isWire v1 σ ) gm_X8_isWire gl_RX8_242 rfl hR (by decide) (by decide) (by decide) rfl gk_189.1 gk_189.2 rfl (Nat.le_of_ble_eq_true rfl) ?_
  rintro _ _ ⟨_, rfl, rfl, rfl⟩
  show PW x G 4 6 [(0, .ref (G.1 + 189)), (1, .int v1), (2, .int v2)] [.int (gz (if (lg_cmp v1.toInt64 0) < 0 then false else (if 0 < (lg_cmp v1.toInt64 (((σ.1 192 ((1 : Int32).toNatClampNeg)) - 1).toInt64)) then false else true : Bool) : Bool)), .ref (G.1 + 189)] σ
  have hJ : ∀ w0 : Int32, (if (if (lg_cmp v1.toInt64 0) < 0 then false else (if 0 < (lg_cmp v1.toInt64 (((σ.1 192 ((1 : Int32).toNatClampNeg)) - 1).toInt64)) then false else true : Bool) : Bool) = false then 1 else (if (if (lg_cmp v2.toInt64 1) < 0 then false else (if 0 < (lg_cmp v2.toInt64 6) then false else true : Bool) : Bool) = false then 2 else 0 : Int32) : Int32) = w0 → PW x G 4 25 [(0, .ref (G.1 + 189)), (1, .int v1), (2, .int v2)] [.int w0, .ref (G.1 + 189)] σ := by
    rintro _ rfl
    refine pw_callV C dX8_agrees_25 (k_X8_refused (if (if (lg_cmp v1.toInt64 0) < 0 then false else (if 0 < (lg_cmp v1.toInt64 (((σ.1 192 ((1 : Int32).toNatClampNeg)) - 1).toInt64)) then false else true : Bool) : Bool) = false then 1 else (if (if (lg_cmp v2.toInt64 1) < 0 then false else (if 0 < (lg_cmp v2.toInt64 6) then false else true : Bool) : Bool) = false then 2 else 0 : Int32) : Int32) σ ) gm_X8_refused gl_RX8_153 rfl hR (by decide) (by decide) (by decide) rfl gk_189.1 gk_189.2 rfl (Nat.le_of_ble_eq_true rfl) ?_
    rintro _ _ ⟨_, rfl, rfl, rfl⟩
    generalize hτ1 : gw_u σ 189 0 (if (if (lg_cmp v1.toInt64 0) < 0 then false else (if 0 < (lg_cmp v1.toInt64 (((σ.1 192 ((1 : Int32).toNatClampNeg)) - 1).toInt64)) then false else true : Bool) : Bool) = false then 1 else (if (if (lg_cmp v2.toInt64 1) < 0 then false else (if 0 < (lg_cmp v2.toInt64 6) then false else true : Bool) : Bool) = false then 2 else 0 : Int32) : Int32) = τ1
    replace h := h τ1 hτ1.symm
    show PW x G 4 28 [(0, .ref (G.1 + 189)), (1, .int v1), (2, .int v2)] [.int (gz (if (if (if (lg_cmp v1.toInt64 0) < 0 then false else (if 0 < (lg_cmp v1.toInt64 (((σ.1 192 ((1 : Int32).toNatClampNeg)) - 1).toInt64)) then false else true : Bool) : Bool) = false then 1 else (if (if (lg_cmp v2.toInt64 1) < 0 then false else (if 0 < (lg_cmp v2.toInt64 6) then false else true : Bool) : Bool) = false then 2 else 0 : Int32) : Int32) ≤ 0 then false else true : Bool))] τ1
    show PW x G 4 28 [(0, .ref (G.1 + 189)), (1, .int v1), (2, .int v2)] [.int (gz (if (if (if (lg_cmp v1.toInt64 0) < 0 then false else (if 0 < (lg_cmp v1.toInt64 (((σ.1 192 ((1 : Int32).toNatClampNeg)) - 1).toInt64)) then false else true : Bool) : Bool) = false then 1 else (if (if (lg_cmp v2.toInt64 1) < 0 then false else (if 0 < (lg_cmp v2.toInt64 6) then false else true : Bool) : Bool) = false then 2 else 0 : Int32) : Int32) ≤ 0 then false else true : Bool))] τ1
    refine pw_z_eq (tgt := 33) C dX8_agrees_28 (by decide) (fun q => ?_) (fun q => ?_)
    · replace h := h.1 q
      refine pw_iconst (v := 1) C dX8_agrees_33 (by decide) ?_
      refine pw_istore_n C dX8_agrees_34 rfl (by decide) rfl ?_
      exact pw_sub [1, 2, 3, 0] rfl h
    · replace h := h.2 q
      refine pw_iconst (v := 0) C dX8_agrees_31 (by decide) ?_
      exact pw_iret C hT dX8_agrees_32 h
  clear h
  refine pw_z_ne (tgt := 13) C dX8_agrees_6 (by decide) (fun q1 => ?_) (fun q1 => ?_)
  · refine pw_iload_n C dX8_agrees_13 rfl 2 rfl ?_
    refine pw_callS C dX8_agrees_14 (k_X8_isRate v2 σ ) gm_X8_isRate gl_RX8_259 rfl hR (by decide) (by decide) rfl (Nat.le_of_ble_eq_true rfl) ?_
    rintro _ _ ⟨_, rfl, rfl, rfl⟩
    show PW x G 4 17 [(0, .ref (G.1 + 189)), (1, .int v1), (2, .int v2)] [.int (gz (if (lg_cmp v2.toInt64 1) < 0 then false else (if 0 < (lg_cmp v2.toInt64 6) then false else true : Bool) : Bool)), .ref (G.1 + 189)] σ
    refine pw_z_eq (tgt := 24) C dX8_agrees_17 (by decide) (fun q2 => ?_) (fun q2 => ?_)
    · refine pw_iconst (v := 2) C dX8_agrees_24 (by decide) ?_
      exact hJ 2 ((if_neg q1).trans (if_pos q2))
    · refine pw_iconst (v := 0) C dX8_agrees_20 (by decide) ?_
      refine pw_goto (tgt := 25) C dX8_agrees_21 (by decide) ?_
      exact hJ 0 ((if_neg q1).trans (if_neg q2))
  · refine pw_iconst (v := 1) C dX8_agrees_9 (by decide) ?_
    refine pw_goto (tgt := 25) C dX8_agrees_10 (by decide) ?_
    exact hJ 1 (if_pos q1)
set_option maxRecDepth 4000 in
theorem sg_X8_agrees_35 {x : gw_X} {G : gw_G} {Φ : Int32 → gw_S → Prop} (C : XC x G RX8 cX8_agrees 4 (some .int)) (hR : gw_ok x 5) (hT : RT x G (fi Φ)) (v1 : Int32) (v2 : Int32) (v3 : Int32) (σ : gw_S)
    (h : (6 < v3 → Φ (-1) σ) ∧ (¬ (6 < v3) → ∃ Φ1 : gw_S → Prop, gw_M (xl x) G yX8_tryIt cX8_tryIt 1 none 1 [.ref (G.1 + 189)] σ (fv Φ1) ∧ ∀ (τ2 : gw_S), Φ1 τ2 → (vp_in ((26 + (5 * v1)) + 2) 96 ∧ (∀ τ4 : gw_S, τ4 = gw_u τ2 193 (((26 + (5 * v1)) + 2).toNatClampNeg) v2 → (vp_in ((26 + (5 * v1)) + 3) 96 ∧ (∀ τ6 : gw_S, τ6 = gw_u τ4 193 (((26 + (5 * v1)) + 3).toNatClampNeg) v3 → (∃ Φ7 : Bool → gw_S → Prop, gw_M (xl x) G yX8_layWorks cX8_layWorks 11 (some .boolean) 4 [.ref (G.1 + 189), .ref (G.1 + 193)] τ6 (fz Φ7) ∧ ∀ (r9 : Bool) (τ8 : gw_S), Φ7 r9 τ8 → ((r9 = false → PW x G 4 35 [(0, .ref (G.1 + 189)), (1, .int v1), (2, .int v2), (3, .int (v3 + 1))] [] τ8) ∧ (¬ (r9 = false) → Φ v3 τ8))))))))) : PW x G 4 35 [(0, .ref (G.1 + 189)), (1, .int v1), (2, .int v2), (3, .int v3)] [] σ := by
  refine pw_iload_n C dX8_agrees_35 rfl 3 rfl ?_
  refine pw_bipush (v := 6) C dX8_agrees_36 (by decide) ?_
  refine pw_icmp_gt (tgt := 86) C dX8_agrees_38 (by decide) (fun q => ?_) (fun q => ?_)
  · replace h := h.1 q
    refine pw_iconst (v := (-1)) C dX8_agrees_86 (by decide) ?_
    exact pw_iret C hT dX8_agrees_87 h
  · replace h := h.2 q
    refine pw_aload_n C dX8_agrees_41 rfl 0 rfl ?_
    obtain ⟨Φ1, hM, h⟩ := h
    refine pw_callV C dX8_agrees_42 hM gm_X8_tryIt gl_RX8_131 rfl hR (by decide) (by decide) (by decide) rfl gk_189.1 gk_189.2 rfl (Nat.le_of_ble_eq_true rfl) ?_
    rintro _ τ2 ⟨rfl, hv⟩
    replace h := h τ2 hv
    show PW x G 4 45 [(0, .ref (G.1 + 189)), (1, .int v1), (2, .int v2), (3, .int v3)] [] τ2
    refine pw_aload_n C dX8_agrees_45 rfl 0 rfl ?_
    refine pw_getr C dX8_agrees_46 gf_RX8_19 gk_189.1 gk_189.2 rfl ?_
    refine pw_iload_n C dX8_agrees_49 rfl 1 rfl ?_
    refine pw_iconst (v := 2) C dX8_agrees_50 (by decide) ?_
    refine pw_callS C dX8_agrees_51 (k_X8_wireAt v1 2 τ2 ) gm_X8_wireAt gl_RX8_73 rfl hR (by decide) (by decide) rfl (Nat.le_of_ble_eq_true rfl) ?_
    rintro _ _ ⟨_, rfl, rfl, rfl⟩
    show PW x G 4 54 [(0, .ref (G.1 + 189)), (1, .int v1), (2, .int v2), (3, .int v3)] [.int ((26 + (5 * v1)) + 2), .ref (G.1 + 193)] τ2
    refine pw_iload_n C dX8_agrees_54 rfl 2 rfl ?_
    obtain ⟨g3, h⟩ := h
    refine pw_iast C dX8_agrees_55 gk_193.1 gk_193.2 g3 ?_
    generalize hτ4 : gw_u τ2 193 (((26 + (5 * v1)) + 2).toNatClampNeg) v2 = τ4
    replace h := h τ4 hτ4.symm
    show PW x G 4 56 [(0, .ref (G.1 + 189)), (1, .int v1), (2, .int v2), (3, .int v3)] [] τ4
    refine pw_aload_n C dX8_agrees_56 rfl 0 rfl ?_
    refine pw_getr C dX8_agrees_57 gf_RX8_19 gk_189.1 gk_189.2 rfl ?_
    refine pw_iload_n C dX8_agrees_60 rfl 1 rfl ?_
    refine pw_iconst (v := 3) C dX8_agrees_61 (by decide) ?_
    refine pw_callS C dX8_agrees_62 (k_X8_wireAt v1 3 τ4 ) gm_X8_wireAt gl_RX8_73 rfl hR (by decide) (by decide) rfl (Nat.le_of_ble_eq_true rfl) ?_
    rintro _ _ ⟨_, rfl, rfl, rfl⟩
    show PW x G 4 65 [(0, .ref (G.1 + 189)), (1, .int v1), (2, .int v2), (3, .int v3)] [.int ((26 + (5 * v1)) + 3), .ref (G.1 + 193)] τ4
    refine pw_iload_n C dX8_agrees_65 rfl 3 rfl ?_
    obtain ⟨g5, h⟩ := h
    refine pw_iast C dX8_agrees_66 gk_193.1 gk_193.2 g5 ?_
    generalize hτ6 : gw_u τ4 193 (((26 + (5 * v1)) + 3).toNatClampNeg) v3 = τ6
    replace h := h τ6 hτ6.symm
    show PW x G 4 67 [(0, .ref (G.1 + 189)), (1, .int v1), (2, .int v2), (3, .int v3)] [] τ6
    refine pw_aload_n C dX8_agrees_67 rfl 0 rfl ?_
    refine pw_aload_n C dX8_agrees_68 rfl 0 rfl ?_
    refine pw_getr C dX8_agrees_69 gf_RX8_19 gk_189.1 gk_189.2 rfl ?_
    obtain ⟨Φ7, hM, h⟩ := h
    refine pw_callV C dX8_agrees_72 hM gm_X8_layWorks gl_RX8_134 rfl hR (by decide) (by decide) (by decide) rfl gk_189.1 gk_189.2 rfl (Nat.le_of_ble_eq_true rfl) ?_
    rintro _ τ8 ⟨r9, rfl, hv⟩
    replace h := h r9 τ8 hv
    show PW x G 4 75 [(0, .ref (G.1 + 189)), (1, .int v1), (2, .int v2), (3, .int v3)] [.int (gz r9)] τ8
    refine pw_z_eq (tgt := 80) C dX8_agrees_75 (by decide) (fun q => ?_) (fun q => ?_)
    · replace h := h.1 q
      refine pw_iinc (v := (v3 + 1)) (j := 3) C dX8_agrees_80 rfl rfl (by decide) rfl ?_
      refine pw_goto (tgt := 35) C dX8_agrees_83 (by decide) ?_
      exact pw_sub [1, 2, 3, 0] rfl h
    · replace h := h.2 q
      refine pw_iload_n C dX8_agrees_78 rfl 3 rfl ?_
      exact pw_iret C hT dX8_agrees_79 h
set_option maxRecDepth 4000 in
theorem sg_X8_lays_0 {x : gw_X} {G : gw_G} {Φ : Bool → gw_S → Prop} (C : XC x G RX8 cX8_lays 6 (some .boolean)) (hR : gw_ok x 4) (hT : RT x G (fz Φ)) (v1 : Int32) (v2 : Int32) (v3 : Int32) (v4 : Int32) (v5 : Int32) (σ : gw_S)
    (h : ((σ.1 193 ((0 : Int32).toNatClampNeg)) ≤ v1 → Φ false σ) ∧ (¬ ((σ.1 193 ((0 : Int32).toNatClampNeg)) ≤ v1) → ((σ.1 193 ((0 : Int32).toNatClampNeg)) ≤ v2 → Φ false σ) ∧ (¬ ((σ.1 193 ((0 : Int32).toNatClampNeg)) ≤ v2) → ((if (lg_cmp v3.toInt64 1) < 0 then false else (if 0 < (lg_cmp v3.toInt64 6) then false else true : Bool) : Bool) = false → Φ false σ) ∧ (¬ ((if (lg_cmp v3.toInt64 1) < 0 then false else (if 0 < (lg_cmp v3.toInt64 6) then false else true : Bool) : Bool) = false) → ((if (lg_cmp v4.toInt64 1) < 0 then false else (if 0 < (lg_cmp v4.toInt64 6) then false else true : Bool) : Bool) = false → Φ false σ) ∧ (¬ ((if (lg_cmp v4.toInt64 1) < 0 then false else (if 0 < (lg_cmp v4.toInt64 6) then false else true : Bool) : Bool) = false) → ∃ Φ1 : Bool → gw_S → Prop, gw_M (xl x) G yX8_canLay cX8_canLay 5 (some .boolean) 3 [.ref (G.1 + 189), .ref (G.1 + 193), .int v1, .int v2, .int v5] σ (fz Φ1) ∧ ∀ (r3 : Bool) (τ2 : gw_S), Φ1 r3 τ2 → ((¬ (r3 = false) → ∃ Φ4 : gw_S → Prop, gw_M (xl x) G yX8_layIn cX8_layIn 7 none 1 [.ref (G.1 + 193), .int v1, .int v2, .int v3, .int v4, .int v5] τ2 (fv Φ4) ∧ ∀ (τ5 : gw_S), Φ4 τ5 → (Φ true τ5)) ∧ (r3 = false → Φ false τ2))))))) : PW x G 6 0 [(0, .ref (G.1 + 189)), (1, .int v1), (2, .int v2), (3, .int v3), (4, .int v4), (5, .int v5)] [] σ := by
  refine pw_iload_n C dX8_lays_0 rfl 1 rfl ?_
  refine pw_aload_n C dX8_lays_1 rfl 0 rfl ?_
  refine pw_getr C dX8_lays_2 gf_RX8_19 gk_189.1 gk_189.2 rfl ?_
  refine pw_iconst (v := 0) C dX8_lays_5 (by decide) ?_
  refine pw_iald C dX8_lays_6 gk_193.1 gk_193.2 (by show ¬ (_ ∨ _); decide) ?_
  refine pw_icmp_ge (tgt := 50) C dX8_lays_7 (by decide) (fun q => ?_) (fun q => ?_)
  · replace h := h.1 q
    refine pw_iconst (v := 0) C dX8_lays_50 (by decide) ?_
    exact pw_zret (b := false) C hT dX8_lays_51 h
  · replace h := h.2 q
    refine pw_iload_n C dX8_lays_10 rfl 2 rfl ?_
    refine pw_aload_n C dX8_lays_11 rfl 0 rfl ?_
    refine pw_getr C dX8_lays_12 gf_RX8_19 gk_189.1 gk_189.2 rfl ?_
    refine pw_iconst (v := 0) C dX8_lays_15 (by decide) ?_
    refine pw_iald C dX8_lays_16 gk_193.1 gk_193.2 (by show ¬ (_ ∨ _); decide) ?_
    refine pw_icmp_ge (tgt := 50) C dX8_lays_17 (by decide) (fun q => ?_) (fun q => ?_)
    · replace h := h.1 q
      refine pw_iconst (v := 0) C dX8_lays_50 (by decide) ?_
      exact pw_zret (b := false) C hT dX8_lays_51 h
    · replace h := h.2 q
      refine pw_iload_n C dX8_lays_20 rfl 3 rfl ?_
      refine pw_callS C dX8_lays_21 (k_X8_isRate v3 σ ) gm_X8_isRate gl_RX8_259 rfl hR (by decide) (by decide) rfl (Nat.le_of_ble_eq_true rfl) ?_
      rintro _ _ ⟨_, rfl, rfl, rfl⟩
      show PW x G 6 24 [(0, .ref (G.1 + 189)), (1, .int v1), (2, .int v2), (3, .int v3), (4, .int v4), (5, .int v5)] [.int (gz (if (lg_cmp v3.toInt64 1) < 0 then false else (if 0 < (lg_cmp v3.toInt64 6) then false else true : Bool) : Bool))] σ
      refine pw_z_eq (tgt := 50) C dX8_lays_24 (by decide) (fun q => ?_) (fun q => ?_)
      · replace h := h.1 q
        refine pw_iconst (v := 0) C dX8_lays_50 (by decide) ?_
        exact pw_zret (b := false) C hT dX8_lays_51 h
      · replace h := h.2 q
        refine pw_iload C dX8_lays_27 4 rfl ?_
        refine pw_callS C dX8_lays_29 (k_X8_isRate v4 σ ) gm_X8_isRate gl_RX8_259 rfl hR (by decide) (by decide) rfl (Nat.le_of_ble_eq_true rfl) ?_
        rintro _ _ ⟨_, rfl, rfl, rfl⟩
        show PW x G 6 32 [(0, .ref (G.1 + 189)), (1, .int v1), (2, .int v2), (3, .int v3), (4, .int v4), (5, .int v5)] [.int (gz (if (lg_cmp v4.toInt64 1) < 0 then false else (if 0 < (lg_cmp v4.toInt64 6) then false else true : Bool) : Bool))] σ
        refine pw_z_eq (tgt := 50) C dX8_lays_32 (by decide) (fun q => ?_) (fun q => ?_)
        · replace h := h.1 q
          refine pw_iconst (v := 0) C dX8_lays_50 (by decide) ?_
          exact pw_zret (b := false) C hT dX8_lays_51 h
        · replace h := h.2 q
          refine pw_aload_n C dX8_lays_35 rfl 0 rfl ?_
          refine pw_aload_n C dX8_lays_36 rfl 0 rfl ?_
          refine pw_getr C dX8_lays_37 gf_RX8_19 gk_189.1 gk_189.2 rfl ?_
          refine pw_iload_n C dX8_lays_40 rfl 1 rfl ?_
          refine pw_iload_n C dX8_lays_41 rfl 2 rfl ?_
          refine pw_iload C dX8_lays_42 5 rfl ?_
          obtain ⟨Φ1, hM, h⟩ := h
          refine pw_callV C dX8_lays_44 hM gm_X8_canLay gl_RX8_183 rfl hR (by decide) (by decide) (by decide) rfl gk_189.1 gk_189.2 rfl (Nat.le_of_ble_eq_true rfl) ?_
          rintro _ τ2 ⟨r3, rfl, hv⟩
          replace h := h r3 τ2 hv
          show PW x G 6 47 [(0, .ref (G.1 + 189)), (1, .int v1), (2, .int v2), (3, .int v3), (4, .int v4), (5, .int v5)] [.int (gz r3)] τ2
          refine pw_z_ne (tgt := 52) C dX8_lays_47 (by decide) (fun q => ?_) (fun q => ?_)
          · replace h := h.1 q
            refine pw_aload_n C dX8_lays_52 rfl 0 rfl ?_
            refine pw_getr C dX8_lays_53 gf_RX8_19 gk_189.1 gk_189.2 rfl ?_
            refine pw_iload_n C dX8_lays_56 rfl 1 rfl ?_
            refine pw_iload_n C dX8_lays_57 rfl 2 rfl ?_
            refine pw_iload_n C dX8_lays_58 rfl 3 rfl ?_
            refine pw_iload C dX8_lays_59 4 rfl ?_
            refine pw_iload C dX8_lays_61 5 rfl ?_
            obtain ⟨Φ4, hM, h⟩ := h
            refine pw_callS C dX8_lays_63 hM gm_X8_layIn gl_RX8_187 rfl hR (by decide) (by decide) rfl (Nat.le_of_ble_eq_true rfl) ?_
            rintro _ τ5 ⟨rfl, hv⟩
            replace h := h τ5 hv
            show PW x G 6 66 [(0, .ref (G.1 + 189)), (1, .int v1), (2, .int v2), (3, .int v3), (4, .int v4), (5, .int v5)] [] τ5
            refine pw_iconst (v := 1) C dX8_lays_66 (by decide) ?_
            exact pw_zret (b := true) C hT dX8_lays_67 h
          · replace h := h.2 q
            refine pw_iconst (v := 0) C dX8_lays_50 (by decide) ?_
            exact pw_zret (b := false) C hT dX8_lays_51 h
set_option maxRecDepth 4000 in
theorem sg_X8_cuts_0 {x : gw_X} {G : gw_G} {Φ : Bool → gw_S → Prop} (C : XC x G RX8 cX8_cuts 2 (some .boolean)) (hR : gw_ok x 2) (hT : RT x G (fz Φ)) (v1 : Int32) (σ : gw_S)
    (h : (v1 < (σ.1 193 ((1 : Int32).toNatClampNeg)) → ∃ Φ1 : gw_S → Prop, gw_M (xl x) G yX8_cutIn cX8_cutIn 2 none 1 [.ref (G.1 + 193), .int v1] σ (fv Φ1) ∧ ∀ (τ2 : gw_S), Φ1 τ2 → (Φ true τ2)) ∧ (¬ (v1 < (σ.1 193 ((1 : Int32).toNatClampNeg))) → Φ false σ)) : PW x G 2 0 [(0, .ref (G.1 + 189)), (1, .int v1)] [] σ := by
  refine pw_iload_n C dX8_cuts_0 rfl 1 rfl ?_
  refine pw_aload_n C dX8_cuts_1 rfl 0 rfl ?_
  refine pw_getr C dX8_cuts_2 gf_RX8_19 gk_189.1 gk_189.2 rfl ?_
  refine pw_iconst (v := 1) C dX8_cuts_5 (by decide) ?_
  refine pw_iald C dX8_cuts_6 gk_193.1 gk_193.2 (by show ¬ (_ ∨ _); decide) ?_
  refine pw_icmp_lt (tgt := 12) C dX8_cuts_7 (by decide) (fun q => ?_) (fun q => ?_)
  · replace h := h.1 q
    refine pw_aload_n C dX8_cuts_12 rfl 0 rfl ?_
    refine pw_getr C dX8_cuts_13 gf_RX8_19 gk_189.1 gk_189.2 rfl ?_
    refine pw_iload_n C dX8_cuts_16 rfl 1 rfl ?_
    obtain ⟨Φ1, hM, h⟩ := h
    refine pw_callS C dX8_cuts_17 hM gm_X8_cutIn gl_RX8_191 rfl hR (by decide) (by decide) rfl (Nat.le_of_ble_eq_true rfl) ?_
    rintro _ τ2 ⟨rfl, hv⟩
    replace h := h τ2 hv
    show PW x G 2 20 [(0, .ref (G.1 + 189)), (1, .int v1)] [] τ2
    refine pw_iconst (v := 1) C dX8_cuts_20 (by decide) ?_
    exact pw_zret (b := true) C hT dX8_cuts_21 h
  · replace h := h.2 q
    refine pw_iconst (v := 0) C dX8_cuts_10 (by decide) ?_
    exact pw_zret (b := false) C hT dX8_cuts_11 h
set_option maxRecDepth 4000 in
theorem sg_X8_puts_0 {x : gw_X} {G : gw_G} {Φ : Bool → gw_S → Prop} (C : XC x G RX8 cX8_puts 3 (some .boolean)) (hR : gw_ok x 4) (hT : RT x G (fz Φ)) (v1 : Int32) (v2 : Int32) (σ : gw_S)
    (h : ((σ.1 193 ((1 : Int32).toNatClampNeg)) ≤ v1 → Φ false σ) ∧ (¬ ((σ.1 193 ((1 : Int32).toNatClampNeg)) ≤ v1) → ∃ Φ1 : Bool → gw_S → Prop, gw_M (xl x) G yX8_canPut cX8_canPut 4 (some .boolean) 3 [.ref (G.1 + 189), .ref (G.1 + 193), .int v1, .int v2] σ (fz Φ1) ∧ ∀ (r3 : Bool) (τ2 : gw_S), Φ1 r3 τ2 → ((¬ (r3 = false) → vp_in ((26 + (5 * v1)) + 4) 96 ∧ (∀ τ5 : gw_S, τ5 = gw_u τ2 193 (((26 + (5 * v1)) + 4).toNatClampNeg) v2 → (Φ true τ5))) ∧ (r3 = false → Φ false τ2)))) : PW x G 3 0 [(0, .ref (G.1 + 189)), (1, .int v1), (2, .int v2)] [] σ := by
  refine pw_iload_n C dX8_puts_0 rfl 1 rfl ?_
  refine pw_aload_n C dX8_puts_1 rfl 0 rfl ?_
  refine pw_getr C dX8_puts_2 gf_RX8_19 gk_189.1 gk_189.2 rfl ?_
  refine pw_iconst (v := 1) C dX8_puts_5 (by decide) ?_
  refine pw_iald C dX8_puts_6 gk_193.1 gk_193.2 (by show ¬ (_ ∨ _); decide) ?_
  refine pw_icmp_ge (tgt := 23) C dX8_puts_7 (by decide) (fun q => ?_) (fun q => ?_)
  · replace h := h.1 q
    refine pw_iconst (v := 0) C dX8_puts_23 (by decide) ?_
    exact pw_zret (b := false) C hT dX8_puts_24 h
  · replace h := h.2 q
    refine pw_aload_n C dX8_puts_10 rfl 0 rfl ?_
    refine pw_aload_n C dX8_puts_11 rfl 0 rfl ?_
    refine pw_getr C dX8_puts_12 gf_RX8_19 gk_189.1 gk_189.2 rfl ?_
    refine pw_iload_n C dX8_puts_15 rfl 1 rfl ?_
    refine pw_iload_n C dX8_puts_16 rfl 2 rfl ?_
    obtain ⟨Φ1, hM, h⟩ := h
    refine pw_callV C dX8_puts_17 hM gm_X8_canPut gl_RX8_265 rfl hR (by decide) (by decide) (by decide) rfl gk_189.1 gk_189.2 rfl (Nat.le_of_ble_eq_true rfl) ?_
    rintro _ τ2 ⟨r3, rfl, hv⟩
    replace h := h r3 τ2 hv
    show PW x G 3 20 [(0, .ref (G.1 + 189)), (1, .int v1), (2, .int v2)] [.int (gz r3)] τ2
    refine pw_z_ne (tgt := 25) C dX8_puts_20 (by decide) (fun q => ?_) (fun q => ?_)
    · replace h := h.1 q
      refine pw_aload_n C dX8_puts_25 rfl 0 rfl ?_
      refine pw_getr C dX8_puts_26 gf_RX8_19 gk_189.1 gk_189.2 rfl ?_
      refine pw_iload_n C dX8_puts_29 rfl 1 rfl ?_
      refine pw_iconst (v := 4) C dX8_puts_30 (by decide) ?_
      refine pw_callS C dX8_puts_31 (k_X8_wireAt v1 4 τ2 ) gm_X8_wireAt gl_RX8_73 rfl hR (by decide) (by decide) rfl (Nat.le_of_ble_eq_true rfl) ?_
      rintro _ _ ⟨_, rfl, rfl, rfl⟩
      show PW x G 3 34 [(0, .ref (G.1 + 189)), (1, .int v1), (2, .int v2)] [.int ((26 + (5 * v1)) + 4), .ref (G.1 + 193)] τ2
      refine pw_iload_n C dX8_puts_34 rfl 2 rfl ?_
      obtain ⟨g4, h⟩ := h
      refine pw_iast C dX8_puts_35 gk_193.1 gk_193.2 g4 ?_
      generalize hτ5 : gw_u τ2 193 (((26 + (5 * v1)) + 4).toNatClampNeg) v2 = τ5
      replace h := h τ5 hτ5.symm
      show PW x G 3 36 [(0, .ref (G.1 + 189)), (1, .int v1), (2, .int v2)] [] τ5
      refine pw_iconst (v := 1) C dX8_puts_36 (by decide) ?_
      exact pw_zret (b := true) C hT dX8_puts_37 h
    · replace h := h.2 q
      refine pw_iconst (v := 0) C dX8_puts_23 (by decide) ?_
      exact pw_zret (b := false) C hT dX8_puts_24 h
set_option maxRecDepth 4000 in
theorem sg_X8_worksOne_0 {x : gw_X} {G : gw_G} {Φ : Bool → gw_S → Prop} (C : XC x G RX8 cX8_worksOne 2 (some .boolean)) (hR : gw_ok x 2) (hT : RT x G (fz Φ)) (v1 : Int32) (σ : gw_S)
    (h : ((σ.1 193 ((0 : Int32).toNatClampNeg)) ≤ v1 → Φ false σ) ∧ (¬ ((σ.1 193 ((0 : Int32).toNatClampNeg)) ≤ v1) → ∃ Φ1 : Bool → gw_S → Prop, gw_M (xl x) G yX8_canWork cX8_canWork 7 (some .boolean) 1 [.ref (G.1 + 193), .int v1] σ (fz Φ1) ∧ ∀ (r3 : Bool) (τ2 : gw_S), Φ1 r3 τ2 → ((¬ (r3 = false) → ∃ Φ4 : gw_S → Prop, gw_M (xl x) G yX8_workIn cX8_workIn 3 none 1 [.ref (G.1 + 193), .int v1] τ2 (fv Φ4) ∧ ∀ (τ5 : gw_S), Φ4 τ5 → (Φ true τ5)) ∧ (r3 = false → Φ false τ2)))) : PW x G 2 0 [(0, .ref (G.1 + 189)), (1, .int v1)] [] σ := by
  refine pw_iload_n C dX8_worksOne_0 rfl 1 rfl ?_
  refine pw_aload_n C dX8_worksOne_1 rfl 0 rfl ?_
  refine pw_getr C dX8_worksOne_2 gf_RX8_19 gk_189.1 gk_189.2 rfl ?_
  refine pw_iconst (v := 0) C dX8_worksOne_5 (by decide) ?_
  refine pw_iald C dX8_worksOne_6 gk_193.1 gk_193.2 (by show ¬ (_ ∨ _); decide) ?_
  refine pw_icmp_ge (tgt := 21) C dX8_worksOne_7 (by decide) (fun q => ?_) (fun q => ?_)
  · replace h := h.1 q
    refine pw_iconst (v := 0) C dX8_worksOne_21 (by decide) ?_
    exact pw_zret (b := false) C hT dX8_worksOne_22 h
  · replace h := h.2 q
    refine pw_aload_n C dX8_worksOne_10 rfl 0 rfl ?_
    refine pw_getr C dX8_worksOne_11 gf_RX8_19 gk_189.1 gk_189.2 rfl ?_
    refine pw_iload_n C dX8_worksOne_14 rfl 1 rfl ?_
    obtain ⟨Φ1, hM, h⟩ := h
    refine pw_callS C dX8_worksOne_15 hM gm_X8_canWork gl_RX8_106 rfl hR (by decide) (by decide) rfl (Nat.le_of_ble_eq_true rfl) ?_
    rintro _ τ2 ⟨r3, rfl, hv⟩
    replace h := h r3 τ2 hv
    show PW x G 2 18 [(0, .ref (G.1 + 189)), (1, .int v1)] [.int (gz r3)] τ2
    refine pw_z_ne (tgt := 23) C dX8_worksOne_18 (by decide) (fun q => ?_) (fun q => ?_)
    · replace h := h.1 q
      refine pw_aload_n C dX8_worksOne_23 rfl 0 rfl ?_
      refine pw_getr C dX8_worksOne_24 gf_RX8_19 gk_189.1 gk_189.2 rfl ?_
      refine pw_iload_n C dX8_worksOne_27 rfl 1 rfl ?_
      obtain ⟨Φ4, hM, h⟩ := h
      refine pw_callS C dX8_worksOne_28 hM gm_X8_workIn gl_RX8_124 rfl hR (by decide) (by decide) rfl (Nat.le_of_ble_eq_true rfl) ?_
      rintro _ τ5 ⟨rfl, hv⟩
      replace h := h τ5 hv
      show PW x G 2 31 [(0, .ref (G.1 + 189)), (1, .int v1)] [] τ5
      refine pw_iconst (v := 1) C dX8_worksOne_31 (by decide) ?_
      exact pw_zret (b := true) C hT dX8_worksOne_32 h
    · replace h := h.2 q
      refine pw_iconst (v := 0) C dX8_worksOne_21 (by decide) ?_
      exact pw_zret (b := false) C hT dX8_worksOne_22 h
set_option maxRecDepth 4000 in
theorem sg_X8_rounds_0 {x : gw_X} {G : gw_G} {Φ : Bool → gw_S → Prop} (C : XC x G RX8 cX8_rounds 2 (some .boolean)) (hR : gw_ok x 5) (hT : RT x G (fz Φ)) (v1 : Int32) (σ : gw_S)
    (h : ((if (lg_cmp v1.toInt64 0) < 0 then false else (if 0 < (lg_cmp v1.toInt64 2) then false else true : Bool) : Bool) = false → Φ false σ) ∧ (¬ ((if (lg_cmp v1.toInt64 0) < 0 then false else (if 0 < (lg_cmp v1.toInt64 2) then false else true : Bool) : Bool) = false) → ∃ Φ1 : Bool → gw_S → Prop, gw_M (xl x) G yX8_layWorks cX8_layWorks 11 (some .boolean) 4 [.ref (G.1 + 189), .ref (G.1 + 193)] σ (fz Φ1) ∧ ∀ (r3 : Bool) (τ2 : gw_S), Φ1 r3 τ2 → ((¬ (r3 = false) → ∃ Φ4 : gw_S → Prop, gw_M (xl x) G yX8_copy cX8_copy 6 none 0 [.ref (G.1 + 193), .int 0, .ref (G.1 + 205), .int 0, .int 96] τ2 (fv Φ4) ∧ ∀ (τ5 : gw_S), Φ4 τ5 → (∃ Φ6 : gw_S → Prop, gw_M (xl x) G yX8_play cX8_play 6 none 3 [.ref (G.1 + 189), .ref (G.1 + 193), .int v1] τ5 (fv Φ6) ∧ ∀ (τ7 : gw_S), Φ6 τ7 → ((¬ ((τ7.1 189 22) = 0) → ∃ b8 : Bool, τ7.1 189 22 = gz b8 ∧ Φ b8 τ7) ∧ ((τ7.1 189 22) = 0 → ∃ Φ9 : gw_S → Prop, gw_M (xl x) G yX8_copy cX8_copy 6 none 0 [.ref (G.1 + 205), .int 0, .ref (G.1 + 193), .int 0, .int 96] τ7 (fv Φ9) ∧ ∀ (τ10 : gw_S), Φ9 τ10 → (∃ b11 : Bool, τ10.1 189 22 = gz b11 ∧ Φ b11 τ10))))) ∧ (r3 = false → Φ false τ2)))) : PW x G 2 0 [(0, .ref (G.1 + 189)), (1, .int v1)] [] σ := by
  refine pw_iload_n C dX8_rounds_0 rfl 1 rfl ?_
  refine pw_callS C dX8_rounds_1 (k_X8_isRule v1 σ ) gm_X8_isRule gl_RX8_270 rfl hR (by decide) (by decide) rfl (Nat.le_of_ble_eq_true rfl) ?_
  rintro _ _ ⟨_, rfl, rfl, rfl⟩
  show PW x G 2 4 [(0, .ref (G.1 + 189)), (1, .int v1)] [.int (gz (if (lg_cmp v1.toInt64 0) < 0 then false else (if 0 < (lg_cmp v1.toInt64 2) then false else true : Bool) : Bool))] σ
  refine pw_z_eq (tgt := 18) C dX8_rounds_4 (by decide) (fun q => ?_) (fun q => ?_)
  · replace h := h.1 q
    refine pw_iconst (v := 0) C dX8_rounds_18 (by decide) ?_
    exact pw_zret (b := false) C hT dX8_rounds_19 h
  · replace h := h.2 q
    refine pw_aload_n C dX8_rounds_7 rfl 0 rfl ?_
    refine pw_aload_n C dX8_rounds_8 rfl 0 rfl ?_
    refine pw_getr C dX8_rounds_9 gf_RX8_19 gk_189.1 gk_189.2 rfl ?_
    obtain ⟨Φ1, hM, h⟩ := h
    refine pw_callV C dX8_rounds_12 hM gm_X8_layWorks gl_RX8_134 rfl hR (by decide) (by decide) (by decide) rfl gk_189.1 gk_189.2 rfl (Nat.le_of_ble_eq_true rfl) ?_
    rintro _ τ2 ⟨r3, rfl, hv⟩
    replace h := h r3 τ2 hv
    show PW x G 2 15 [(0, .ref (G.1 + 189)), (1, .int v1)] [.int (gz r3)] τ2
    refine pw_z_ne (tgt := 20) C dX8_rounds_15 (by decide) (fun q => ?_) (fun q => ?_)
    · replace h := h.1 q
      refine pw_aload_n C dX8_rounds_20 rfl 0 rfl ?_
      refine pw_getr C dX8_rounds_21 gf_RX8_19 gk_189.1 gk_189.2 rfl ?_
      refine pw_iconst (v := 0) C dX8_rounds_24 (by decide) ?_
      refine pw_aload_n C dX8_rounds_25 rfl 0 rfl ?_
      refine pw_getr C dX8_rounds_26 gf_RX8_57 gk_189.1 gk_189.2 rfl ?_
      refine pw_iconst (v := 0) C dX8_rounds_29 (by decide) ?_
      refine pw_bipush (v := 96) C dX8_rounds_30 (by decide) ?_
      obtain ⟨Φ4, hM, h⟩ := h
      refine pw_callS C dX8_rounds_32 hM gm_X8_copy gl_RX8_69 rfl hR (by decide) (by decide) rfl (Nat.le_of_ble_eq_true rfl) ?_
      rintro _ τ5 ⟨rfl, hv⟩
      replace h := h τ5 hv
      show PW x G 2 35 [(0, .ref (G.1 + 189)), (1, .int v1)] [] τ5
      refine pw_aload_n C dX8_rounds_35 rfl 0 rfl ?_
      refine pw_aload_n C dX8_rounds_36 rfl 0 rfl ?_
      refine pw_getr C dX8_rounds_37 gf_RX8_19 gk_189.1 gk_189.2 rfl ?_
      refine pw_iload_n C dX8_rounds_40 rfl 1 rfl ?_
      obtain ⟨Φ6, hM, h⟩ := h
      refine pw_callV C dX8_rounds_41 hM gm_X8_play gl_RX8_138 rfl hR (by decide) (by decide) (by decide) rfl gk_189.1 gk_189.2 rfl (Nat.le_of_ble_eq_true rfl) ?_
      rintro _ τ7 ⟨rfl, hv⟩
      replace h := h τ7 hv
      show PW x G 2 44 [(0, .ref (G.1 + 189)), (1, .int v1)] [] τ7
      refine pw_aload_n C dX8_rounds_44 rfl 0 rfl ?_
      refine pw_geti C dX8_rounds_45 gf_RX8_127 gk_189.1 gk_189.2 rfl ?_
      refine pw_if_ne (tgt := 66) C dX8_rounds_48 (by decide) (fun q => ?_) (fun q => ?_)
      · replace h := h.1 q
        refine pw_aload_n C dX8_rounds_66 rfl 0 rfl ?_
        refine pw_geti C dX8_rounds_67 gf_RX8_127 gk_189.1 gk_189.2 rfl ?_
        obtain ⟨b, hb9, h⟩ := h
        rw [hb9]
        exact pw_zret C hT dX8_rounds_70 h
      · replace h := h.2 q
        refine pw_aload_n C dX8_rounds_51 rfl 0 rfl ?_
        refine pw_getr C dX8_rounds_52 gf_RX8_57 gk_189.1 gk_189.2 rfl ?_
        refine pw_iconst (v := 0) C dX8_rounds_55 (by decide) ?_
        refine pw_aload_n C dX8_rounds_56 rfl 0 rfl ?_
        refine pw_getr C dX8_rounds_57 gf_RX8_19 gk_189.1 gk_189.2 rfl ?_
        refine pw_iconst (v := 0) C dX8_rounds_60 (by decide) ?_
        refine pw_bipush (v := 96) C dX8_rounds_61 (by decide) ?_
        obtain ⟨Φ9, hM, h⟩ := h
        refine pw_callS C dX8_rounds_63 hM gm_X8_copy gl_RX8_69 rfl hR (by decide) (by decide) rfl (Nat.le_of_ble_eq_true rfl) ?_
        rintro _ τ10 ⟨rfl, hv⟩
        replace h := h τ10 hv
        show PW x G 2 66 [(0, .ref (G.1 + 189)), (1, .int v1)] [] τ10
        refine pw_aload_n C dX8_rounds_66 rfl 0 rfl ?_
        refine pw_geti C dX8_rounds_67 gf_RX8_127 gk_189.1 gk_189.2 rfl ?_
        obtain ⟨b, hb9, h⟩ := h
        rw [hb9]
        exact pw_zret C hT dX8_rounds_70 h
    · replace h := h.2 q
      refine pw_iconst (v := 0) C dX8_rounds_18 (by decide) ?_
      exact pw_zret (b := false) C hT dX8_rounds_19 h
set_option maxRecDepth 4000 in
theorem sg_X8_does_0 {x : gw_X} {G : gw_G} {Φ : Bool → gw_S → Prop} (C : XC x G RX8 cX8_does 6 (some .boolean)) (hR : gw_ok x 6) (hT : RT x G (fz Φ)) (v1 : Int32) (σ : gw_S)
    (h : ((v1 / 100000).toInt < 1 ∨ 9 < (v1 / 100000).toInt → Φ false σ) ∧ ((v1 / 100000).toInt = 1 → ∃ Φ1 : Bool → gw_S → Prop, gw_M (xl x) G yX8_lays cX8_lays 6 (some .boolean) 4 [.ref (G.1 + 189), .int ((v1 - v1 / 100000 * 100000) / 10000), .int (((v1 - v1 / 100000 * 100000) / 1000) - ((v1 - v1 / 100000 * 100000) / 1000) / 10 * 10), .int (((v1 - v1 / 100000 * 100000) / 100) - ((v1 - v1 / 100000 * 100000) / 100) / 10 * 10), .int (((v1 - v1 / 100000 * 100000) / 10) - ((v1 - v1 / 100000 * 100000) / 10) / 10 * 10), .int ((v1 - v1 / 100000 * 100000) - (v1 - v1 / 100000 * 100000) / 10 * 10)] σ (fz Φ1) ∧ ∀ (r3 : Bool) (τ2 : gw_S), Φ1 r3 τ2 → (Φ r3 τ2)) ∧ ((v1 / 100000).toInt = 2 → (100 ≤ (v1 - v1 / 100000 * 100000) → Φ false σ) ∧ (¬ (100 ≤ (v1 - v1 / 100000 * 100000)) → ∃ Φ4 : Bool → gw_S → Prop, gw_M (xl x) G yX8_cuts cX8_cuts 2 (some .boolean) 2 [.ref (G.1 + 189), .int (v1 - v1 / 100 * 100)] σ (fz Φ4) ∧ ∀ (r6 : Bool) (τ5 : gw_S), Φ4 r6 τ5 → (Φ (if r6 = false then false else true : Bool) τ5))) ∧ ((v1 / 100000).toInt = 3 → (10000 ≤ (v1 - v1 / 100000 * 100000) → Φ false σ) ∧ (¬ (10000 ≤ (v1 - v1 / 100000 * 100000)) → ∃ Φ7 : Bool → gw_S → Prop, gw_M (xl x) G yX8_puts cX8_puts 3 (some .boolean) 4 [.ref (G.1 + 189), .int (((v1 - v1 / 100000 * 100000) / 100) - ((v1 - v1 / 100000 * 100000) / 100) / 100 * 100), .int (v1 - v1 / 100 * 100)] σ (fz Φ7) ∧ ∀ (r9 : Bool) (τ8 : gw_S), Φ7 r9 τ8 → (Φ (if r9 = false then false else true : Bool) τ8))) ∧ ((v1 / 100000).toInt = 4 → (10 ≤ (v1 - v1 / 100000 * 100000) → Φ false σ) ∧ (¬ (10 ≤ (v1 - v1 / 100000 * 100000)) → ∃ Φ10 : Bool → gw_S → Prop, gw_M (xl x) G yX8_worksOne cX8_worksOne 2 (some .boolean) 2 [.ref (G.1 + 189), .int (v1 - v1 / 100000 * 100000)] σ (fz Φ10) ∧ ∀ (r12 : Bool) (τ11 : gw_S), Φ10 r12 τ11 → (Φ (if r12 = false then false else true : Bool) τ11))) ∧ ((v1 / 100000).toInt = 5 → (10 ≤ (v1 - v1 / 100000 * 100000) → Φ false σ) ∧ (¬ (10 ≤ (v1 - v1 / 100000 * 100000)) → ∃ Φ13 : Bool → gw_S → Prop, gw_M (xl x) G yX8_rounds cX8_rounds 2 (some .boolean) 5 [.ref (G.1 + 189), .int (v1 - v1 / 100000 * 100000)] σ (fz Φ13) ∧ ∀ (r15 : Bool) (τ14 : gw_S), Φ13 r15 τ14 → (Φ (if r15 = false then false else true : Bool) τ14))) ∧ ((v1 / 100000).toInt = 6 → (¬ ((v1 - v1 / 100000 * 100000) = 0) → Φ false σ) ∧ ((v1 - v1 / 100000 * 100000) = 0 → ∃ Φ16 : Bool → gw_S → Prop, gw_M (xl x) G yX8_layWorks cX8_layWorks 11 (some .boolean) 4 [.ref (G.1 + 189), .ref (G.1 + 193)] σ (fz Φ16) ∧ ∀ (r18 : Bool) (τ17 : gw_S), Φ16 r18 τ17 → (Φ (if r18 = false then false else true : Bool) τ17))) ∧ ((v1 / 100000).toInt = 7 → ((10000 ≤ (v1 - v1 / 100000 * 100000) → True) ∧ (¬ (10000 ≤ (v1 - v1 / 100000 * 100000)) → (((σ.1 193 ((1 : Int32).toNatClampNeg)) ≤ (((v1 - v1 / 100000 * 100000) / 100) - ((v1 - v1 / 100000 * 100000) / 100) / 100 * 100) → True) ∧ (¬ ((σ.1 193 ((1 : Int32).toNatClampNeg)) ≤ (((v1 - v1 / 100000 * 100000) / 100) - ((v1 - v1 / 100000 * 100000) / 100) / 100 * 100)) → vp_in ((26 + (5 * (((v1 - v1 / 100000 * 100000) / 100) - ((v1 - v1 / 100000 * 100000) / 100) / 100 * 100))) + 4) 96 ∧ (True))))) ∧ (Φ (if 10000 ≤ (v1 - v1 / 100000 * 100000) then false else (if (σ.1 193 ((1 : Int32).toNatClampNeg)) ≤ (((v1 - v1 / 100000 * 100000) / 100) - ((v1 - v1 / 100000 * 100000) / 100) / 100 * 100) then false else (if (σ.1 193 (((26 + (5 * (((v1 - v1 / 100000 * 100000) / 100) - ((v1 - v1 / 100000 * 100000) / 100) / 100 * 100))) + 4).toNatClampNeg)) < (v1 - v1 / 100 * 100) then false else true : Bool) : Bool) : Bool) σ)) ∧ ((v1 / 100000).toInt = 8 → (1000 ≤ (v1 - v1 / 100000 * 100000) → Φ false σ) ∧ (¬ (1000 ≤ (v1 - v1 / 100000 * 100000)) → ∃ Φ20 : Int32 → gw_S → Prop, gw_M (xl x) G yX8_marks cX8_marks 3 (some .int) 1 [.ref (G.1 + 193)] σ (fi Φ20) ∧ ∀ (r22 : Int32) (τ21 : gw_S), Φ20 r22 τ21 → (Φ (if (v1 - v1 / 100000 * 100000) < r22 then false else true : Bool) τ21))) ∧ ((v1 / 100000).toInt = 9 → ((1000 ≤ (v1 - v1 / 100000 * 100000) → True) ∧ (¬ (1000 ≤ (v1 - v1 / 100000 * 100000)) → (((σ.1 193 ((0 : Int32).toNatClampNeg)) ≤ ((v1 - v1 / 100000 * 100000) / 100) → True) ∧ (¬ ((σ.1 193 ((0 : Int32).toNatClampNeg)) ≤ ((v1 - v1 / 100000 * 100000) / 100)) → vp_in ((2 + (3 * ((v1 - v1 / 100000 * 100000) / 100))) + 2) 96 ∧ (True))))) ∧ (Φ (if 1000 ≤ (v1 - v1 / 100000 * 100000) then false else (if (σ.1 193 ((0 : Int32).toNatClampNeg)) ≤ ((v1 - v1 / 100000 * 100000) / 100) then false else (if (σ.1 193 (((2 + (3 * ((v1 - v1 / 100000 * 100000) / 100))) + 2).toNatClampNeg)) < (v1 - v1 / 100 * 100) then false else true : Bool) : Bool) : Bool) σ))) : PW x G 6 0 [(0, .ref (G.1 + 189)), (1, .int v1)] [] σ := by
  refine pw_iload_n C dX8_does_0 rfl 1 rfl ?_
  refine pw_ldcw C dX8_does_1 gl_RX8_276 ?_
  refine pw_idiv C dX8_does_4 (by decide) ?_
  refine pw_istore_n C dX8_does_5 rfl (by decide) rfl ?_
  refine pw_iload_n C dX8_does_6 rfl 2 rfl ?_
  refine pw_ldcw C dX8_does_7 gl_RX8_276 ?_
  refine pw_irem C dX8_does_10 (by decide) ?_
  refine pw_istore_n C dX8_does_11 rfl (by decide) rfl ?_
  refine pw_iload_n C dX8_does_12 rfl 3 rfl ?_
  refine pw_bipush (v := 100) C dX8_does_13 (by decide) ?_
  refine pw_irem C dX8_does_15 (by decide) ?_
  refine pw_istore C dX8_does_16 (by decide) rfl ?_
  refine pw_iload_n C dX8_does_18 rfl 1 rfl ?_
  refine pw_bipush (v := 100) C dX8_does_19 (by decide) ?_
  refine pw_idiv C dX8_does_21 (by decide) ?_
  refine pw_bipush (v := 100) C dX8_does_22 (by decide) ?_
  refine pw_irem C dX8_does_24 (by decide) ?_
  refine pw_istore C dX8_does_25 (by decide) rfl ?_
  refine pw_iload_n C dX8_does_27 rfl 3 rfl ?_
  rcases Classical.em ((v1 / 100000).toInt < 1 ∨ 9 < (v1 / 100000).toInt) with q | q
  · replace h := h.1 q
    refine pw_tout (tgt := 330) C dX8_does_28 q (by decide) ?_
    refine pw_iconst (v := 0) C dX8_does_330 (by decide) ?_
    exact pw_zret (b := false) C hT dX8_does_331 h
  · replace h := h.2
    have q2 : (v1 / 100000).toInt = 1 ∨ (v1 / 100000).toInt = 2 ∨ (v1 / 100000).toInt = 3 ∨ (v1 / 100000).toInt = 4 ∨ (v1 / 100000).toInt = 5 ∨ (v1 / 100000).toInt = 6 ∨ (v1 / 100000).toInt = 7 ∨ (v1 / 100000).toInt = 8 ∨ (v1 / 100000).toInt = 9 := by omega
    rcases q2 with q2 | q2 | q2 | q2 | q2 | q2 | q2 | q2 | q2
    · replace h := h.1 q2
      refine pw_tin (tgt := 80) (off := 52) C 1 dX8_does_28 q2 (by decide) (by decide) rfl (by decide) ?_
      refine pw_aload_n C dX8_does_80 rfl 4 rfl ?_
      refine pw_iload_n C dX8_does_81 rfl 2 rfl ?_
      refine pw_sipush (v := 10000) C dX8_does_82 (by decide) ?_
      refine pw_idiv C dX8_does_85 (by decide) ?_
      refine pw_iload_n C dX8_does_86 rfl 2 rfl ?_
      refine pw_sipush (v := 1000) C dX8_does_87 (by decide) ?_
      refine pw_idiv C dX8_does_90 (by decide) ?_
      refine pw_bipush (v := 10) C dX8_does_91 (by decide) ?_
      refine pw_irem C dX8_does_93 (by decide) ?_
      refine pw_iload_n C dX8_does_94 rfl 2 rfl ?_
      refine pw_bipush (v := 100) C dX8_does_95 (by decide) ?_
      refine pw_idiv C dX8_does_97 (by decide) ?_
      refine pw_bipush (v := 10) C dX8_does_98 (by decide) ?_
      refine pw_irem C dX8_does_100 (by decide) ?_
      refine pw_iload_n C dX8_does_101 rfl 2 rfl ?_
      refine pw_bipush (v := 10) C dX8_does_102 (by decide) ?_
      refine pw_idiv C dX8_does_104 (by decide) ?_
      refine pw_bipush (v := 10) C dX8_does_105 (by decide) ?_
      refine pw_irem C dX8_does_107 (by decide) ?_
      refine pw_iload_n C dX8_does_108 rfl 2 rfl ?_
      refine pw_bipush (v := 10) C dX8_does_109 (by decide) ?_
      refine pw_irem C dX8_does_111 (by decide) ?_
      obtain ⟨Φ1, hM, h⟩ := h
      refine pw_callV C dX8_does_112 hM gm_X8_lays gl_RX8_277 rfl hR (by decide) (by decide) (by decide) rfl gk_189.1 gk_189.2 rfl (Nat.le_of_ble_eq_true rfl) ?_
      rintro _ τ2 ⟨r3, rfl, hv⟩
      replace h := h r3 τ2 hv
      show PW x G 6 115 [(5, .int (((v1 - v1 / 100000 * 100000) / 100) - ((v1 - v1 / 100000 * 100000) / 100) / 100 * 100)), (4, .int (v1 - v1 / 100 * 100)), (3, .int (v1 - v1 / 100000 * 100000)), (2, .int (v1 / 100000)), (0, .ref (G.1 + 189)), (1, .int v1)] [.int (gz r3)] τ2
      exact pw_zret (b := r3) C hT dX8_does_115 h
    · replace h := h.2.1 q2
      refine pw_tin (tgt := 116) (off := 88) C 2 dX8_does_28 q2 (by decide) (by decide) rfl (by decide) ?_
      refine pw_iload_n C dX8_does_116 rfl 2 rfl ?_
      refine pw_bipush (v := 100) C dX8_does_117 (by decide) ?_
      refine pw_icmp_ge (tgt := 135) C dX8_does_119 (by decide) (fun q => ?_) (fun q => ?_)
      · replace h := h.1 q
        refine pw_iconst (v := 0) C dX8_does_135 (by decide) ?_
        exact pw_zret (b := false) C hT dX8_does_136 h
      · replace h := h.2 q
        refine pw_aload_n C dX8_does_122 rfl 4 rfl ?_
        refine pw_iload C dX8_does_123 1 rfl ?_
        obtain ⟨Φ4, hM, h⟩ := h
        refine pw_callV C dX8_does_125 hM gm_X8_cuts gl_RX8_281 rfl hR (by decide) (by decide) (by decide) rfl gk_189.1 gk_189.2 rfl (Nat.le_of_ble_eq_true rfl) ?_
        rintro _ τ5 ⟨r6, rfl, hv⟩
        replace h := h r6 τ5 hv
        show PW x G 6 128 [(5, .int (((v1 - v1 / 100000 * 100000) / 100) - ((v1 - v1 / 100000 * 100000) / 100) / 100 * 100)), (4, .int (v1 - v1 / 100 * 100)), (3, .int (v1 - v1 / 100000 * 100000)), (2, .int (v1 / 100000)), (0, .ref (G.1 + 189)), (1, .int v1)] [.int (gz r6)] τ5
        have hJ : ∀ w0 : Bool, (if r6 = false then false else true : Bool) = w0 → PW x G 6 136 [(5, .int (((v1 - v1 / 100000 * 100000) / 100) - ((v1 - v1 / 100000 * 100000) / 100) / 100 * 100)), (4, .int (v1 - v1 / 100 * 100)), (3, .int (v1 - v1 / 100000 * 100000)), (2, .int (v1 / 100000)), (0, .ref (G.1 + 189)), (1, .int v1)] [.int (gz w0)] τ5 := by
          rintro _ rfl
          exact pw_zret (b := (if r6 = false then false else true : Bool)) C hT dX8_does_136 h
        clear h
        refine pw_z_eq (tgt := 135) C dX8_does_128 (by decide) (fun q4 => ?_) (fun q4 => ?_)
        · refine pw_iconst (v := 0) C dX8_does_135 (by decide) ?_
          exact hJ false (if_pos q4)
        · refine pw_iconst (v := 1) C dX8_does_131 (by decide) ?_
          refine pw_goto (tgt := 136) C dX8_does_132 (by decide) ?_
          exact hJ true (if_neg q4)
    · replace h := h.2.2.1 q2
      refine pw_tin (tgt := 137) (off := 109) C 3 dX8_does_28 q2 (by decide) (by decide) rfl (by decide) ?_
      refine pw_iload_n C dX8_does_137 rfl 2 rfl ?_
      refine pw_sipush (v := 10000) C dX8_does_138 (by decide) ?_
      refine pw_icmp_ge (tgt := 159) C dX8_does_141 (by decide) (fun q => ?_) (fun q => ?_)
      · replace h := h.1 q
        refine pw_iconst (v := 0) C dX8_does_159 (by decide) ?_
        exact pw_zret (b := false) C hT dX8_does_160 h
      · replace h := h.2 q
        refine pw_aload_n C dX8_does_144 rfl 4 rfl ?_
        refine pw_iload C dX8_does_145 0 rfl ?_
        refine pw_iload C dX8_does_147 1 rfl ?_
        obtain ⟨Φ7, hM, h⟩ := h
        refine pw_callV C dX8_does_149 hM gm_X8_puts gl_RX8_284 rfl hR (by decide) (by decide) (by decide) rfl gk_189.1 gk_189.2 rfl (Nat.le_of_ble_eq_true rfl) ?_
        rintro _ τ8 ⟨r9, rfl, hv⟩
        replace h := h r9 τ8 hv
        show PW x G 6 152 [(5, .int (((v1 - v1 / 100000 * 100000) / 100) - ((v1 - v1 / 100000 * 100000) / 100) / 100 * 100)), (4, .int (v1 - v1 / 100 * 100)), (3, .int (v1 - v1 / 100000 * 100000)), (2, .int (v1 / 100000)), (0, .ref (G.1 + 189)), (1, .int v1)] [.int (gz r9)] τ8
        have hJ : ∀ w0 : Bool, (if r9 = false then false else true : Bool) = w0 → PW x G 6 160 [(5, .int (((v1 - v1 / 100000 * 100000) / 100) - ((v1 - v1 / 100000 * 100000) / 100) / 100 * 100)), (4, .int (v1 - v1 / 100 * 100)), (3, .int (v1 - v1 / 100000 * 100000)), (2, .int (v1 / 100000)), (0, .ref (G.1 + 189)), (1, .int v1)] [.int (gz w0)] τ8 := by
          rintro _ rfl
          exact pw_zret (b := (if r9 = false then false else true : Bool)) C hT dX8_does_160 h
        clear h
        refine pw_z_eq (tgt := 159) C dX8_does_152 (by decide) (fun q4 => ?_) (fun q4 => ?_)
        · refine pw_iconst (v := 0) C dX8_does_159 (by decide) ?_
          exact hJ false (if_pos q4)
        · refine pw_iconst (v := 1) C dX8_does_155 (by decide) ?_
          refine pw_goto (tgt := 160) C dX8_does_156 (by decide) ?_
          exact hJ true (if_neg q4)
    · replace h := h.2.2.2.1 q2
      refine pw_tin (tgt := 161) (off := 133) C 4 dX8_does_28 q2 (by decide) (by decide) rfl (by decide) ?_
      refine pw_iload_n C dX8_does_161 rfl 2 rfl ?_
      refine pw_bipush (v := 10) C dX8_does_162 (by decide) ?_
      refine pw_icmp_ge (tgt := 179) C dX8_does_164 (by decide) (fun q => ?_) (fun q => ?_)
      · replace h := h.1 q
        refine pw_iconst (v := 0) C dX8_does_179 (by decide) ?_
        exact pw_zret (b := false) C hT dX8_does_180 h
      · replace h := h.2 q
        refine pw_aload_n C dX8_does_167 rfl 4 rfl ?_
        refine pw_iload_n C dX8_does_168 rfl 2 rfl ?_
        obtain ⟨Φ10, hM, h⟩ := h
        refine pw_callV C dX8_does_169 hM gm_X8_worksOne gl_RX8_288 rfl hR (by decide) (by decide) (by decide) rfl gk_189.1 gk_189.2 rfl (Nat.le_of_ble_eq_true rfl) ?_
        rintro _ τ11 ⟨r12, rfl, hv⟩
        replace h := h r12 τ11 hv
        show PW x G 6 172 [(5, .int (((v1 - v1 / 100000 * 100000) / 100) - ((v1 - v1 / 100000 * 100000) / 100) / 100 * 100)), (4, .int (v1 - v1 / 100 * 100)), (3, .int (v1 - v1 / 100000 * 100000)), (2, .int (v1 / 100000)), (0, .ref (G.1 + 189)), (1, .int v1)] [.int (gz r12)] τ11
        have hJ : ∀ w0 : Bool, (if r12 = false then false else true : Bool) = w0 → PW x G 6 180 [(5, .int (((v1 - v1 / 100000 * 100000) / 100) - ((v1 - v1 / 100000 * 100000) / 100) / 100 * 100)), (4, .int (v1 - v1 / 100 * 100)), (3, .int (v1 - v1 / 100000 * 100000)), (2, .int (v1 / 100000)), (0, .ref (G.1 + 189)), (1, .int v1)] [.int (gz w0)] τ11 := by
          rintro _ rfl
          exact pw_zret (b := (if r12 = false then false else true : Bool)) C hT dX8_does_180 h
        clear h
        refine pw_z_eq (tgt := 179) C dX8_does_172 (by decide) (fun q4 => ?_) (fun q4 => ?_)
        · refine pw_iconst (v := 0) C dX8_does_179 (by decide) ?_
          exact hJ false (if_pos q4)
        · refine pw_iconst (v := 1) C dX8_does_175 (by decide) ?_
          refine pw_goto (tgt := 180) C dX8_does_176 (by decide) ?_
          exact hJ true (if_neg q4)
    · replace h := h.2.2.2.2.1 q2
      refine pw_tin (tgt := 181) (off := 153) C 5 dX8_does_28 q2 (by decide) (by decide) rfl (by decide) ?_
      refine pw_iload_n C dX8_does_181 rfl 2 rfl ?_
      refine pw_bipush (v := 10) C dX8_does_182 (by decide) ?_
      refine pw_icmp_ge (tgt := 199) C dX8_does_184 (by decide) (fun q => ?_) (fun q => ?_)
      · replace h := h.1 q
        refine pw_iconst (v := 0) C dX8_does_199 (by decide) ?_
        exact pw_zret (b := false) C hT dX8_does_200 h
      · replace h := h.2 q
        refine pw_aload_n C dX8_does_187 rfl 4 rfl ?_
        refine pw_iload_n C dX8_does_188 rfl 2 rfl ?_
        obtain ⟨Φ13, hM, h⟩ := h
        refine pw_callV C dX8_does_189 hM gm_X8_rounds gl_RX8_291 rfl hR (by decide) (by decide) (by decide) rfl gk_189.1 gk_189.2 rfl (Nat.le_of_ble_eq_true rfl) ?_
        rintro _ τ14 ⟨r15, rfl, hv⟩
        replace h := h r15 τ14 hv
        show PW x G 6 192 [(5, .int (((v1 - v1 / 100000 * 100000) / 100) - ((v1 - v1 / 100000 * 100000) / 100) / 100 * 100)), (4, .int (v1 - v1 / 100 * 100)), (3, .int (v1 - v1 / 100000 * 100000)), (2, .int (v1 / 100000)), (0, .ref (G.1 + 189)), (1, .int v1)] [.int (gz r15)] τ14
        have hJ : ∀ w0 : Bool, (if r15 = false then false else true : Bool) = w0 → PW x G 6 200 [(5, .int (((v1 - v1 / 100000 * 100000) / 100) - ((v1 - v1 / 100000 * 100000) / 100) / 100 * 100)), (4, .int (v1 - v1 / 100 * 100)), (3, .int (v1 - v1 / 100000 * 100000)), (2, .int (v1 / 100000)), (0, .ref (G.1 + 189)), (1, .int v1)] [.int (gz w0)] τ14 := by
          rintro _ rfl
          exact pw_zret (b := (if r15 = false then false else true : Bool)) C hT dX8_does_200 h
        clear h
        refine pw_z_eq (tgt := 199) C dX8_does_192 (by decide) (fun q4 => ?_) (fun q4 => ?_)
        · refine pw_iconst (v := 0) C dX8_does_199 (by decide) ?_
          exact hJ false (if_pos q4)
        · refine pw_iconst (v := 1) C dX8_does_195 (by decide) ?_
          refine pw_goto (tgt := 200) C dX8_does_196 (by decide) ?_
          exact hJ true (if_neg q4)
    · replace h := h.2.2.2.2.2.1 q2
      refine pw_tin (tgt := 201) (off := 173) C 6 dX8_does_28 q2 (by decide) (by decide) rfl (by decide) ?_
      refine pw_iload_n C dX8_does_201 rfl 2 rfl ?_
      refine pw_if_ne (tgt := 220) C dX8_does_202 (by decide) (fun q => ?_) (fun q => ?_)
      · replace h := h.1 q
        refine pw_iconst (v := 0) C dX8_does_220 (by decide) ?_
        exact pw_zret (b := false) C hT dX8_does_221 h
      · replace h := h.2 q
        refine pw_aload_n C dX8_does_205 rfl 4 rfl ?_
        refine pw_aload_n C dX8_does_206 rfl 4 rfl ?_
        refine pw_getr C dX8_does_207 gf_RX8_19 gk_189.1 gk_189.2 rfl ?_
        obtain ⟨Φ16, hM, h⟩ := h
        refine pw_callV C dX8_does_210 hM gm_X8_layWorks gl_RX8_134 rfl hR (by decide) (by decide) (by decide) rfl gk_189.1 gk_189.2 rfl (Nat.le_of_ble_eq_true rfl) ?_
        rintro _ τ17 ⟨r18, rfl, hv⟩
        replace h := h r18 τ17 hv
        show PW x G 6 213 [(5, .int (((v1 - v1 / 100000 * 100000) / 100) - ((v1 - v1 / 100000 * 100000) / 100) / 100 * 100)), (4, .int (v1 - v1 / 100 * 100)), (3, .int (v1 - v1 / 100000 * 100000)), (2, .int (v1 / 100000)), (0, .ref (G.1 + 189)), (1, .int v1)] [.int (gz r18)] τ17
        have hJ : ∀ w0 : Bool, (if r18 = false then false else true : Bool) = w0 → PW x G 6 221 [(5, .int (((v1 - v1 / 100000 * 100000) / 100) - ((v1 - v1 / 100000 * 100000) / 100) / 100 * 100)), (4, .int (v1 - v1 / 100 * 100)), (3, .int (v1 - v1 / 100000 * 100000)), (2, .int (v1 / 100000)), (0, .ref (G.1 + 189)), (1, .int v1)] [.int (gz w0)] τ17 := by
          rintro _ rfl
          exact pw_zret (b := (if r18 = false then false else true : Bool)) C hT dX8_does_221 h
        clear h
        refine pw_z_eq (tgt := 220) C dX8_does_213 (by decide) (fun q4 => ?_) (fun q4 => ?_)
        · refine pw_iconst (v := 0) C dX8_does_220 (by decide) ?_
          exact hJ false (if_pos q4)
        · refine pw_iconst (v := 1) C dX8_does_216 (by decide) ?_
          refine pw_goto (tgt := 221) C dX8_does_217 (by decide) ?_
          exact hJ true (if_neg q4)
    · replace h := h.2.2.2.2.2.2.1 q2
      refine pw_tin (tgt := 222) (off := 194) C 7 dX8_does_28 q2 (by decide) (by decide) rfl (by decide) ?_
      refine pw_iload_n C dX8_does_222 rfl 2 rfl ?_
      refine pw_sipush (v := 10000) C dX8_does_223 (by decide) ?_
      obtain ⟨hs, h⟩ := h
      have hJ : ∀ w0 : Bool, (if 10000 ≤ (v1 - v1 / 100000 * 100000) then false else (if (σ.1 193 ((1 : Int32).toNatClampNeg)) ≤ (((v1 - v1 / 100000 * 100000) / 100) - ((v1 - v1 / 100000 * 100000) / 100) / 100 * 100) then false else (if (σ.1 193 (((26 + (5 * (((v1 - v1 / 100000 * 100000) / 100) - ((v1 - v1 / 100000 * 100000) / 100) / 100 * 100))) + 4).toNatClampNeg)) < (v1 - v1 / 100 * 100) then false else true : Bool) : Bool) : Bool) = w0 → PW x G 6 261 [(5, .int (((v1 - v1 / 100000 * 100000) / 100) - ((v1 - v1 / 100000 * 100000) / 100) / 100 * 100)), (4, .int (v1 - v1 / 100 * 100)), (3, .int (v1 - v1 / 100000 * 100000)), (2, .int (v1 / 100000)), (0, .ref (G.1 + 189)), (1, .int v1)] [.int (gz w0)] σ := by
        rintro _ rfl
        exact pw_zret (b := (if 10000 ≤ (v1 - v1 / 100000 * 100000) then false else (if (σ.1 193 ((1 : Int32).toNatClampNeg)) ≤ (((v1 - v1 / 100000 * 100000) / 100) - ((v1 - v1 / 100000 * 100000) / 100) / 100 * 100) then false else (if (σ.1 193 (((26 + (5 * (((v1 - v1 / 100000 * 100000) / 100) - ((v1 - v1 / 100000 * 100000) / 100) / 100 * 100))) + 4).toNatClampNeg)) < (v1 - v1 / 100 * 100) then false else true : Bool) : Bool) : Bool)) C hT dX8_does_261 h
      clear h
      refine pw_icmp_ge (tgt := 260) C dX8_does_226 (by decide) (fun q3 => ?_) (fun q3 => ?_)
      · replace hs := hs.1 q3
        refine pw_iconst (v := 0) C dX8_does_260 (by decide) ?_
        exact hJ false (if_pos q3)
      · replace hs := hs.2 q3
        refine pw_iload C dX8_does_229 0 rfl ?_
        refine pw_aload_n C dX8_does_231 rfl 4 rfl ?_
        refine pw_getr C dX8_does_232 gf_RX8_19 gk_189.1 gk_189.2 rfl ?_
        refine pw_iconst (v := 1) C dX8_does_235 (by decide) ?_
        refine pw_iald C dX8_does_236 gk_193.1 gk_193.2 (by show ¬ (_ ∨ _); decide) ?_
        refine pw_icmp_ge (tgt := 260) C dX8_does_237 (by decide) (fun q4 => ?_) (fun q4 => ?_)
        · replace hs := hs.1 q4
          refine pw_iconst (v := 0) C dX8_does_260 (by decide) ?_
          exact hJ false ((if_neg q3).trans (if_pos q4))
        · replace hs := hs.2 q4
          refine pw_aload_n C dX8_does_240 rfl 4 rfl ?_
          refine pw_getr C dX8_does_241 gf_RX8_19 gk_189.1 gk_189.2 rfl ?_
          refine pw_iload C dX8_does_244 0 rfl ?_
          refine pw_iconst (v := 4) C dX8_does_246 (by decide) ?_
          refine pw_callS C dX8_does_247 (k_X8_wireAt (((v1 - v1 / 100000 * 100000) / 100) - ((v1 - v1 / 100000 * 100000) / 100) / 100 * 100) 4 σ ) gm_X8_wireAt gl_RX8_73 rfl hR (by decide) (by decide) rfl (Nat.le_of_ble_eq_true rfl) ?_
          rintro _ _ ⟨_, rfl, rfl, rfl⟩
          show PW x G 6 250 [(5, .int (((v1 - v1 / 100000 * 100000) / 100) - ((v1 - v1 / 100000 * 100000) / 100) / 100 * 100)), (4, .int (v1 - v1 / 100 * 100)), (3, .int (v1 - v1 / 100000 * 100000)), (2, .int (v1 / 100000)), (0, .ref (G.1 + 189)), (1, .int v1)] [.int ((26 + (5 * (((v1 - v1 / 100000 * 100000) / 100) - ((v1 - v1 / 100000 * 100000) / 100) / 100 * 100))) + 4), .ref (G.1 + 193)] σ
          obtain ⟨g19, hs⟩ := hs
          refine pw_iald C dX8_does_250 gk_193.1 gk_193.2 g19 ?_
          refine pw_iload C dX8_does_251 1 rfl ?_
          refine pw_icmp_lt (tgt := 260) C dX8_does_253 (by decide) (fun q5 => ?_) (fun q5 => ?_)
          · refine pw_iconst (v := 0) C dX8_does_260 (by decide) ?_
            exact hJ false ((if_neg q3).trans ((if_neg q4).trans (if_pos q5)))
          · refine pw_iconst (v := 1) C dX8_does_256 (by decide) ?_
            refine pw_goto (tgt := 261) C dX8_does_257 (by decide) ?_
            exact hJ true ((if_neg q3).trans ((if_neg q4).trans (if_neg q5)))
    · replace h := h.2.2.2.2.2.2.2.1 q2
      refine pw_tin (tgt := 262) (off := 234) C 8 dX8_does_28 q2 (by decide) (by decide) rfl (by decide) ?_
      refine pw_iload_n C dX8_does_262 rfl 2 rfl ?_
      refine pw_sipush (v := 1000) C dX8_does_263 (by decide) ?_
      refine pw_icmp_ge (tgt := 284) C dX8_does_266 (by decide) (fun q => ?_) (fun q => ?_)
      · replace h := h.1 q
        refine pw_iconst (v := 0) C dX8_does_284 (by decide) ?_
        exact pw_zret (b := false) C hT dX8_does_285 h
      · replace h := h.2 q
        refine pw_aload_n C dX8_does_269 rfl 4 rfl ?_
        refine pw_getr C dX8_does_270 gf_RX8_19 gk_189.1 gk_189.2 rfl ?_
        obtain ⟨Φ20, hM, h⟩ := h
        refine pw_callS C dX8_does_273 hM gm_X8_marks gl_RX8_218 rfl hR (by decide) (by decide) rfl (Nat.le_of_ble_eq_true rfl) ?_
        rintro _ τ21 ⟨r22, rfl, hv⟩
        replace h := h r22 τ21 hv
        show PW x G 6 276 [(5, .int (((v1 - v1 / 100000 * 100000) / 100) - ((v1 - v1 / 100000 * 100000) / 100) / 100 * 100)), (4, .int (v1 - v1 / 100 * 100)), (3, .int (v1 - v1 / 100000 * 100000)), (2, .int (v1 / 100000)), (0, .ref (G.1 + 189)), (1, .int v1)] [.int r22] τ21
        refine pw_iload_n C dX8_does_276 rfl 2 rfl ?_
        have hJ : ∀ w0 : Bool, (if (v1 - v1 / 100000 * 100000) < r22 then false else true : Bool) = w0 → PW x G 6 285 [(5, .int (((v1 - v1 / 100000 * 100000) / 100) - ((v1 - v1 / 100000 * 100000) / 100) / 100 * 100)), (4, .int (v1 - v1 / 100 * 100)), (3, .int (v1 - v1 / 100000 * 100000)), (2, .int (v1 / 100000)), (0, .ref (G.1 + 189)), (1, .int v1)] [.int (gz w0)] τ21 := by
          rintro _ rfl
          exact pw_zret (b := (if (v1 - v1 / 100000 * 100000) < r22 then false else true : Bool)) C hT dX8_does_285 h
        clear h
        refine pw_icmp_gt (tgt := 284) C dX8_does_277 (by decide) (fun q4 => ?_) (fun q4 => ?_)
        · refine pw_iconst (v := 0) C dX8_does_284 (by decide) ?_
          exact hJ false (if_pos q4)
        · refine pw_iconst (v := 1) C dX8_does_280 (by decide) ?_
          refine pw_goto (tgt := 285) C dX8_does_281 (by decide) ?_
          exact hJ true (if_neg q4)
    · replace h := h.2.2.2.2.2.2.2.2 q2
      refine pw_tin (tgt := 286) (off := 258) C 9 dX8_does_28 q2 (by decide) (by decide) rfl (by decide) ?_
      refine pw_iload_n C dX8_does_286 rfl 2 rfl ?_
      refine pw_sipush (v := 1000) C dX8_does_287 (by decide) ?_
      obtain ⟨hs, h⟩ := h
      have hJ : ∀ w0 : Bool, (if 1000 ≤ (v1 - v1 / 100000 * 100000) then false else (if (σ.1 193 ((0 : Int32).toNatClampNeg)) ≤ ((v1 - v1 / 100000 * 100000) / 100) then false else (if (σ.1 193 (((2 + (3 * ((v1 - v1 / 100000 * 100000) / 100))) + 2).toNatClampNeg)) < (v1 - v1 / 100 * 100) then false else true : Bool) : Bool) : Bool) = w0 → PW x G 6 329 [(5, .int (((v1 - v1 / 100000 * 100000) / 100) - ((v1 - v1 / 100000 * 100000) / 100) / 100 * 100)), (4, .int (v1 - v1 / 100 * 100)), (3, .int (v1 - v1 / 100000 * 100000)), (2, .int (v1 / 100000)), (0, .ref (G.1 + 189)), (1, .int v1)] [.int (gz w0)] σ := by
        rintro _ rfl
        exact pw_zret (b := (if 1000 ≤ (v1 - v1 / 100000 * 100000) then false else (if (σ.1 193 ((0 : Int32).toNatClampNeg)) ≤ ((v1 - v1 / 100000 * 100000) / 100) then false else (if (σ.1 193 (((2 + (3 * ((v1 - v1 / 100000 * 100000) / 100))) + 2).toNatClampNeg)) < (v1 - v1 / 100 * 100) then false else true : Bool) : Bool) : Bool)) C hT dX8_does_329 h
      clear h
      refine pw_icmp_ge (tgt := 328) C dX8_does_290 (by decide) (fun q3 => ?_) (fun q3 => ?_)
      · replace hs := hs.1 q3
        refine pw_iconst (v := 0) C dX8_does_328 (by decide) ?_
        exact hJ false (if_pos q3)
      · replace hs := hs.2 q3
        refine pw_iload_n C dX8_does_293 rfl 2 rfl ?_
        refine pw_bipush (v := 100) C dX8_does_294 (by decide) ?_
        refine pw_idiv C dX8_does_296 (by decide) ?_
        refine pw_aload_n C dX8_does_297 rfl 4 rfl ?_
        refine pw_getr C dX8_does_298 gf_RX8_19 gk_189.1 gk_189.2 rfl ?_
        refine pw_iconst (v := 0) C dX8_does_301 (by decide) ?_
        refine pw_iald C dX8_does_302 gk_193.1 gk_193.2 (by show ¬ (_ ∨ _); decide) ?_
        refine pw_icmp_ge (tgt := 328) C dX8_does_303 (by decide) (fun q4 => ?_) (fun q4 => ?_)
        · replace hs := hs.1 q4
          refine pw_iconst (v := 0) C dX8_does_328 (by decide) ?_
          exact hJ false ((if_neg q3).trans (if_pos q4))
        · replace hs := hs.2 q4
          refine pw_aload_n C dX8_does_306 rfl 4 rfl ?_
          refine pw_getr C dX8_does_307 gf_RX8_19 gk_189.1 gk_189.2 rfl ?_
          refine pw_iload_n C dX8_does_310 rfl 2 rfl ?_
          refine pw_bipush (v := 100) C dX8_does_311 (by decide) ?_
          refine pw_idiv C dX8_does_313 (by decide) ?_
          refine pw_iconst (v := 2) C dX8_does_314 (by decide) ?_
          refine pw_callS C dX8_does_315 (k_X8_moduleAt ((v1 - v1 / 100000 * 100000) / 100) 2 σ ) gm_X8_moduleAt gl_RX8_77 rfl hR (by decide) (by decide) rfl (Nat.le_of_ble_eq_true rfl) ?_
          rintro _ _ ⟨_, rfl, rfl, rfl⟩
          show PW x G 6 318 [(5, .int (((v1 - v1 / 100000 * 100000) / 100) - ((v1 - v1 / 100000 * 100000) / 100) / 100 * 100)), (4, .int (v1 - v1 / 100 * 100)), (3, .int (v1 - v1 / 100000 * 100000)), (2, .int (v1 / 100000)), (0, .ref (G.1 + 189)), (1, .int v1)] [.int ((2 + (3 * ((v1 - v1 / 100000 * 100000) / 100))) + 2), .ref (G.1 + 193)] σ
          obtain ⟨g23, hs⟩ := hs
          refine pw_iald C dX8_does_318 gk_193.1 gk_193.2 g23 ?_
          refine pw_iload C dX8_does_319 1 rfl ?_
          refine pw_icmp_lt (tgt := 328) C dX8_does_321 (by decide) (fun q5 => ?_) (fun q5 => ?_)
          · refine pw_iconst (v := 0) C dX8_does_328 (by decide) ?_
            exact hJ false ((if_neg q3).trans ((if_neg q4).trans (if_pos q5)))
          · refine pw_iconst (v := 1) C dX8_does_324 (by decide) ?_
            refine pw_goto (tgt := 329) C dX8_does_325 (by decide) ?_
            exact hJ true ((if_neg q3).trans ((if_neg q4).trans (if_neg q5)))
set_option maxRecDepth 4000 in
theorem sg_X8_runScript_0 {x : gw_X} {G : gw_G} {Φ : Int32 → gw_S → Prop} (C : XC x G RX8 cX8_runScript 6 (some .int)) (hR : gw_ok x 7) (hT : RT x G (fi Φ)) (v1 : Int32) (v2 : Int64) (σ : gw_S)
    (h : ((if (lg_cmp v1.toInt64 1) < 0 then false else (if 0 < (lg_cmp v1.toInt64 3) then false else true : Bool) : Bool) = false → ∀ τ1 : gw_S, τ1 = gw_u σ 189 0 1 → (((if 1 ≤ 0 then false else true : Bool) = false → ∃ Φ2 : gw_S → Prop, gw_M (xl x) G yX8_tryIt cX8_tryIt 1 none 1 [.ref (G.1 + 189)] τ1 (fv Φ2) ∧ ∀ (τ3 : gw_S), Φ2 τ3 → (PW x G 6 63 [(0, .ref (G.1 + 189)), (1, .int v1), (2, .long v2), (4, .int (gz (if (lg_cmp v1.toInt64 1) < 0 then false else (if 0 < (lg_cmp v1.toInt64 3) then false else true : Bool) : Bool))), (5, .int 0)] [] τ3)) ∧ (¬ ((if 1 ≤ 0 then false else true : Bool) = false) → Φ 0 τ1))) ∧ (¬ ((if (lg_cmp v1.toInt64 1) < 0 then false else (if 0 < (lg_cmp v1.toInt64 3) then false else true : Bool) : Bool) = false) → ∃ Φ4 : Int64 → gw_S → Prop, gw_M (xl x) G yX8_tenTo cX8_tenTo 4 (some .long) 0 [.int (if (if (lg_cmp v1.toInt64 1) < 0 then false else (if 0 < (lg_cmp v1.toInt64 3) then false else true : Bool) : Bool) = false then 0 else 6 * v1 : Int32)] σ (fl Φ4) ∧ ∀ (r6 : Int64) (τ5 : gw_S), Φ4 r6 τ5 → (∀ τ7 : gw_S, τ7 = gw_u τ5 189 0 (gz (if (if (lg_cmp v2 0) < 0 then false else (if 0 < (lg_cmp v2 (r6 - 1)) then false else true : Bool) : Bool) = false then true else false : Bool)) → (((if (gz (if (if (lg_cmp v2 0) < 0 then false else (if 0 < (lg_cmp v2 (r6 - 1)) then false else true : Bool) : Bool) = false then true else false : Bool)) ≤ 0 then false else true : Bool) = false → ∃ Φ8 : gw_S → Prop, gw_M (xl x) G yX8_tryIt cX8_tryIt 1 none 1 [.ref (G.1 + 189)] τ7 (fv Φ8) ∧ ∀ (τ9 : gw_S), Φ8 τ9 → (PW x G 6 63 [(0, .ref (G.1 + 189)), (1, .int v1), (2, .long v2), (4, .int (gz (if (lg_cmp v1.toInt64 1) < 0 then false else (if 0 < (lg_cmp v1.toInt64 3) then false else true : Bool) : Bool))), (5, .int 0)] [] τ9)) ∧ (¬ ((if (gz (if (if (lg_cmp v2 0) < 0 then false else (if 0 < (lg_cmp v2 (r6 - 1)) then false else true : Bool) : Bool) = false then true else false : Bool)) ≤ 0 then false else true : Bool) = false) → Φ 0 τ7))))) : PW x G 6 0 [(0, .ref (G.1 + 189)), (1, .int v1), (2, .long v2)] [] σ := by
  refine pw_iload_n C dX8_runScript_0 rfl 1 rfl ?_
  refine pw_i2l (v := v1.toInt64) C dX8_runScript_1 rfl ?_
  refine pw_lconst (v := 1) C dX8_runScript_2 (by decide) ?_
  refine pw_ldc2 C dX8_runScript_3 gl_RX8_247 ?_
  refine pw_callS C dX8_runScript_6 (k_X8_in v1.toInt64 1 3 σ ) gm_X8_in gl_RX8_146 rfl hR (by decide) (by decide) rfl (Nat.le_of_ble_eq_true rfl) ?_
  rintro _ _ ⟨_, rfl, rfl, rfl⟩
  show PW x G 6 9 [(0, .ref (G.1 + 189)), (1, .int v1), (2, .long v2)] [.int (gz (if (lg_cmp v1.toInt64 1) < 0 then false else (if 0 < (lg_cmp v1.toInt64 3) then false else true : Bool) : Bool))] σ
  refine pw_istore C dX8_runScript_9 (by decide) rfl ?_
  refine pw_aload_n C dX8_runScript_11 rfl 1 rfl ?_
  refine pw_iload C dX8_runScript_12 0 rfl ?_
  refine pw_z_eq (tgt := 47) C dX8_runScript_14 (by decide) (fun q => ?_) (fun q => ?_)
  · replace h := h.1 q
    refine pw_iconst (v := 1) C dX8_runScript_47 (by decide) ?_
    refine pw_callV C dX8_runScript_48 (k_X8_refused 1 σ ) gm_X8_refused gl_RX8_153 rfl hR (by decide) (by decide) (by decide) rfl gk_189.1 gk_189.2 rfl (Nat.le_of_ble_eq_true rfl) ?_
    rintro _ _ ⟨_, rfl, rfl, rfl⟩
    generalize hτ1 : gw_u σ 189 0 1 = τ1
    replace h := h τ1 hτ1.symm
    show PW x G 6 51 [(4, .int (gz (if (lg_cmp v1.toInt64 1) < 0 then false else (if 0 < (lg_cmp v1.toInt64 3) then false else true : Bool) : Bool))), (0, .ref (G.1 + 189)), (1, .int v1), (2, .long v2)] [.int (gz (if 1 ≤ 0 then false else true : Bool))] τ1
    show PW x G 6 51 [(4, .int (gz (if (lg_cmp v1.toInt64 1) < 0 then false else (if 0 < (lg_cmp v1.toInt64 3) then false else true : Bool) : Bool))), (0, .ref (G.1 + 189)), (1, .int v1), (2, .long v2)] [.int (gz (if 1 ≤ 0 then false else true : Bool))] τ1
    refine pw_z_eq (tgt := 56) C dX8_runScript_51 (by decide) (fun q => ?_) (fun q => ?_)
    · replace h := h.1 q
      refine pw_aload_n C dX8_runScript_56 rfl 1 rfl ?_
      obtain ⟨Φ2, hM, h⟩ := h
      refine pw_callV C dX8_runScript_57 hM gm_X8_tryIt gl_RX8_131 rfl hR (by decide) (by decide) (by decide) rfl gk_189.1 gk_189.2 rfl (Nat.le_of_ble_eq_true rfl) ?_
      rintro _ τ3 ⟨rfl, hv⟩
      replace h := h τ3 hv
      show PW x G 6 60 [(4, .int (gz (if (lg_cmp v1.toInt64 1) < 0 then false else (if 0 < (lg_cmp v1.toInt64 3) then false else true : Bool) : Bool))), (0, .ref (G.1 + 189)), (1, .int v1), (2, .long v2)] [] τ3
      refine pw_iconst (v := 0) C dX8_runScript_60 (by decide) ?_
      refine pw_istore C dX8_runScript_61 (by decide) rfl ?_
      exact pw_sub [2, 3, 4, 1, 0] rfl h
    · replace h := h.2 q
      refine pw_iconst (v := 0) C dX8_runScript_54 (by decide) ?_
      exact pw_iret C hT dX8_runScript_55 h
  · replace h := h.2 q
    refine pw_lload_n C dX8_runScript_17 rfl 3 rfl ?_
    refine pw_lconst (v := 0) C dX8_runScript_18 (by decide) ?_
    refine pw_iload C dX8_runScript_19 0 rfl ?_
    have hJ : ∀ w0 : Int32, (if (if (lg_cmp v1.toInt64 1) < 0 then false else (if 0 < (lg_cmp v1.toInt64 3) then false else true : Bool) : Bool) = false then 0 else 6 * v1 : Int32) = w0 → PW x G 6 32 [(4, .int (gz (if (lg_cmp v1.toInt64 1) < 0 then false else (if 0 < (lg_cmp v1.toInt64 3) then false else true : Bool) : Bool))), (0, .ref (G.1 + 189)), (1, .int v1), (2, .long v2)] [.int w0, .long 0, .long v2, .ref (G.1 + 189)] σ := by
      rintro _ rfl
      obtain ⟨Φ4, hM, h⟩ := h
      refine pw_callS C dX8_runScript_32 hM gm_X8_tenTo gl_RX8_294 rfl hR (by decide) (by decide) rfl (Nat.le_of_ble_eq_true rfl) ?_
      rintro _ τ5 ⟨r6, rfl, hv⟩
      replace h := h r6 τ5 hv
      show PW x G 6 35 [(4, .int (gz (if (lg_cmp v1.toInt64 1) < 0 then false else (if 0 < (lg_cmp v1.toInt64 3) then false else true : Bool) : Bool))), (0, .ref (G.1 + 189)), (1, .int v1), (2, .long v2)] [.long r6, .long 0, .long v2, .ref (G.1 + 189)] τ5
      refine pw_lconst (v := 1) C dX8_runScript_35 (by decide) ?_
      refine pw_lsub C dX8_runScript_36 ?_
      refine pw_callS C dX8_runScript_37 (k_X8_in v2 0 (r6 - 1) τ5 ) gm_X8_in gl_RX8_146 rfl hR (by decide) (by decide) rfl (Nat.le_of_ble_eq_true rfl) ?_
      rintro _ _ ⟨_, rfl, rfl, rfl⟩
      show PW x G 6 40 [(4, .int (gz (if (lg_cmp v1.toInt64 1) < 0 then false else (if 0 < (lg_cmp v1.toInt64 3) then false else true : Bool) : Bool))), (0, .ref (G.1 + 189)), (1, .int v1), (2, .long v2)] [.int (gz (if (lg_cmp v2 0) < 0 then false else (if 0 < (lg_cmp v2 (r6 - 1)) then false else true : Bool) : Bool)), .ref (G.1 + 189)] τ5
      have hJ : ∀ w0 : Bool, (if (if (lg_cmp v2 0) < 0 then false else (if 0 < (lg_cmp v2 (r6 - 1)) then false else true : Bool) : Bool) = false then true else false : Bool) = w0 → PW x G 6 48 [(4, .int (gz (if (lg_cmp v1.toInt64 1) < 0 then false else (if 0 < (lg_cmp v1.toInt64 3) then false else true : Bool) : Bool))), (0, .ref (G.1 + 189)), (1, .int v1), (2, .long v2)] [.int (gz w0), .ref (G.1 + 189)] τ5 := by
        rintro _ rfl
        refine pw_callV C dX8_runScript_48 (k_X8_refused (gz (if (if (lg_cmp v2 0) < 0 then false else (if 0 < (lg_cmp v2 (r6 - 1)) then false else true : Bool) : Bool) = false then true else false : Bool)) τ5 ) gm_X8_refused gl_RX8_153 rfl hR (by decide) (by decide) (by decide) rfl gk_189.1 gk_189.2 rfl (Nat.le_of_ble_eq_true rfl) ?_
        rintro _ _ ⟨_, rfl, rfl, rfl⟩
        generalize hτ7 : gw_u τ5 189 0 (gz (if (if (lg_cmp v2 0) < 0 then false else (if 0 < (lg_cmp v2 (r6 - 1)) then false else true : Bool) : Bool) = false then true else false : Bool)) = τ7
        replace h := h τ7 hτ7.symm
        show PW x G 6 51 [(4, .int (gz (if (lg_cmp v1.toInt64 1) < 0 then false else (if 0 < (lg_cmp v1.toInt64 3) then false else true : Bool) : Bool))), (0, .ref (G.1 + 189)), (1, .int v1), (2, .long v2)] [.int (gz (if (gz (if (if (lg_cmp v2 0) < 0 then false else (if 0 < (lg_cmp v2 (r6 - 1)) then false else true : Bool) : Bool) = false then true else false : Bool)) ≤ 0 then false else true : Bool))] τ7
        show PW x G 6 51 [(4, .int (gz (if (lg_cmp v1.toInt64 1) < 0 then false else (if 0 < (lg_cmp v1.toInt64 3) then false else true : Bool) : Bool))), (0, .ref (G.1 + 189)), (1, .int v1), (2, .long v2)] [.int (gz (if (gz (if (if (lg_cmp v2 0) < 0 then false else (if 0 < (lg_cmp v2 (r6 - 1)) then false else true : Bool) : Bool) = false then true else false : Bool)) ≤ 0 then false else true : Bool))] τ7
        refine pw_z_eq (tgt := 56) C dX8_runScript_51 (by decide) (fun q => ?_) (fun q => ?_)
        · replace h := h.1 q
          refine pw_aload_n C dX8_runScript_56 rfl 1 rfl ?_
          obtain ⟨Φ8, hM, h⟩ := h
          refine pw_callV C dX8_runScript_57 hM gm_X8_tryIt gl_RX8_131 rfl hR (by decide) (by decide) (by decide) rfl gk_189.1 gk_189.2 rfl (Nat.le_of_ble_eq_true rfl) ?_
          rintro _ τ9 ⟨rfl, hv⟩
          replace h := h τ9 hv
          show PW x G 6 60 [(4, .int (gz (if (lg_cmp v1.toInt64 1) < 0 then false else (if 0 < (lg_cmp v1.toInt64 3) then false else true : Bool) : Bool))), (0, .ref (G.1 + 189)), (1, .int v1), (2, .long v2)] [] τ9
          refine pw_iconst (v := 0) C dX8_runScript_60 (by decide) ?_
          refine pw_istore C dX8_runScript_61 (by decide) rfl ?_
          exact pw_sub [2, 3, 4, 1, 0] rfl h
        · replace h := h.2 q
          refine pw_iconst (v := 0) C dX8_runScript_54 (by decide) ?_
          exact pw_iret C hT dX8_runScript_55 h
      clear h
      refine pw_z_eq (tgt := 47) C dX8_runScript_40 (by decide) (fun q3 => ?_) (fun q3 => ?_)
      · refine pw_iconst (v := 1) C dX8_runScript_47 (by decide) ?_
        exact hJ true (if_pos q3)
      · refine pw_iconst (v := 0) C dX8_runScript_43 (by decide) ?_
        refine pw_goto (tgt := 48) C dX8_runScript_44 (by decide) ?_
        exact hJ false (if_neg q3)
    clear h
    refine pw_z_eq (tgt := 31) C dX8_runScript_21 (by decide) (fun q2 => ?_) (fun q2 => ?_)
    · refine pw_iconst (v := 0) C dX8_runScript_31 (by decide) ?_
      exact hJ 0 (if_pos q2)
    · refine pw_bipush (v := 6) C dX8_runScript_24 (by decide) ?_
      refine pw_iload_n C dX8_runScript_26 rfl 2 rfl ?_
      refine pw_imul C dX8_runScript_27 ?_
      refine pw_goto (tgt := 32) C dX8_runScript_28 (by decide) ?_
      exact hJ (6 * v1) (if_neg q2)
set_option maxRecDepth 4000 in
theorem sg_X8_runScript_63 {x : gw_X} {G : gw_G} {Φ : Int32 → gw_S → Prop} (C : XC x G RX8 cX8_runScript 6 (some .int)) (hR : gw_ok x 7) (hT : RT x G (fi Φ)) (v1 : Int32) (v2 : Int64) (v4 : Int32) (v5 : Int32) (σ : gw_S)
    (h : (v1 ≤ v5 → Φ (-1) σ) ∧ (¬ (v1 ≤ v5) → ∃ Φ1 : Int64 → gw_S → Prop, gw_M (xl x) G yX8_tenTo cX8_tenTo 4 (some .long) 0 [.int (6 * ((v1 - 1) - v5))] σ (fl Φ1) ∧ ∀ (r3 : Int64) (τ2 : gw_S), Φ1 r3 τ2 → (¬ r3 = 0 ∧ (∃ Φ5 : Bool → gw_S → Prop, gw_M (xl x) G yX8_does cX8_does 6 (some .boolean) 6 [.ref (G.1 + 189), .int (((v2 / r3) - (v2 / r3) / 1000000 * 1000000).toInt32)] τ2 (fz Φ5) ∧ ∀ (r7 : Bool) (τ6 : gw_S), Φ5 r7 τ6 → ((¬ (r7 = false) → PW x G 6 63 [(0, .ref (G.1 + 189)), (1, .int v1), (2, .long v2), (4, .int v4), (5, .int (v5 + 1))] [] τ6) ∧ (r7 = false → Φ v5 τ6)))))) : PW x G 6 63 [(0, .ref (G.1 + 189)), (1, .int v1), (2, .long v2), (4, .int v4), (5, .int v5)] [] σ := by
  refine pw_iload C dX8_runScript_63 4 rfl ?_
  refine pw_iload_n C dX8_runScript_65 rfl 1 rfl ?_
  refine pw_icmp_ge (tgt := 104) C dX8_runScript_66 (by decide) (fun q => ?_) (fun q => ?_)
  · replace h := h.1 q
    refine pw_iconst (v := (-1)) C dX8_runScript_104 (by decide) ?_
    exact pw_iret C hT dX8_runScript_105 h
  · replace h := h.2 q
    refine pw_aload_n C dX8_runScript_69 rfl 0 rfl ?_
    refine pw_lload_n C dX8_runScript_70 rfl 2 rfl ?_
    refine pw_bipush (v := 6) C dX8_runScript_71 (by decide) ?_
    refine pw_iload_n C dX8_runScript_73 rfl 1 rfl ?_
    refine pw_iconst (v := 1) C dX8_runScript_74 (by decide) ?_
    refine pw_isub C dX8_runScript_75 ?_
    refine pw_iload C dX8_runScript_76 4 rfl ?_
    refine pw_isub C dX8_runScript_78 ?_
    refine pw_imul C dX8_runScript_79 ?_
    obtain ⟨Φ1, hM, h⟩ := h
    refine pw_callS C dX8_runScript_80 hM gm_X8_tenTo gl_RX8_294 rfl hR (by decide) (by decide) rfl (Nat.le_of_ble_eq_true rfl) ?_
    rintro _ τ2 ⟨r3, rfl, hv⟩
    replace h := h r3 τ2 hv
    show PW x G 6 83 [(0, .ref (G.1 + 189)), (1, .int v1), (2, .long v2), (4, .int v4), (5, .int v5)] [.long r3, .long v2, .ref (G.1 + 189)] τ2
    obtain ⟨g4, h⟩ := h
    refine pw_ldiv C dX8_runScript_83 g4 ?_
    refine pw_ldc2 C dX8_runScript_84 gl_RX8_298 ?_
    refine pw_lrem C dX8_runScript_87 (by decide) ?_
    refine pw_l2i (v := (((v2 / r3) - (v2 / r3) / 1000000 * 1000000).toInt32)) C dX8_runScript_88 rfl ?_
    obtain ⟨Φ5, hM, h⟩ := h
    refine pw_callV C dX8_runScript_89 hM gm_X8_does gl_RX8_300 rfl hR (by decide) (by decide) (by decide) rfl gk_189.1 gk_189.2 rfl (Nat.le_of_ble_eq_true rfl) ?_
    rintro _ τ6 ⟨r7, rfl, hv⟩
    replace h := h r7 τ6 hv
    show PW x G 6 92 [(0, .ref (G.1 + 189)), (1, .int v1), (2, .long v2), (4, .int v4), (5, .int v5)] [.int (gz r7)] τ6
    refine pw_z_ne (tgt := 98) C dX8_runScript_92 (by decide) (fun q => ?_) (fun q => ?_)
    · replace h := h.1 q
      refine pw_iinc (v := (v5 + 1)) (j := 4) C dX8_runScript_98 rfl rfl (by decide) rfl ?_
      refine pw_goto (tgt := 63) C dX8_runScript_101 (by decide) ?_
      exact pw_sub [1, 2, 3, 4, 0] rfl h
    · replace h := h.2 q
      refine pw_iload C dX8_runScript_95 4 rfl ?_
      exact pw_iret C hT dX8_runScript_97 h
set_option maxRecDepth 4000 in
theorem sg_X8_stir_0 {x : gw_X} {G : gw_G} {Φ : gw_S → Prop} (C : XC x G RX8 cX8_stir 3 none) (hR : gw_ok x 6) (hT : RT x G (fv Φ)) (v1 : Int32) (σ : gw_S)
    (h : ((v1 - v1 / 8 * 8).toInt < 0 ∨ 2 < (v1 - v1 / 8 * 8).toInt → ∃ Φ1 : Bool → gw_S → Prop, gw_M (xl x) G yX8_worksOne cX8_worksOne 2 (some .boolean) 2 [.ref (G.1 + 189), .int ((v1 / 8) - (v1 / 8) / 8 * 8)] σ (fz Φ1) ∧ ∀ (r3 : Bool) (τ2 : gw_S), Φ1 r3 τ2 → (Φ τ2)) ∧ ((v1 - v1 / 8 * 8).toInt = 0 → ∃ Φ4 : Bool → gw_S → Prop, gw_M (xl x) G yX8_lays cX8_lays 6 (some .boolean) 4 [.ref (G.1 + 189), .int ((v1 / 8) - (v1 / 8) / 8 * 8), .int ((v1 / 64) - (v1 / 64) / 8 * 8), .int (1 + ((v1 / 512) - (v1 / 512) / 3 * 3)), .int (1 + ((v1 / 2048) - (v1 / 2048) / 3 * 3)), .int ((v1 / 8192) - (v1 / 8192) / 8 * 8)] σ (fz Φ4) ∧ ∀ (r6 : Bool) (τ5 : gw_S), Φ4 r6 τ5 → (Φ τ5)) ∧ ((v1 - v1 / 8 * 8).toInt = 1 → ∃ Φ7 : Bool → gw_S → Prop, gw_M (xl x) G yX8_cuts cX8_cuts 2 (some .boolean) 2 [.ref (G.1 + 189), .int ((v1 / 512) - (v1 / 512) / 14 * 14)] σ (fz Φ7) ∧ ∀ (r9 : Bool) (τ8 : gw_S), Φ7 r9 τ8 → (Φ τ8)) ∧ ((v1 - v1 / 8 * 8).toInt = 2 → ∃ Φ10 : Bool → gw_S → Prop, gw_M (xl x) G yX8_rounds cX8_rounds 2 (some .boolean) 5 [.ref (G.1 + 189), .int ((v1 / 512) - (v1 / 512) / 3 * 3)] σ (fz Φ10) ∧ ∀ (r12 : Bool) (τ11 : gw_S), Φ10 r12 τ11 → (Φ τ11))) : PW x G 3 0 [(0, .ref (G.1 + 189)), (1, .int v1)] [] σ := by
  refine pw_iload_n C dX8_stir_0 rfl 1 rfl ?_
  refine pw_bipush (v := 8) C dX8_stir_1 (by decide) ?_
  refine pw_idiv C dX8_stir_3 (by decide) ?_
  refine pw_bipush (v := 8) C dX8_stir_4 (by decide) ?_
  refine pw_irem C dX8_stir_6 (by decide) ?_
  refine pw_istore_n C dX8_stir_7 rfl (by decide) rfl ?_
  refine pw_iload_n C dX8_stir_8 rfl 2 rfl ?_
  refine pw_bipush (v := 8) C dX8_stir_9 (by decide) ?_
  refine pw_irem C dX8_stir_11 (by decide) ?_
  rcases Classical.em ((v1 - v1 / 8 * 8).toInt < 0 ∨ 2 < (v1 - v1 / 8 * 8).toInt) with q | q
  · replace h := h.1 q
    refine pw_tout (tgt := 113) C dX8_stir_12 q (by decide) ?_
    refine pw_aload_n C dX8_stir_113 rfl 1 rfl ?_
    refine pw_iload_n C dX8_stir_114 rfl 0 rfl ?_
    obtain ⟨Φ1, hM, h⟩ := h
    refine pw_callV C dX8_stir_115 hM gm_X8_worksOne gl_RX8_288 rfl hR (by decide) (by decide) (by decide) rfl gk_189.1 gk_189.2 rfl (Nat.le_of_ble_eq_true rfl) ?_
    rintro _ τ2 ⟨r3, rfl, hv⟩
    replace h := h r3 τ2 hv
    show PW x G 3 118 [(2, .int ((v1 / 8) - (v1 / 8) / 8 * 8)), (0, .ref (G.1 + 189)), (1, .int v1)] [.int (gz r3)] τ2
    refine pw_pop C dX8_stir_118 rfl ?_
    exact pw_vret C hT dX8_stir_119 h
  · replace h := h.2
    have q2 : (v1 - v1 / 8 * 8).toInt = 0 ∨ (v1 - v1 / 8 * 8).toInt = 1 ∨ (v1 - v1 / 8 * 8).toInt = 2 := by omega
    rcases q2 with q2 | q2 | q2
    · replace h := h.1 q2
      refine pw_tin (tgt := 40) (off := 28) C 0 dX8_stir_12 q2 (by decide) (by decide) rfl (by decide) ?_
      refine pw_aload_n C dX8_stir_40 rfl 1 rfl ?_
      refine pw_iload_n C dX8_stir_41 rfl 0 rfl ?_
      refine pw_iload_n C dX8_stir_42 rfl 2 rfl ?_
      refine pw_bipush (v := 64) C dX8_stir_43 (by decide) ?_
      refine pw_idiv C dX8_stir_45 (by decide) ?_
      refine pw_bipush (v := 8) C dX8_stir_46 (by decide) ?_
      refine pw_irem C dX8_stir_48 (by decide) ?_
      refine pw_iconst (v := 1) C dX8_stir_49 (by decide) ?_
      refine pw_iload_n C dX8_stir_50 rfl 2 rfl ?_
      refine pw_sipush (v := 512) C dX8_stir_51 (by decide) ?_
      refine pw_idiv C dX8_stir_54 (by decide) ?_
      refine pw_iconst (v := 3) C dX8_stir_55 (by decide) ?_
      refine pw_irem C dX8_stir_56 (by decide) ?_
      refine pw_iadd C dX8_stir_57 ?_
      refine pw_iconst (v := 1) C dX8_stir_58 (by decide) ?_
      refine pw_iload_n C dX8_stir_59 rfl 2 rfl ?_
      refine pw_sipush (v := 2048) C dX8_stir_60 (by decide) ?_
      refine pw_idiv C dX8_stir_63 (by decide) ?_
      refine pw_iconst (v := 3) C dX8_stir_64 (by decide) ?_
      refine pw_irem C dX8_stir_65 (by decide) ?_
      refine pw_iadd C dX8_stir_66 ?_
      refine pw_iload_n C dX8_stir_67 rfl 2 rfl ?_
      refine pw_sipush (v := 8192) C dX8_stir_68 (by decide) ?_
      refine pw_idiv C dX8_stir_71 (by decide) ?_
      refine pw_bipush (v := 8) C dX8_stir_72 (by decide) ?_
      refine pw_irem C dX8_stir_74 (by decide) ?_
      obtain ⟨Φ4, hM, h⟩ := h
      refine pw_callV C dX8_stir_75 hM gm_X8_lays gl_RX8_277 rfl hR (by decide) (by decide) (by decide) rfl gk_189.1 gk_189.2 rfl (Nat.le_of_ble_eq_true rfl) ?_
      rintro _ τ5 ⟨r6, rfl, hv⟩
      replace h := h r6 τ5 hv
      show PW x G 3 78 [(2, .int ((v1 / 8) - (v1 / 8) / 8 * 8)), (0, .ref (G.1 + 189)), (1, .int v1)] [.int (gz r6)] τ5
      refine pw_pop C dX8_stir_78 rfl ?_
      refine pw_goto (tgt := 119) C dX8_stir_79 (by decide) ?_
      exact pw_vret C hT dX8_stir_119 h
    · replace h := h.2.1 q2
      refine pw_tin (tgt := 82) (off := 70) C 1 dX8_stir_12 q2 (by decide) (by decide) rfl (by decide) ?_
      refine pw_aload_n C dX8_stir_82 rfl 1 rfl ?_
      refine pw_iload_n C dX8_stir_83 rfl 2 rfl ?_
      refine pw_sipush (v := 512) C dX8_stir_84 (by decide) ?_
      refine pw_idiv C dX8_stir_87 (by decide) ?_
      refine pw_bipush (v := 14) C dX8_stir_88 (by decide) ?_
      refine pw_irem C dX8_stir_90 (by decide) ?_
      obtain ⟨Φ7, hM, h⟩ := h
      refine pw_callV C dX8_stir_91 hM gm_X8_cuts gl_RX8_281 rfl hR (by decide) (by decide) (by decide) rfl gk_189.1 gk_189.2 rfl (Nat.le_of_ble_eq_true rfl) ?_
      rintro _ τ8 ⟨r9, rfl, hv⟩
      replace h := h r9 τ8 hv
      show PW x G 3 94 [(2, .int ((v1 / 8) - (v1 / 8) / 8 * 8)), (0, .ref (G.1 + 189)), (1, .int v1)] [.int (gz r9)] τ8
      refine pw_pop C dX8_stir_94 rfl ?_
      refine pw_goto (tgt := 119) C dX8_stir_95 (by decide) ?_
      exact pw_vret C hT dX8_stir_119 h
    · replace h := h.2.2 q2
      refine pw_tin (tgt := 98) (off := 86) C 2 dX8_stir_12 q2 (by decide) (by decide) rfl (by decide) ?_
      refine pw_aload_n C dX8_stir_98 rfl 1 rfl ?_
      refine pw_iload_n C dX8_stir_99 rfl 2 rfl ?_
      refine pw_sipush (v := 512) C dX8_stir_100 (by decide) ?_
      refine pw_idiv C dX8_stir_103 (by decide) ?_
      refine pw_iconst (v := 3) C dX8_stir_104 (by decide) ?_
      refine pw_irem C dX8_stir_105 (by decide) ?_
      obtain ⟨Φ10, hM, h⟩ := h
      refine pw_callV C dX8_stir_106 hM gm_X8_rounds gl_RX8_291 rfl hR (by decide) (by decide) (by decide) rfl gk_189.1 gk_189.2 rfl (Nat.le_of_ble_eq_true rfl) ?_
      rintro _ τ11 ⟨r12, rfl, hv⟩
      replace h := h r12 τ11 hv
      show PW x G 3 109 [(2, .int ((v1 / 8) - (v1 / 8) / 8 * 8)), (0, .ref (G.1 + 189)), (1, .int v1)] [.int (gz r12)] τ11
      refine pw_pop C dX8_stir_109 rfl ?_
      refine pw_goto (tgt := 119) C dX8_stir_110 (by decide) ?_
      exact pw_vret C hT dX8_stir_119 h
set_option maxRecDepth 4000 in
theorem sg_X8_simulate_0 {x : gw_X} {G : gw_G} {Φ : Int32 → gw_S → Prop} (C : XC x G RX8 cX8_simulate 8 (some .int)) (hR : gw_ok x 7) (hT : RT x G (fi Φ)) (v1 : Int64) (v3 : Int32) (σ : gw_S)
    (h : ∀ τ1 : gw_S, τ1 = gw_u σ 189 0 (gz (if (if (lg_cmp v3.toInt64 1) < 0 then false else (if 0 < (lg_cmp v3.toInt64 99) then false else true : Bool) : Bool) = false then true else false : Bool)) → (((if (gz (if (if (lg_cmp v3.toInt64 1) < 0 then false else (if 0 < (lg_cmp v3.toInt64 99) then false else true : Bool) : Bool) = false then true else false : Bool)) ≤ 0 then false else true : Bool) = false → ∃ Φ2 : gw_S → Prop, gw_M (xl x) G yX8_tryIt cX8_tryIt 1 none 1 [.ref (G.1 + 189)] τ1 (fv Φ2) ∧ ∀ (τ3 : gw_S), Φ2 τ3 → (PW x G 8 36 [(0, .ref (G.1 + 189)), (1, .long v1), (3, .int v3), (4, .long v1), (6, .int 0)] [] τ3)) ∧ (¬ ((if (gz (if (if (lg_cmp v3.toInt64 1) < 0 then false else (if 0 < (lg_cmp v3.toInt64 99) then false else true : Bool) : Bool) = false then true else false : Bool)) ≤ 0 then false else true : Bool) = false) → Φ 0 τ1))) : PW x G 8 0 [(0, .ref (G.1 + 189)), (1, .long v1), (3, .int v3)] [] σ := by
  refine pw_aload_n C dX8_simulate_0 rfl 0 rfl ?_
  refine pw_iload_n C dX8_simulate_1 rfl 2 rfl ?_
  refine pw_i2l (v := v3.toInt64) C dX8_simulate_2 rfl ?_
  refine pw_lconst (v := 1) C dX8_simulate_3 (by decide) ?_
  refine pw_ldc2 C dX8_simulate_4 gl_RX8_257 ?_
  refine pw_callS C dX8_simulate_7 (k_X8_in v3.toInt64 1 99 σ ) gm_X8_in gl_RX8_146 rfl hR (by decide) (by decide) rfl (Nat.le_of_ble_eq_true rfl) ?_
  rintro _ _ ⟨_, rfl, rfl, rfl⟩
  show PW x G 8 10 [(0, .ref (G.1 + 189)), (1, .long v1), (3, .int v3)] [.int (gz (if (lg_cmp v3.toInt64 1) < 0 then false else (if 0 < (lg_cmp v3.toInt64 99) then false else true : Bool) : Bool)), .ref (G.1 + 189)] σ
  have hJ : ∀ w0 : Bool, (if (if (lg_cmp v3.toInt64 1) < 0 then false else (if 0 < (lg_cmp v3.toInt64 99) then false else true : Bool) : Bool) = false then true else false : Bool) = w0 → PW x G 8 18 [(0, .ref (G.1 + 189)), (1, .long v1), (3, .int v3)] [.int (gz w0), .ref (G.1 + 189)] σ := by
    rintro _ rfl
    refine pw_callV C dX8_simulate_18 (k_X8_refused (gz (if (if (lg_cmp v3.toInt64 1) < 0 then false else (if 0 < (lg_cmp v3.toInt64 99) then false else true : Bool) : Bool) = false then true else false : Bool)) σ ) gm_X8_refused gl_RX8_153 rfl hR (by decide) (by decide) (by decide) rfl gk_189.1 gk_189.2 rfl (Nat.le_of_ble_eq_true rfl) ?_
    rintro _ _ ⟨_, rfl, rfl, rfl⟩
    generalize hτ1 : gw_u σ 189 0 (gz (if (if (lg_cmp v3.toInt64 1) < 0 then false else (if 0 < (lg_cmp v3.toInt64 99) then false else true : Bool) : Bool) = false then true else false : Bool)) = τ1
    replace h := h τ1 hτ1.symm
    show PW x G 8 21 [(0, .ref (G.1 + 189)), (1, .long v1), (3, .int v3)] [.int (gz (if (gz (if (if (lg_cmp v3.toInt64 1) < 0 then false else (if 0 < (lg_cmp v3.toInt64 99) then false else true : Bool) : Bool) = false then true else false : Bool)) ≤ 0 then false else true : Bool))] τ1
    show PW x G 8 21 [(0, .ref (G.1 + 189)), (1, .long v1), (3, .int v3)] [.int (gz (if (gz (if (if (lg_cmp v3.toInt64 1) < 0 then false else (if 0 < (lg_cmp v3.toInt64 99) then false else true : Bool) : Bool) = false then true else false : Bool)) ≤ 0 then false else true : Bool))] τ1
    refine pw_z_eq (tgt := 26) C dX8_simulate_21 (by decide) (fun q => ?_) (fun q => ?_)
    · replace h := h.1 q
      refine pw_aload_n C dX8_simulate_26 rfl 0 rfl ?_
      obtain ⟨Φ2, hM, h⟩ := h
      refine pw_callV C dX8_simulate_27 hM gm_X8_tryIt gl_RX8_131 rfl hR (by decide) (by decide) (by decide) rfl gk_189.1 gk_189.2 rfl (Nat.le_of_ble_eq_true rfl) ?_
      rintro _ τ3 ⟨rfl, hv⟩
      replace h := h τ3 hv
      show PW x G 8 30 [(0, .ref (G.1 + 189)), (1, .long v1), (3, .int v3)] [] τ3
      refine pw_lload_n C dX8_simulate_30 rfl 1 rfl ?_
      refine pw_lstore C dX8_simulate_31 (by decide) rfl ?_
      refine pw_iconst (v := 0) C dX8_simulate_33 (by decide) ?_
      refine pw_istore C dX8_simulate_34 (by decide) rfl ?_
      exact pw_sub [2, 3, 4, 1, 0] rfl h
    · replace h := h.2 q
      refine pw_iconst (v := 0) C dX8_simulate_24 (by decide) ?_
      exact pw_iret C hT dX8_simulate_25 h
  clear h
  refine pw_z_eq (tgt := 17) C dX8_simulate_10 (by decide) (fun q1 => ?_) (fun q1 => ?_)
  · refine pw_iconst (v := 1) C dX8_simulate_17 (by decide) ?_
    exact hJ true (if_pos q1)
  · refine pw_iconst (v := 0) C dX8_simulate_13 (by decide) ?_
    refine pw_goto (tgt := 18) C dX8_simulate_14 (by decide) ?_
    exact hJ false (if_neg q1)
set_option maxRecDepth 4000 in
theorem sg_X8_simulate_36 {x : gw_X} {G : gw_G} {Φ : Int32 → gw_S → Prop} (C : XC x G RX8 cX8_simulate 8 (some .int)) (hR : gw_ok x 7) (hT : RT x G (fi Φ)) (v1 : Int64) (v3 : Int32) (v4 : Int64) (v6 : Int32) (σ : gw_S)
    (h : (v3 ≤ v6 → ∃ Φ1 : Int32 → gw_S → Prop, gw_M (xl x) G yX8_works cX8_works 3 (some .int) 1 [.ref (G.1 + 193)] σ (fi Φ1) ∧ ∀ (r3 : Int32) (τ2 : gw_S), Φ1 r3 τ2 → (∃ Φ4 : Int32 → gw_S → Prop, gw_M (xl x) G yX8_works cX8_works 3 (some .int) 1 [.ref (G.1 + 192)] τ2 (fi Φ4) ∧ ∀ (r6 : Int32) (τ5 : gw_S), Φ4 r6 τ5 → (∃ Φ7 : Int32 → gw_S → Prop, gw_M (xl x) G yX8_marks cX8_marks 3 (some .int) 1 [.ref (G.1 + 193)] τ5 (fi Φ7) ∧ ∀ (r9 : Int32) (τ8 : gw_S), Φ7 r9 τ8 → (Φ ((1000 * (if (r3 - r6) ≤ 999 then r3 - r6 else 999 : Int32)) + (if r9 ≤ 999 then r9 else 999 : Int32)) τ8)))) ∧ (¬ (v3 ≤ v6) → ∃ Φ10 : gw_S → Prop, gw_M (xl x) G yX8_stir cX8_stir 3 none 6 [.ref (G.1 + 189), .int (((((v4 * 6364136223846793005) + 1442695040888963407).toUInt64 >>> ((33 : Int32).toInt64.toUInt64 &&& Int64.toUInt64 63)).toInt64).toInt32)] σ (fv Φ10) ∧ ∀ (τ11 : gw_S), Φ10 τ11 → (PW x G 8 36 [(0, .ref (G.1 + 189)), (1, .long v1), (3, .int v3), (4, .long ((v4 * 6364136223846793005) + 1442695040888963407)), (6, .int (v6 + 1))] [] τ11))) : PW x G 8 36 [(0, .ref (G.1 + 189)), (1, .long v1), (3, .int v3), (4, .long v4), (6, .int v6)] [] σ := by
  refine pw_iload C dX8_simulate_36 4 rfl ?_
  refine pw_iload_n C dX8_simulate_38 rfl 2 rfl ?_
  refine pw_icmp_ge (tgt := 70) C dX8_simulate_39 (by decide) (fun q => ?_) (fun q => ?_)
  · replace h := h.1 q
    refine pw_aload_n C dX8_simulate_70 rfl 0 rfl ?_
    refine pw_getr C dX8_simulate_71 gf_RX8_19 gk_189.1 gk_189.2 rfl ?_
    obtain ⟨Φ1, hM, h⟩ := h
    refine pw_callS C dX8_simulate_74 hM gm_X8_works gl_RX8_222 rfl hR (by decide) (by decide) rfl (Nat.le_of_ble_eq_true rfl) ?_
    rintro _ τ2 ⟨r3, rfl, hv⟩
    replace h := h r3 τ2 hv
    show PW x G 8 77 [(0, .ref (G.1 + 189)), (1, .long v1), (3, .int v3), (4, .long v4), (6, .int v6)] [.int r3] τ2
    refine pw_aload_n C dX8_simulate_77 rfl 0 rfl ?_
    refine pw_getr C dX8_simulate_78 gf_RX8_16 gk_189.1 gk_189.2 rfl ?_
    obtain ⟨Φ4, hM, h⟩ := h
    refine pw_callS C dX8_simulate_81 hM gm_X8_works gl_RX8_222 rfl hR (by decide) (by decide) rfl (Nat.le_of_ble_eq_true rfl) ?_
    rintro _ τ5 ⟨r6, rfl, hv⟩
    replace h := h r6 τ5 hv
    show PW x G 8 84 [(0, .ref (G.1 + 189)), (1, .long v1), (3, .int v3), (4, .long v4), (6, .int v6)] [.int r6, .int r3] τ5
    refine pw_isub C dX8_simulate_84 ?_
    refine pw_istore C dX8_simulate_85 (by decide) rfl ?_
    refine pw_aload_n C dX8_simulate_87 rfl 1 rfl ?_
    refine pw_getr C dX8_simulate_88 gf_RX8_19 gk_189.1 gk_189.2 rfl ?_
    obtain ⟨Φ7, hM, h⟩ := h
    refine pw_callS C dX8_simulate_91 hM gm_X8_marks gl_RX8_218 rfl hR (by decide) (by decide) rfl (Nat.le_of_ble_eq_true rfl) ?_
    rintro _ τ8 ⟨r9, rfl, hv⟩
    replace h := h r9 τ8 hv
    show PW x G 8 94 [(6, .int (r3 - r6)), (0, .ref (G.1 + 189)), (1, .long v1), (3, .int v3), (4, .long v4)] [.int r9] τ8
    refine pw_istore C dX8_simulate_94 (by decide) rfl ?_
    refine pw_sipush (v := 1000) C dX8_simulate_96 (by decide) ?_
    refine pw_iload C dX8_simulate_99 1 rfl ?_
    refine pw_sipush (v := 999) C dX8_simulate_101 (by decide) ?_
    have hJ : ∀ w0 : Int32, (if (r3 - r6) ≤ 999 then r3 - r6 else 999 : Int32) = w0 → PW x G 8 115 [(7, .int r9), (6, .int (r3 - r6)), (0, .ref (G.1 + 189)), (1, .long v1), (3, .int v3), (4, .long v4)] [.int w0, .int 1000] τ8 := by
      rintro _ rfl
      refine pw_imul C dX8_simulate_115 ?_
      refine pw_iload C dX8_simulate_116 0 rfl ?_
      refine pw_sipush (v := 999) C dX8_simulate_118 (by decide) ?_
      have hJ : ∀ w0 : Int32, (if r9 ≤ 999 then r9 else 999 : Int32) = w0 → PW x G 8 132 [(7, .int r9), (6, .int (r3 - r6)), (0, .ref (G.1 + 189)), (1, .long v1), (3, .int v3), (4, .long v4)] [.int w0, .int (1000 * (if (r3 - r6) ≤ 999 then r3 - r6 else 999 : Int32))] τ8 := by
        rintro _ rfl
        refine pw_iadd C dX8_simulate_132 ?_
        exact pw_iret C hT dX8_simulate_133 h
      clear h
      refine pw_icmp_le (tgt := 130) C dX8_simulate_121 (by decide) (fun q3 => ?_) (fun q3 => ?_)
      · refine pw_iload C dX8_simulate_130 0 rfl ?_
        exact hJ r9 (if_pos q3)
      · refine pw_sipush (v := 999) C dX8_simulate_124 (by decide) ?_
        refine pw_goto (tgt := 132) C dX8_simulate_127 (by decide) ?_
        exact hJ 999 (if_neg q3)
    clear h
    refine pw_icmp_le (tgt := 113) C dX8_simulate_104 (by decide) (fun q2 => ?_) (fun q2 => ?_)
    · refine pw_iload C dX8_simulate_113 1 rfl ?_
      exact hJ (r3 - r6) (if_pos q2)
    · refine pw_sipush (v := 999) C dX8_simulate_107 (by decide) ?_
      refine pw_goto (tgt := 115) C dX8_simulate_110 (by decide) ?_
      exact hJ 999 (if_neg q2)
  · replace h := h.2 q
    refine pw_lload C dX8_simulate_42 3 rfl ?_
    refine pw_ldc2 C dX8_simulate_44 gl_RX8_303 ?_
    refine pw_lmul C dX8_simulate_47 ?_
    refine pw_ldc2 C dX8_simulate_48 gl_RX8_305 ?_
    refine pw_ladd C dX8_simulate_51 ?_
    refine pw_lstore C dX8_simulate_52 (by decide) rfl ?_
    refine pw_aload_n C dX8_simulate_54 rfl 1 rfl ?_
    refine pw_lload C dX8_simulate_55 0 rfl ?_
    refine pw_bipush (v := 33) C dX8_simulate_57 (by decide) ?_
    refine pw_lushr (v := ((((v4 * 6364136223846793005) + 1442695040888963407).toUInt64 >>> ((33 : Int32).toInt64.toUInt64 &&& Int64.toUInt64 63)).toInt64)) C dX8_simulate_59 rfl ?_
    refine pw_l2i (v := (((((v4 * 6364136223846793005) + 1442695040888963407).toUInt64 >>> ((33 : Int32).toInt64.toUInt64 &&& Int64.toUInt64 63)).toInt64).toInt32)) C dX8_simulate_60 rfl ?_
    obtain ⟨Φ10, hM, h⟩ := h
    refine pw_callV C dX8_simulate_61 hM gm_X8_stir gl_RX8_307 rfl hR (by decide) (by decide) (by decide) rfl gk_189.1 gk_189.2 rfl (Nat.le_of_ble_eq_true rfl) ?_
    rintro _ τ11 ⟨rfl, hv⟩
    replace h := h τ11 hv
    show PW x G 8 64 [(4, .long ((v4 * 6364136223846793005) + 1442695040888963407)), (0, .ref (G.1 + 189)), (1, .long v1), (3, .int v3), (6, .int v6)] [] τ11
    refine pw_iinc (v := (v6 + 1)) (j := 4) C dX8_simulate_64 rfl rfl (by decide) rfl ?_
    refine pw_goto (tgt := 36) C dX8_simulate_67 (by decide) ?_
    exact pw_sub [2, 3, 4, 1, 0] rfl h
set_option maxRecDepth 4000 in
theorem sg_X8_save_0 {x : gw_X} {G : gw_G} {Φ : Int32 → gw_S → Prop} (C : XC x G RX8 cX8_save 2 (some .int)) (hR : gw_ok x 1) (hT : RT x G (fi Φ)) (v1 : Int32) (σ : gw_S)
    (h : ∀ τ1 : gw_S, τ1 = gw_u σ 189 0 (gz (if (if (lg_cmp v1.toInt64 0) < 0 then false else (if 0 < (lg_cmp v1.toInt64 1) then false else true : Bool) : Bool) = false then true else false : Bool)) → (((if (gz (if (if (lg_cmp v1.toInt64 0) < 0 then false else (if 0 < (lg_cmp v1.toInt64 1) then false else true : Bool) : Bool) = false then true else false : Bool)) ≤ 0 then false else true : Bool) = false → ∃ Φ2 : gw_S → Prop, gw_M (xl x) G yX8_copy cX8_copy 6 none 0 [.ref (G.1 + 192), .int 0, .ref (G.1 + 195), .int (96 * v1), .int 96] τ1 (fv Φ2) ∧ ∀ (τ3 : gw_S), Φ2 τ3 → (vp_in v1 2 ∧ (∀ τ5 : gw_S, τ5 = gw_u τ3 196 v1.toNatClampNeg 1 → (Φ (τ5.1 192 ((1 : Int32).toNatClampNeg)) τ5)))) ∧ (¬ ((if (gz (if (if (lg_cmp v1.toInt64 0) < 0 then false else (if 0 < (lg_cmp v1.toInt64 1) then false else true : Bool) : Bool) = false then true else false : Bool)) ≤ 0 then false else true : Bool) = false) → Φ 0 τ1))) : PW x G 2 0 [(0, .ref (G.1 + 189)), (1, .int v1)] [] σ := by
  refine pw_aload_n C dX8_save_0 rfl 0 rfl ?_
  refine pw_iload_n C dX8_save_1 rfl 1 rfl ?_
  refine pw_i2l (v := v1.toInt64) C dX8_save_2 rfl ?_
  refine pw_lconst (v := 0) C dX8_save_3 (by decide) ?_
  refine pw_lconst (v := 1) C dX8_save_4 (by decide) ?_
  refine pw_callS C dX8_save_5 (k_X8_in v1.toInt64 0 1 σ ) gm_X8_in gl_RX8_146 rfl hR (by decide) (by decide) rfl (Nat.le_of_ble_eq_true rfl) ?_
  rintro _ _ ⟨_, rfl, rfl, rfl⟩
  show PW x G 2 8 [(0, .ref (G.1 + 189)), (1, .int v1)] [.int (gz (if (lg_cmp v1.toInt64 0) < 0 then false else (if 0 < (lg_cmp v1.toInt64 1) then false else true : Bool) : Bool)), .ref (G.1 + 189)] σ
  have hJ : ∀ w0 : Bool, (if (if (lg_cmp v1.toInt64 0) < 0 then false else (if 0 < (lg_cmp v1.toInt64 1) then false else true : Bool) : Bool) = false then true else false : Bool) = w0 → PW x G 2 16 [(0, .ref (G.1 + 189)), (1, .int v1)] [.int (gz w0), .ref (G.1 + 189)] σ := by
    rintro _ rfl
    refine pw_callV C dX8_save_16 (k_X8_refused (gz (if (if (lg_cmp v1.toInt64 0) < 0 then false else (if 0 < (lg_cmp v1.toInt64 1) then false else true : Bool) : Bool) = false then true else false : Bool)) σ ) gm_X8_refused gl_RX8_153 rfl hR (by decide) (by decide) (by decide) rfl gk_189.1 gk_189.2 rfl (Nat.le_of_ble_eq_true rfl) ?_
    rintro _ _ ⟨_, rfl, rfl, rfl⟩
    generalize hτ1 : gw_u σ 189 0 (gz (if (if (lg_cmp v1.toInt64 0) < 0 then false else (if 0 < (lg_cmp v1.toInt64 1) then false else true : Bool) : Bool) = false then true else false : Bool)) = τ1
    replace h := h τ1 hτ1.symm
    show PW x G 2 19 [(0, .ref (G.1 + 189)), (1, .int v1)] [.int (gz (if (gz (if (if (lg_cmp v1.toInt64 0) < 0 then false else (if 0 < (lg_cmp v1.toInt64 1) then false else true : Bool) : Bool) = false then true else false : Bool)) ≤ 0 then false else true : Bool))] τ1
    show PW x G 2 19 [(0, .ref (G.1 + 189)), (1, .int v1)] [.int (gz (if (gz (if (if (lg_cmp v1.toInt64 0) < 0 then false else (if 0 < (lg_cmp v1.toInt64 1) then false else true : Bool) : Bool) = false then true else false : Bool)) ≤ 0 then false else true : Bool))] τ1
    refine pw_z_eq (tgt := 24) C dX8_save_19 (by decide) (fun q => ?_) (fun q => ?_)
    · replace h := h.1 q
      refine pw_aload_n C dX8_save_24 rfl 0 rfl ?_
      refine pw_getr C dX8_save_25 gf_RX8_16 gk_189.1 gk_189.2 rfl ?_
      refine pw_iconst (v := 0) C dX8_save_28 (by decide) ?_
      refine pw_aload_n C dX8_save_29 rfl 0 rfl ?_
      refine pw_getr C dX8_save_30 gf_RX8_25 gk_189.1 gk_189.2 rfl ?_
      refine pw_bipush (v := 96) C dX8_save_33 (by decide) ?_
      refine pw_iload_n C dX8_save_35 rfl 1 rfl ?_
      refine pw_imul C dX8_save_36 ?_
      refine pw_bipush (v := 96) C dX8_save_37 (by decide) ?_
      obtain ⟨Φ2, hM, h⟩ := h
      refine pw_callS C dX8_save_39 hM gm_X8_copy gl_RX8_69 rfl hR (by decide) (by decide) rfl (Nat.le_of_ble_eq_true rfl) ?_
      rintro _ τ3 ⟨rfl, hv⟩
      replace h := h τ3 hv
      show PW x G 2 42 [(0, .ref (G.1 + 189)), (1, .int v1)] [] τ3
      refine pw_aload_n C dX8_save_42 rfl 0 rfl ?_
      refine pw_getr C dX8_save_43 gf_RX8_28 gk_189.1 gk_189.2 rfl ?_
      refine pw_iload_n C dX8_save_46 rfl 1 rfl ?_
      refine pw_iconst (v := 1) C dX8_save_47 (by decide) ?_
      obtain ⟨g4, h⟩ := h
      refine pw_bast C dX8_save_48 gk_196.1 gk_196.2 g4 rfl ?_
      generalize hτ5 : gw_u τ3 196 v1.toNatClampNeg 1 = τ5
      replace h := h τ5 hτ5.symm
      show PW x G 2 49 [(0, .ref (G.1 + 189)), (1, .int v1)] [] τ5
      refine pw_aload_n C dX8_save_49 rfl 0 rfl ?_
      refine pw_getr C dX8_save_50 gf_RX8_16 gk_189.1 gk_189.2 rfl ?_
      refine pw_iconst (v := 1) C dX8_save_53 (by decide) ?_
      refine pw_iald C dX8_save_54 gk_192.1 gk_192.2 (by show ¬ (_ ∨ _); decide) ?_
      exact pw_iret C hT dX8_save_55 h
    · replace h := h.2 q
      refine pw_iconst (v := 0) C dX8_save_22 (by decide) ?_
      exact pw_iret C hT dX8_save_23 h
  clear h
  refine pw_z_eq (tgt := 15) C dX8_save_8 (by decide) (fun q1 => ?_) (fun q1 => ?_)
  · refine pw_iconst (v := 1) C dX8_save_15 (by decide) ?_
    exact hJ true (if_pos q1)
  · refine pw_iconst (v := 0) C dX8_save_11 (by decide) ?_
    refine pw_goto (tgt := 16) C dX8_save_12 (by decide) ?_
    exact hJ false (if_neg q1)
set_option maxRecDepth 4000 in
theorem sg_X8_restore_0 {x : gw_X} {G : gw_G} {Φ : Int32 → gw_S → Prop} (C : XC x G RX8 cX8_restore 2 (some .int)) (hR : gw_ok x 1) (hT : RT x G (fi Φ)) (v1 : Int32) (σ : gw_S)
    (h : ((¬ ((if (lg_cmp v1.toInt64 0) < 0 then false else (if 0 < (lg_cmp v1.toInt64 1) then false else true : Bool) : Bool) = false) → vp_in v1 2 ∧ (True)) ∧ ((if (lg_cmp v1.toInt64 0) < 0 then false else (if 0 < (lg_cmp v1.toInt64 1) then false else true : Bool) : Bool) = false → True)) ∧ (∀ τ2 : gw_S, τ2 = gw_u σ 189 0 (if (if (lg_cmp v1.toInt64 0) < 0 then false else (if 0 < (lg_cmp v1.toInt64 1) then false else true : Bool) : Bool) = false then 1 else (if (σ.1 196 v1.toNatClampNeg) = 0 then 2 else 0 : Int32) : Int32) → (((if (if (if (lg_cmp v1.toInt64 0) < 0 then false else (if 0 < (lg_cmp v1.toInt64 1) then false else true : Bool) : Bool) = false then 1 else (if (σ.1 196 v1.toNatClampNeg) = 0 then 2 else 0 : Int32) : Int32) ≤ 0 then false else true : Bool) = false → ∃ Φ3 : gw_S → Prop, gw_M (xl x) G yX8_copy cX8_copy 6 none 0 [.ref (G.1 + 195), .int (96 * v1), .ref (G.1 + 192), .int 0, .int 96] τ2 (fv Φ3) ∧ ∀ (τ4 : gw_S), Φ3 τ4 → (∀ τ5 : gw_S, τ5 = gw_u τ4 189 10 0 → (Φ (τ5.1 192 ((1 : Int32).toNatClampNeg)) τ5))) ∧ (¬ ((if (if (if (lg_cmp v1.toInt64 0) < 0 then false else (if 0 < (lg_cmp v1.toInt64 1) then false else true : Bool) : Bool) = false then 1 else (if (σ.1 196 v1.toNatClampNeg) = 0 then 2 else 0 : Int32) : Int32) ≤ 0 then false else true : Bool) = false) → Φ 0 τ2)))) : PW x G 2 0 [(0, .ref (G.1 + 189)), (1, .int v1)] [] σ := by
  refine pw_aload_n C dX8_restore_0 rfl 0 rfl ?_
  refine pw_iload_n C dX8_restore_1 rfl 1 rfl ?_
  refine pw_i2l (v := v1.toInt64) C dX8_restore_2 rfl ?_
  refine pw_lconst (v := 0) C dX8_restore_3 (by decide) ?_
  refine pw_lconst (v := 1) C dX8_restore_4 (by decide) ?_
  refine pw_callS C dX8_restore_5 (k_X8_in v1.toInt64 0 1 σ ) gm_X8_in gl_RX8_146 rfl hR (by decide) (by decide) rfl (Nat.le_of_ble_eq_true rfl) ?_
  rintro _ _ ⟨_, rfl, rfl, rfl⟩
  show PW x G 2 8 [(0, .ref (G.1 + 189)), (1, .int v1)] [.int (gz (if (lg_cmp v1.toInt64 0) < 0 then false else (if 0 < (lg_cmp v1.toInt64 1) then false else true : Bool) : Bool)), .ref (G.1 + 189)] σ
  obtain ⟨hs, h⟩ := h
  have hJ : ∀ w0 : Int32, (if (if (lg_cmp v1.toInt64 0) < 0 then false else (if 0 < (lg_cmp v1.toInt64 1) then false else true : Bool) : Bool) = false then 1 else (if (σ.1 196 v1.toNatClampNeg) = 0 then 2 else 0 : Int32) : Int32) = w0 → PW x G 2 29 [(0, .ref (G.1 + 189)), (1, .int v1)] [.int w0, .ref (G.1 + 189)] σ := by
    rintro _ rfl
    refine pw_callV C dX8_restore_29 (k_X8_refused (if (if (lg_cmp v1.toInt64 0) < 0 then false else (if 0 < (lg_cmp v1.toInt64 1) then false else true : Bool) : Bool) = false then 1 else (if (σ.1 196 v1.toNatClampNeg) = 0 then 2 else 0 : Int32) : Int32) σ ) gm_X8_refused gl_RX8_153 rfl hR (by decide) (by decide) (by decide) rfl gk_189.1 gk_189.2 rfl (Nat.le_of_ble_eq_true rfl) ?_
    rintro _ _ ⟨_, rfl, rfl, rfl⟩
    generalize hτ2 : gw_u σ 189 0 (if (if (lg_cmp v1.toInt64 0) < 0 then false else (if 0 < (lg_cmp v1.toInt64 1) then false else true : Bool) : Bool) = false then 1 else (if (σ.1 196 v1.toNatClampNeg) = 0 then 2 else 0 : Int32) : Int32) = τ2
    replace h := h τ2 hτ2.symm
    show PW x G 2 32 [(0, .ref (G.1 + 189)), (1, .int v1)] [.int (gz (if (if (if (lg_cmp v1.toInt64 0) < 0 then false else (if 0 < (lg_cmp v1.toInt64 1) then false else true : Bool) : Bool) = false then 1 else (if (σ.1 196 v1.toNatClampNeg) = 0 then 2 else 0 : Int32) : Int32) ≤ 0 then false else true : Bool))] τ2
    show PW x G 2 32 [(0, .ref (G.1 + 189)), (1, .int v1)] [.int (gz (if (if (if (lg_cmp v1.toInt64 0) < 0 then false else (if 0 < (lg_cmp v1.toInt64 1) then false else true : Bool) : Bool) = false then 1 else (if (σ.1 196 v1.toNatClampNeg) = 0 then 2 else 0 : Int32) : Int32) ≤ 0 then false else true : Bool))] τ2
    refine pw_z_eq (tgt := 37) C dX8_restore_32 (by decide) (fun q => ?_) (fun q => ?_)
    · replace h := h.1 q
      refine pw_aload_n C dX8_restore_37 rfl 0 rfl ?_
      refine pw_getr C dX8_restore_38 gf_RX8_25 gk_189.1 gk_189.2 rfl ?_
      refine pw_bipush (v := 96) C dX8_restore_41 (by decide) ?_
      refine pw_iload_n C dX8_restore_43 rfl 1 rfl ?_
      refine pw_imul C dX8_restore_44 ?_
      refine pw_aload_n C dX8_restore_45 rfl 0 rfl ?_
      refine pw_getr C dX8_restore_46 gf_RX8_16 gk_189.1 gk_189.2 rfl ?_
      refine pw_iconst (v := 0) C dX8_restore_49 (by decide) ?_
      refine pw_bipush (v := 96) C dX8_restore_50 (by decide) ?_
      obtain ⟨Φ3, hM, h⟩ := h
      refine pw_callS C dX8_restore_52 hM gm_X8_copy gl_RX8_69 rfl hR (by decide) (by decide) rfl (Nat.le_of_ble_eq_true rfl) ?_
      rintro _ τ4 ⟨rfl, hv⟩
      replace h := h τ4 hv
      show PW x G 2 55 [(0, .ref (G.1 + 189)), (1, .int v1)] [] τ4
      refine pw_aload_n C dX8_restore_55 rfl 0 rfl ?_
      refine pw_iconst (v := 0) C dX8_restore_56 (by decide) ?_
      refine pw_puti C dX8_restore_57 gf_RX8_66 rfl rfl rfl gk_189.1 gk_189.2 rfl ?_
      generalize hτ5 : gw_u τ4 189 10 0 = τ5
      replace h := h τ5 hτ5.symm
      show PW x G 2 60 [(0, .ref (G.1 + 189)), (1, .int v1)] [] τ5
      refine pw_aload_n C dX8_restore_60 rfl 0 rfl ?_
      refine pw_getr C dX8_restore_61 gf_RX8_16 gk_189.1 gk_189.2 rfl ?_
      refine pw_iconst (v := 1) C dX8_restore_64 (by decide) ?_
      refine pw_iald C dX8_restore_65 gk_192.1 gk_192.2 (by show ¬ (_ ∨ _); decide) ?_
      exact pw_iret C hT dX8_restore_66 h
    · replace h := h.2 q
      refine pw_iconst (v := 0) C dX8_restore_35 (by decide) ?_
      exact pw_iret C hT dX8_restore_36 h
  clear h
  refine pw_z_ne (tgt := 15) C dX8_restore_8 (by decide) (fun q1 => ?_) (fun q1 => ?_)
  · replace hs := hs.1 q1
    refine pw_aload_n C dX8_restore_15 rfl 0 rfl ?_
    refine pw_getr C dX8_restore_16 gf_RX8_28 gk_189.1 gk_189.2 rfl ?_
    refine pw_iload_n C dX8_restore_19 rfl 1 rfl ?_
    obtain ⟨g1, hs⟩ := hs
    refine pw_bald C dX8_restore_20 gk_196.1 gk_196.2 g1 ?_
    refine pw_if_eq (tgt := 28) C dX8_restore_21 (by decide) (fun q2 => ?_) (fun q2 => ?_)
    · refine pw_iconst (v := 2) C dX8_restore_28 (by decide) ?_
      exact hJ 2 ((if_neg q1).trans (if_pos q2))
    · refine pw_iconst (v := 0) C dX8_restore_24 (by decide) ?_
      refine pw_goto (tgt := 29) C dX8_restore_25 (by decide) ?_
      exact hJ 0 ((if_neg q1).trans (if_neg q2))
  · replace hs := hs.2 q1
    refine pw_iconst (v := 1) C dX8_restore_11 (by decide) ?_
    refine pw_goto (tgt := 29) C dX8_restore_12 (by decide) ?_
    exact hJ 1 (if_pos q1)
