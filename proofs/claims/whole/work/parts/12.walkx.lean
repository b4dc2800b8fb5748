set_option maxRecDepth 4000 in
theorem sg_X0_follow_0 {x : gw_X} {G : gw_G} {Φ : gw_S → Prop} (C : XC x G RX0 cX0_follow 5 none) (hR : gw_ok x 3) (hT : RT x G (fv Φ)) (b1 : Nat) (v2 : Int32) (hb1 : gw_plan b1) (σ : gw_S)
    (h : ∃ Φ1 : gw_S → Prop, gw_M (xl x) G yX3_become cX3_become 2 none 1 [.ref (G.1 + 154), .ref (G.1 + b1)] σ (fv Φ1) ∧ ∀ (τ2 : gw_S), Φ1 τ2 → (∃ Φ3 : Bool → gw_S → Prop, gw_M (xl x) G yX4_agreeIn cX4_agreeIn 3 (some .boolean) 2 [.ref (G.1 + 152), .ref (G.1 + 154)] τ2 (fz Φ3) ∧ ∀ (r5 : Bool) (τ4 : gw_S), Φ3 r5 τ4 → (∀ τ6 : gw_S, τ6 = gw_u τ4 151 6 (gz r5) → (((τ6.1 151 6) = 0 → ∀ τ7 : gw_S, τ7 = gw_u τ6 151 7 0 → (∀ τ8 : gw_S, τ8 = gw_u τ7 151 8 0 → ((¬ ((τ8.1 151 6) = 0) → PW x G 5 60 [(0, .ref (G.1 + 151)), (1, .ref (G.1 + b1)), (2, .int v2), (3, .int 0)] [] τ8) ∧ ((τ8.1 151 6) = 0 → Φ τ8)))) ∧ (¬ ((τ6.1 151 6) = 0) → ∃ Φ9 : Int32 → gw_S → Prop, gw_M (xl x) G yX4_total cX4_total 3 (some .int) 0 [.ref (G.1 + 152)] τ6 (fi Φ9) ∧ ∀ (r11 : Int32) (τ10 : gw_S), Φ9 r11 τ10 → (∀ τ12 : gw_S, τ12 = gw_u τ10 151 7 r11 → (∀ τ13 : gw_S, τ13 = gw_u τ12 151 8 0 → ((¬ ((τ13.1 151 6) = 0) → PW x G 5 60 [(0, .ref (G.1 + 151)), (1, .ref (G.1 + b1)), (2, .int v2), (3, .int 0)] [] τ13) ∧ ((τ13.1 151 6) = 0 → Φ τ13))))))))) : PW x G 5 0 [(0, .ref (G.1 + 151)), (1, .ref (G.1 + b1)), (2, .int v2)] [] σ := by
  refine pw_aload_n C dX0_follow_0 rfl 0 rfl ?_
  refine pw_getr C dX0_follow_1 gf_RX0_21 gk_151.1 gk_151.2 rfl ?_
  refine pw_aload_n C dX0_follow_4 rfl 1 rfl ?_
  obtain ⟨Φ1, hM, h⟩ := h
  refine pw_callV C dX0_follow_5 hM gm_X3_become gl_RX0_38 rfl hR (by decide) (by decide) (by decide) rfl gk_154.1 gk_154.2 rfl (Nat.le_of_ble_eq_true rfl) ?_
  rintro _ τ2 ⟨rfl, hv⟩
  replace h := h τ2 hv
  show PW x G 5 8 [(0, .ref (G.1 + 151)), (1, .ref (G.1 + b1)), (2, .int v2)] [] τ2
  refine pw_aload_n C dX0_follow_8 rfl 0 rfl ?_
  refine pw_aload_n C dX0_follow_9 rfl 0 rfl ?_
  refine pw_getr C dX0_follow_10 gf_RX0_12 gk_151.1 gk_151.2 rfl ?_
  refine pw_aload_n C dX0_follow_13 rfl 0 rfl ?_
  refine pw_getr C dX0_follow_14 gf_RX0_21 gk_151.1 gk_151.2 rfl ?_
  obtain ⟨Φ3, hM, h⟩ := h
  refine pw_callV C dX0_follow_17 hM gm_X4_agreeIn gl_RX0_42 rfl hR (by decide) (by decide) (by decide) rfl gk_152.1 gk_152.2 rfl (Nat.le_of_ble_eq_true rfl) ?_
  rintro _ τ4 ⟨r5, rfl, hv⟩
  replace h := h r5 τ4 hv
  show PW x G 5 20 [(0, .ref (G.1 + 151)), (1, .ref (G.1 + b1)), (2, .int v2)] [.int (gz r5), .ref (G.1 + 151)] τ4
  refine pw_puti C dX0_follow_20 gf_RX0_46 rfl (gz_n _) (gz_fit _) gk_151.1 gk_151.2 rfl ?_
  generalize hτ6 : gw_u τ4 151 6 (gz r5) = τ6
  replace h := h τ6 hτ6.symm
  show PW x G 5 23 [(0, .ref (G.1 + 151)), (1, .ref (G.1 + b1)), (2, .int v2)] [] τ6
  refine pw_aload_n C dX0_follow_23 rfl 0 rfl ?_
  refine pw_aload_n C dX0_follow_24 rfl 0 rfl ?_
  refine pw_geti C dX0_follow_25 gf_RX0_46 gk_151.1 gk_151.2 rfl ?_
  refine pw_if_eq (tgt := 41) C dX0_follow_28 (by decide) (fun q => ?_) (fun q => ?_)
  · replace h := h.1 q
    refine pw_iconst (v := 0) C dX0_follow_41 (by decide) ?_
    refine pw_puti C dX0_follow_42 gf_RX0_54 rfl rfl rfl gk_151.1 gk_151.2 rfl ?_
    generalize hτ7 : gw_u τ6 151 7 0 = τ7
    replace h := h τ7 hτ7.symm
    show PW x G 5 45 [(0, .ref (G.1 + 151)), (1, .ref (G.1 + b1)), (2, .int v2)] [] τ7
    refine pw_aload_n C dX0_follow_45 rfl 0 rfl ?_
    refine pw_iconst (v := 0) C dX0_follow_46 (by decide) ?_
    refine pw_puti C dX0_follow_47 gf_RX0_57 rfl rfl rfl gk_151.1 gk_151.2 rfl ?_
    generalize hτ8 : gw_u τ7 151 8 0 = τ8
    replace h := h τ8 hτ8.symm
    show PW x G 5 50 [(0, .ref (G.1 + 151)), (1, .ref (G.1 + b1)), (2, .int v2)] [] τ8
    refine pw_aload_n C dX0_follow_50 rfl 0 rfl ?_
    refine pw_geti C dX0_follow_51 gf_RX0_46 gk_151.1 gk_151.2 rfl ?_
    refine pw_if_ne (tgt := 58) C dX0_follow_54 (by decide) (fun q => ?_) (fun q => ?_)
    · replace h := h.1 q
      refine pw_iconst (v := 0) C dX0_follow_58 (by decide) ?_
      refine pw_istore_n C dX0_follow_59 rfl (by decide) rfl ?_
      exact pw_sub [1, 2, 3, 0] rfl h
    · replace h := h.2 q
      exact pw_vret C hT dX0_follow_57 h
  · replace h := h.2 q
    refine pw_aload_n C dX0_follow_31 rfl 0 rfl ?_
    refine pw_getr C dX0_follow_32 gf_RX0_12 gk_151.1 gk_151.2 rfl ?_
    obtain ⟨Φ9, hM, h⟩ := h
    refine pw_callV C dX0_follow_35 hM gm_X4_total gl_RX0_50 rfl hR (by decide) (by decide) (by decide) rfl gk_152.1 gk_152.2 rfl (Nat.le_of_ble_eq_true rfl) ?_
    rintro _ τ10 ⟨r11, rfl, hv⟩
    replace h := h r11 τ10 hv
    show PW x G 5 38 [(0, .ref (G.1 + 151)), (1, .ref (G.1 + b1)), (2, .int v2)] [.int r11, .ref (G.1 + 151)] τ10
    refine pw_goto (tgt := 42) C dX0_follow_38 (by decide) ?_
    refine pw_puti C dX0_follow_42 gf_RX0_54 rfl rfl rfl gk_151.1 gk_151.2 rfl ?_
    generalize hτ12 : gw_u τ10 151 7 r11 = τ12
    replace h := h τ12 hτ12.symm
    show PW x G 5 45 [(0, .ref (G.1 + 151)), (1, .ref (G.1 + b1)), (2, .int v2)] [] τ12
    refine pw_aload_n C dX0_follow_45 rfl 0 rfl ?_
    refine pw_iconst (v := 0) C dX0_follow_46 (by decide) ?_
    refine pw_puti C dX0_follow_47 gf_RX0_57 rfl rfl rfl gk_151.1 gk_151.2 rfl ?_
    generalize hτ13 : gw_u τ12 151 8 0 = τ13
    replace h := h τ13 hτ13.symm
    show PW x G 5 50 [(0, .ref (G.1 + 151)), (1, .ref (G.1 + b1)), (2, .int v2)] [] τ13
    refine pw_aload_n C dX0_follow_50 rfl 0 rfl ?_
    refine pw_geti C dX0_follow_51 gf_RX0_46 gk_151.1 gk_151.2 rfl ?_
    refine pw_if_ne (tgt := 58) C dX0_follow_54 (by decide) (fun q => ?_) (fun q => ?_)
    · replace h := h.1 q
      refine pw_iconst (v := 0) C dX0_follow_58 (by decide) ?_
      refine pw_istore_n C dX0_follow_59 rfl (by decide) rfl ?_
      exact pw_sub [1, 2, 3, 0] rfl h
    · replace h := h.2 q
      exact pw_vret C hT dX0_follow_57 h
set_option maxRecDepth 4000 in
theorem sg_X0_follow_60 {x : gw_X} {G : gw_G} {Φ : gw_S → Prop} (C : XC x G RX0 cX0_follow 5 none) (hR : gw_ok x 3) (hT : RT x G (fv Φ)) (b1 : Nat) (hb1 : gw_plan b1) (v2 : Int32) (v3 : Int32) (σ : gw_S)
    (h : ((σ.1 154 0) ≤ v3 → PW x G 5 108 [(0, .ref (G.1 + 151)), (1, .ref (G.1 + b1)), (2, .int v2), (3, .int 0)] [] σ) ∧ (¬ ((σ.1 154 0) ≤ v3) → vp_in v3 8 ∧ (∀ τ2 : gw_S, τ2 = gw_u σ 163 v3.toNatClampNeg (σ.1 153 v3.toNatClampNeg) → (∃ Φ3 : Int32 → gw_S → Prop, gw_M (xl x) G yX3_gain cX3_gain 4 (some .int) 1 [.ref (G.1 + 154), .int v3] τ2 (fi Φ3) ∧ ∀ (r5 : Int32) (τ4 : gw_S), Φ3 r5 τ4 → (∀ τ6 : gw_S, τ6 = gw_u τ4 164 v3.toNatClampNeg r5 → (PW x G 5 60 [(0, .ref (G.1 + 151)), (1, .ref (G.1 + b1)), (2, .int v2), (3, .int (v3 + 1))] [] τ6)))))) : PW x G 5 60 [(0, .ref (G.1 + 151)), (1, .ref (G.1 + b1)), (2, .int v2), (3, .int v3)] [] σ := by
  refine pw_iload_n C dX0_follow_60 rfl 3 rfl ?_
  refine pw_aload_n C dX0_follow_61 rfl 0 rfl ?_
  refine pw_getr C dX0_follow_62 gf_RX0_21 gk_151.1 gk_151.2 rfl ?_
  refine pw_getiN C dX0_follow_65 gf_RX0_60 gk_154.1 gk_154.2 rfl ?_
  refine pw_icmp_ge (tgt := 106) C dX0_follow_68 (by decide) (fun q => ?_) (fun q => ?_)
  · replace h := h.1 q
    refine pw_iconst (v := 0) C dX0_follow_106 (by decide) ?_
    refine pw_istore_n C dX0_follow_107 rfl (by decide) rfl ?_
    exact pw_sub [1, 2, 3, 0] rfl h
  · replace h := h.2 q
    refine pw_aload_n C dX0_follow_71 rfl 0 rfl ?_
    refine pw_getr C dX0_follow_72 gf_RX0_25 gk_151.1 gk_151.2 rfl ?_
    refine pw_iload_n C dX0_follow_75 rfl 3 rfl ?_
    refine pw_aload_n C dX0_follow_76 rfl 0 rfl ?_
    refine pw_getr C dX0_follow_77 gf_RX0_12 gk_151.1 gk_151.2 rfl ?_
    refine pw_getrN C dX0_follow_80 gf_RX0_63 gk_152.1 gk_152.2 rfl ?_
    refine pw_iload_n C dX0_follow_83 rfl 3 rfl ?_
    obtain ⟨g1, h⟩ := h
    refine pw_iald C dX0_follow_84 gk_153.1 gk_153.2 g1 ?_
    refine pw_iast C dX0_follow_85 gk_163.1 gk_163.2 g1 ?_
    generalize hτ2 : gw_u σ 163 v3.toNatClampNeg (σ.1 153 v3.toNatClampNeg) = τ2
    replace h := h τ2 hτ2.symm
    show PW x G 5 86 [(0, .ref (G.1 + 151)), (1, .ref (G.1 + b1)), (2, .int v2), (3, .int v3)] [] τ2
    refine pw_aload_n C dX0_follow_86 rfl 0 rfl ?_
    refine pw_getr C dX0_follow_87 gf_RX0_29 gk_151.1 gk_151.2 rfl ?_
    refine pw_iload_n C dX0_follow_90 rfl 3 rfl ?_
    refine pw_aload_n C dX0_follow_91 rfl 0 rfl ?_
    refine pw_getr C dX0_follow_92 gf_RX0_21 gk_151.1 gk_151.2 rfl ?_
    refine pw_iload_n C dX0_follow_95 rfl 3 rfl ?_
    obtain ⟨Φ3, hM, h⟩ := h
    refine pw_callV C dX0_follow_96 hM gm_X3_gain gl_RX0_66 rfl hR (by decide) (by decide) (by decide) rfl gk_154.1 gk_154.2 rfl (Nat.le_of_ble_eq_true rfl) ?_
    rintro _ τ4 ⟨r5, rfl, hv⟩
    replace h := h r5 τ4 hv
    show PW x G 5 99 [(0, .ref (G.1 + 151)), (1, .ref (G.1 + b1)), (2, .int v2), (3, .int v3)] [.int r5, .int v3, .ref (G.1 + 164)] τ4
    refine pw_iast C dX0_follow_99 gk_164.1 gk_164.2 g1 ?_
    generalize hτ6 : gw_u τ4 164 v3.toNatClampNeg r5 = τ6
    replace h := h τ6 hτ6.symm
    show PW x G 5 100 [(0, .ref (G.1 + 151)), (1, .ref (G.1 + b1)), (2, .int v2), (3, .int v3)] [] τ6
    refine pw_iinc (v := (v3 + 1)) (j := 3) C dX0_follow_100 rfl rfl (by decide) rfl ?_
    refine pw_goto (tgt := 60) C dX0_follow_103 (by decide) ?_
    exact pw_sub [1, 2, 3, 0] rfl h
set_option maxRecDepth 4000 in
theorem sg_X0_follow_108 {x : gw_X} {G : gw_G} {Φ : gw_S → Prop} (C : XC x G RX0 cX0_follow 5 none) (hR : gw_ok x 3) (hT : RT x G (fv Φ)) (b1 : Nat) (hb1 : gw_plan b1) (v2 : Int32) (v3 : Int32) (σ : gw_S)
    (h : ((σ.1 154 4) ≤ v3 → ∃ Φ1 : Int32 → gw_S → Prop, gw_M (xl x) G yX0_choose cX0_choose 6 (some .int) 2 [.ref (G.1 + 151), .int v2] σ (fi Φ1) ∧ ∀ (r3 : Int32) (τ2 : gw_S), Φ1 r3 τ2 → (PW x G 5 149 [(0, .ref (G.1 + 151)), (1, .ref (G.1 + b1)), (2, .int v2), (3, .int r3), (4, .int 0)] [] τ2)) ∧ (¬ ((σ.1 154 4) ≤ v3) → vp_in v3 14 ∧ (∀ τ5 : gw_S, τ5 = gw_u σ 166 v3.toNatClampNeg (σ.1 162 v3.toNatClampNeg) → (PW x G 5 108 [(0, .ref (G.1 + 151)), (1, .ref (G.1 + b1)), (2, .int v2), (3, .int (v3 + 1))] [] τ5)))) : PW x G 5 108 [(0, .ref (G.1 + 151)), (1, .ref (G.1 + b1)), (2, .int v2), (3, .int v3)] [] σ := by
  refine pw_iload_n C dX0_follow_108 rfl 3 rfl ?_
  refine pw_aload_n C dX0_follow_109 rfl 0 rfl ?_
  refine pw_getr C dX0_follow_110 gf_RX0_21 gk_151.1 gk_151.2 rfl ?_
  refine pw_getiN C dX0_follow_113 gf_RX0_70 gk_154.1 gk_154.2 rfl ?_
  refine pw_icmp_ge (tgt := 140) C dX0_follow_116 (by decide) (fun q => ?_) (fun q => ?_)
  · replace h := h.1 q
    refine pw_aload_n C dX0_follow_140 rfl 0 rfl ?_
    refine pw_iload_n C dX0_follow_141 rfl 2 rfl ?_
    obtain ⟨Φ1, hM, h⟩ := h
    refine pw_callV C dX0_follow_142 hM gm_X0_choose gl_RX0_76 rfl hR (by decide) (by decide) (by decide) rfl gk_151.1 gk_151.2 rfl (Nat.le_of_ble_eq_true rfl) ?_
    rintro _ τ2 ⟨r3, rfl, hv⟩
    replace h := h r3 τ2 hv
    show PW x G 5 145 [(0, .ref (G.1 + 151)), (1, .ref (G.1 + b1)), (2, .int v2), (3, .int v3)] [.int r3] τ2
    refine pw_istore_n C dX0_follow_145 rfl (by decide) rfl ?_
    refine pw_iconst (v := 0) C dX0_follow_146 (by decide) ?_
    refine pw_istore C dX0_follow_147 (by decide) rfl ?_
    exact pw_sub [2, 3, 4, 1, 0] rfl h
  · replace h := h.2 q
    refine pw_aload_n C dX0_follow_119 rfl 0 rfl ?_
    refine pw_getr C dX0_follow_120 gf_RX0_35 gk_151.1 gk_151.2 rfl ?_
    refine pw_iload_n C dX0_follow_123 rfl 3 rfl ?_
    refine pw_aload_n C dX0_follow_124 rfl 0 rfl ?_
    refine pw_getr C dX0_follow_125 gf_RX0_21 gk_151.1 gk_151.2 rfl ?_
    refine pw_getrN C dX0_follow_128 gf_RX0_73 gk_154.1 gk_154.2 rfl ?_
    refine pw_iload_n C dX0_follow_131 rfl 3 rfl ?_
    obtain ⟨g4, h⟩ := h
    refine pw_iald C dX0_follow_132 gk_162.1 gk_162.2 g4 ?_
    refine pw_iast C dX0_follow_133 gk_166.1 gk_166.2 g4 ?_
    generalize hτ5 : gw_u σ 166 v3.toNatClampNeg (σ.1 162 v3.toNatClampNeg) = τ5
    replace h := h τ5 hτ5.symm
    show PW x G 5 134 [(0, .ref (G.1 + 151)), (1, .ref (G.1 + b1)), (2, .int v2), (3, .int v3)] [] τ5
    refine pw_iinc (v := (v3 + 1)) (j := 3) C dX0_follow_134 rfl rfl (by decide) rfl ?_
    refine pw_goto (tgt := 108) C dX0_follow_137 (by decide) ?_
    exact pw_sub [1, 2, 3, 0] rfl h
set_option maxRecDepth 4000 in
theorem sg_X0_follow_149 {x : gw_X} {G : gw_G} {Φ : gw_S → Prop} (C : XC x G RX0 cX0_follow 5 none) (hR : gw_ok x 3) (hT : RT x G (fv Φ)) (b1 : Nat) (hb1 : gw_plan b1) (v2 : Int32) (v3 : Int32) (v4 : Int32) (σ : gw_S)
    (h : ((σ.1 151 7) ≤ v4 → Φ σ) ∧ (¬ ((σ.1 151 7) ≤ v4) → (v3 = (-1) → Φ σ) ∧ (¬ (v3 = (-1)) → ∃ Φ1 : gw_S → Prop, gw_M (xl x) G yX0_take cX0_take 3 none 2 [.ref (G.1 + 151), .int v3] σ (fv Φ1) ∧ ∀ (τ2 : gw_S), Φ1 τ2 → (∃ Φ3 : Int32 → gw_S → Prop, gw_M (xl x) G yX0_choose cX0_choose 6 (some .int) 2 [.ref (G.1 + 151), .int v2] τ2 (fi Φ3) ∧ ∀ (r5 : Int32) (τ4 : gw_S), Φ3 r5 τ4 → (PW x G 5 149 [(0, .ref (G.1 + 151)), (1, .ref (G.1 + b1)), (2, .int v2), (3, .int r5), (4, .int (v4 + 1))] [] τ4))))) : PW x G 5 149 [(0, .ref (G.1 + 151)), (1, .ref (G.1 + b1)), (2, .int v2), (3, .int v3), (4, .int v4)] [] σ := by
  refine pw_iload C dX0_follow_149 4 rfl ?_
  refine pw_aload_n C dX0_follow_151 rfl 0 rfl ?_
  refine pw_geti C dX0_follow_152 gf_RX0_54 gk_151.1 gk_151.2 rfl ?_
  refine pw_icmp_ge (tgt := 180) C dX0_follow_155 (by decide) (fun q => ?_) (fun q => ?_)
  · replace h := h.1 q
    exact pw_vret C hT dX0_follow_180 h
  · replace h := h.2 q
    refine pw_iload_n C dX0_follow_158 rfl 3 rfl ?_
    refine pw_iconst (v := (-1)) C dX0_follow_159 (by decide) ?_
    refine pw_icmp_eq (tgt := 180) C dX0_follow_160 (by decide) (fun q => ?_) (fun q => ?_)
    · replace h := h.1 q
      exact pw_vret C hT dX0_follow_180 h
    · replace h := h.2 q
      refine pw_aload_n C dX0_follow_163 rfl 0 rfl ?_
      refine pw_iload_n C dX0_follow_164 rfl 3 rfl ?_
      obtain ⟨Φ1, hM, h⟩ := h
      refine pw_callV C dX0_follow_165 hM gm_X0_take gl_RX0_79 rfl hR (by decide) (by decide) (by decide) rfl gk_151.1 gk_151.2 rfl (Nat.le_of_ble_eq_true rfl) ?_
      rintro _ τ2 ⟨rfl, hv⟩
      replace h := h τ2 hv
      show PW x G 5 168 [(0, .ref (G.1 + 151)), (1, .ref (G.1 + b1)), (2, .int v2), (3, .int v3), (4, .int v4)] [] τ2
      refine pw_aload_n C dX0_follow_168 rfl 0 rfl ?_
      refine pw_iload_n C dX0_follow_169 rfl 2 rfl ?_
      obtain ⟨Φ3, hM, h⟩ := h
      refine pw_callV C dX0_follow_170 hM gm_X0_choose gl_RX0_76 rfl hR (by decide) (by decide) (by decide) rfl gk_151.1 gk_151.2 rfl (Nat.le_of_ble_eq_true rfl) ?_
      rintro _ τ4 ⟨r5, rfl, hv⟩
      replace h := h r5 τ4 hv
      show PW x G 5 173 [(0, .ref (G.1 + 151)), (1, .ref (G.1 + b1)), (2, .int v2), (3, .int v3), (4, .int v4)] [.int r5] τ4
      refine pw_istore_n C dX0_follow_173 rfl (by decide) rfl ?_
      refine pw_iinc (v := (v4 + 1)) (j := 4) C dX0_follow_174 rfl rfl (by decide) rfl ?_
      refine pw_goto (tgt := 149) C dX0_follow_177 (by decide) ?_
      exact pw_sub [2, 3, 4, 1, 0] rfl h
set_option maxRecDepth 4000 in
theorem sg_X0_step_0 {x : gw_X} {G : gw_G} {Φ : Int32 → gw_S → Prop} (C : XC x G RX0 cX0_step 2 (some .int)) (hR : gw_ok x 0) (hT : RT x G (fi Φ)) (v1 : Int32) (σ : gw_S)
    (h : ((v1 < 0 → True) ∧ (¬ (v1 < 0) → (((σ.1 151 8) ≤ v1 → True) ∧ (¬ ((σ.1 151 8) ≤ v1) → ((v1 < 480 → vp_in v1 480 ∧ (True)) ∧ (¬ (v1 < 480) → True)))))) ∧ (Φ (if v1 < 0 then (-1) else (if (σ.1 151 8) ≤ v1 then (-1) else (if v1 < 480 then σ.1 165 v1.toNatClampNeg else (-1) : Int32) : Int32) : Int32) σ)) : PW x G 2 0 [(0, .ref (G.1 + 151)), (1, .int v1)] [] σ := by
  refine pw_iload_n C dX0_step_0 rfl 1 rfl ?_
  obtain ⟨hs, h⟩ := h
  have hJ : ∀ w0 : Int32, (if v1 < 0 then (-1) else (if (σ.1 151 8) ≤ v1 then (-1) else (if v1 < 480 then σ.1 165 v1.toNatClampNeg else (-1) : Int32) : Int32) : Int32) = w0 → PW x G 2 31 [(0, .ref (G.1 + 151)), (1, .int v1)] [.int w0] σ := by
    rintro _ rfl
    exact pw_iret C hT dX0_step_31 h
  clear h
  refine pw_if_lt (tgt := 21) C dX0_step_1 (by decide) (fun q1 => ?_) (fun q1 => ?_)
  · replace hs := hs.1 q1
    refine pw_iconst (v := (-1)) C dX0_step_21 (by decide) ?_
    refine pw_goto (tgt := 31) C dX0_step_22 (by decide) ?_
    exact hJ (-1) (if_pos q1)
  · replace hs := hs.2 q1
    refine pw_iload_n C dX0_step_4 rfl 1 rfl ?_
    refine pw_aload_n C dX0_step_5 rfl 0 rfl ?_
    refine pw_geti C dX0_step_6 gf_RX0_57 gk_151.1 gk_151.2 rfl ?_
    refine pw_icmp_ge (tgt := 21) C dX0_step_9 (by decide) (fun q2 => ?_) (fun q2 => ?_)
    · replace hs := hs.1 q2
      refine pw_iconst (v := (-1)) C dX0_step_21 (by decide) ?_
      refine pw_goto (tgt := 31) C dX0_step_22 (by decide) ?_
      exact hJ (-1) ((if_neg q1).trans (if_pos q2))
    · replace hs := hs.2 q2
      refine pw_iload_n C dX0_step_12 rfl 1 rfl ?_
      refine pw_aload_n C dX0_step_13 rfl 0 rfl ?_
      refine pw_getr C dX0_step_14 gf_RX0_32 gk_151.1 gk_151.2 rfl ?_
      refine pw_alen (v := 480) C dX0_step_17 gk_165.1 gk_165.2 (by decide) ?_
      refine pw_icmp_lt (tgt := 25) C dX0_step_18 (by decide) (fun q3 => ?_) (fun q3 => ?_)
      · replace hs := hs.1 q3
        refine pw_aload_n C dX0_step_25 rfl 0 rfl ?_
        refine pw_getr C dX0_step_26 gf_RX0_32 gk_151.1 gk_151.2 rfl ?_
        refine pw_iload_n C dX0_step_29 rfl 1 rfl ?_
        obtain ⟨g1, hs⟩ := hs
        refine pw_iald C dX0_step_30 gk_165.1 gk_165.2 g1 ?_
        exact hJ (σ.1 165 v1.toNatClampNeg) ((if_neg q1).trans ((if_neg q2).trans (if_pos q3)))
      · replace hs := hs.2 q3
        refine pw_iconst (v := (-1)) C dX0_step_21 (by decide) ?_
        refine pw_goto (tgt := 31) C dX0_step_22 (by decide) ?_
        exact hJ (-1) ((if_neg q1).trans ((if_neg q2).trans (if_neg q3)))
set_option maxRecDepth 4000 in
theorem sg_X0_allMost_0 {x : gw_X} {G : gw_G} {Φ : Int32 → gw_S → Prop} (C : XC x G RX0 cX0_allMost 3 (some .int)) (hR : gw_ok x 0) (hT : RT x G (fi Φ))  (σ : gw_S)
    (h : PW x G 3 4 [(0, .ref (G.1 + 151)), (1, .int 0), (2, .int 0)] [] σ) : PW x G 3 0 [(0, .ref (G.1 + 151))] [] σ := by
  refine pw_iconst (v := 0) C dX0_allMost_0 (by decide) ?_
  refine pw_istore_n C dX0_allMost_1 rfl (by decide) rfl ?_
  refine pw_iconst (v := 0) C dX0_allMost_2 (by decide) ?_
  refine pw_istore_n C dX0_allMost_3 rfl (by decide) rfl ?_
  exact pw_sub [2, 1, 0] rfl h
set_option maxRecDepth 4000 in
theorem sg_X0_allMost_4 {x : gw_X} {G : gw_G} {Φ : Int32 → gw_S → Prop} (C : XC x G RX0 cX0_allMost 3 (some .int)) (hR : gw_ok x 0) (hT : RT x G (fi Φ)) (v1 : Int32) (v2 : Int32) (σ : gw_S)
    (h : ((σ.1 154 4) ≤ v2 → Φ v1 σ) ∧ (¬ ((σ.1 154 4) ≤ v2) → vp_in v2 14 ∧ (PW x G 3 4 [(0, .ref (G.1 + 151)), (1, .int (v1 + (σ.1 166 v2.toNatClampNeg))), (2, .int (v2 + 1))] [] σ))) : PW x G 3 4 [(0, .ref (G.1 + 151)), (1, .int v1), (2, .int v2)] [] σ := by
  refine pw_iload_n C dX0_allMost_4 rfl 2 rfl ?_
  refine pw_aload_n C dX0_allMost_5 rfl 0 rfl ?_
  refine pw_getr C dX0_allMost_6 gf_RX0_21 gk_151.1 gk_151.2 rfl ?_
  refine pw_getiN C dX0_allMost_9 gf_RX0_70 gk_154.1 gk_154.2 rfl ?_
  refine pw_icmp_ge (tgt := 30) C dX0_allMost_12 (by decide) (fun q => ?_) (fun q => ?_)
  · replace h := h.1 q
    refine pw_iload_n C dX0_allMost_30 rfl 1 rfl ?_
    exact pw_iret C hT dX0_allMost_31 h
  · replace h := h.2 q
    refine pw_iload_n C dX0_allMost_15 rfl 1 rfl ?_
    refine pw_aload_n C dX0_allMost_16 rfl 0 rfl ?_
    refine pw_getr C dX0_allMost_17 gf_RX0_35 gk_151.1 gk_151.2 rfl ?_
    refine pw_iload_n C dX0_allMost_20 rfl 2 rfl ?_
    obtain ⟨g1, h⟩ := h
    refine pw_iald C dX0_allMost_21 gk_166.1 gk_166.2 g1 ?_
    refine pw_iadd C dX0_allMost_22 ?_
    refine pw_istore_n C dX0_allMost_23 rfl (by decide) rfl ?_
    refine pw_iinc (v := (v2 + 1)) (j := 2) C dX0_allMost_24 rfl rfl (by decide) rfl ?_
    refine pw_goto (tgt := 4) C dX0_allMost_27 (by decide) ?_
    exact pw_sub [2, 1, 0] rfl h
set_option maxRecDepth 4000 in
theorem sg_X0_takeOver_0 {x : gw_X} {G : gw_G} {Φ : Int32 → gw_S → Prop} (C : XC x G RX0 cX0_takeOver 2 (some .int)) (hR : gw_ok x 2) (hT : RT x G (fi Φ)) (b1 : Nat) (hb1 : gw_plan b1) (σ : gw_S)
    (h : ∃ Φ1 : gw_S → Prop, gw_M (xl x) G yX3_become cX3_become 2 none 1 [.ref (G.1 + b1), .ref (G.1 + 154)] σ (fv Φ1) ∧ ∀ (τ2 : gw_S), Φ1 τ2 → (Φ (τ2.1 151 8) τ2)) : PW x G 2 0 [(0, .ref (G.1 + 151)), (1, .ref (G.1 + b1))] [] σ := by
  refine pw_aload_n C dX0_takeOver_0 rfl 1 rfl ?_
  refine pw_aload_n C dX0_takeOver_1 rfl 0 rfl ?_
  refine pw_getr C dX0_takeOver_2 gf_RX0_21 gk_151.1 gk_151.2 rfl ?_
  obtain ⟨Φ1, hM, h⟩ := h
  refine pw_callV C dX0_takeOver_5 hM gm_X3_become gl_RX0_38 rfl hR (by decide) (by decide) (by decide) rfl (gw_p0 hb1) hb1.2.1 rfl (Nat.le_of_ble_eq_true rfl) ?_
  rintro _ τ2 ⟨rfl, hv⟩
  replace h := h τ2 hv
  show PW x G 2 8 [(0, .ref (G.1 + 151)), (1, .ref (G.1 + b1))] [] τ2
  refine pw_aload_n C dX0_takeOver_8 rfl 0 rfl ?_
  refine pw_geti C dX0_takeOver_9 gf_RX0_57 gk_151.1 gk_151.2 rfl ?_
  exact pw_iret C hT dX0_takeOver_12 h
set_option maxRecDepth 4000 in
theorem sg_X0_tries_0 {x : gw_X} {G : gw_G} {Φ : Bool → gw_S → Prop} (C : XC x G RX0 cX0_tries 3 (some .boolean)) (hR : gw_ok x 4) (hT : RT x G (fz Φ)) (b1 : Nat) (v2 : Int32) (hb1 : gw_plan b1) (σ : gw_S)
    (h : ((if v2 < 0 then 2 else (if v2 ≤ 2 then 0 else 2 : Nat) : Nat) = 0 → ∃ Φ1 : gw_S → Prop, gw_M (xl x) G yX0_follow cX0_follow 5 none 3 [.ref (G.1 + 151), .ref (G.1 + b1), .int v2] σ (fv Φ1) ∧ ∀ (τ2 : gw_S), Φ1 τ2 → (((if (τ2.1 151 6) = 0 then false else (if (τ2.1 151 8) = (τ2.1 151 7) then true else false : Bool) : Bool) = false → Φ (if (τ2.1 151 6) = 0 then false else (if (τ2.1 151 8) = (τ2.1 151 7) then true else false : Bool) : Bool) τ2) ∧ (¬ ((if (τ2.1 151 6) = 0 then false else (if (τ2.1 151 8) = (τ2.1 151 7) then true else false : Bool) : Bool) = false) → ∃ Φ3 : Int32 → gw_S → Prop, gw_M (xl x) G yX0_takeOver cX0_takeOver 2 (some .int) 2 [.ref (G.1 + 151), .ref (G.1 + b1)] τ2 (fi Φ3) ∧ ∀ (r5 : Int32) (τ4 : gw_S), Φ3 r5 τ4 → (Φ (if (τ4.1 151 6) = 0 then false else (if (τ4.1 151 8) = (τ4.1 151 7) then true else false : Bool) : Bool) τ4)))) ∧ (¬ ((if v2 < 0 then 2 else (if v2 ≤ 2 then 0 else 2 : Nat) : Nat) = 0) → Φ false σ)) : PW x G 3 0 [(0, .ref (G.1 + 151)), (1, .ref (G.1 + b1)), (2, .int v2)] [] σ := by
  refine pw_iload_n C dX0_tries_0 rfl 2 rfl ?_
  refine pw_callSN C dX0_tries_1 (k_X7_ruleFault v2 σ ) gm_X7_ruleFault gn_RX0_83 rfl hR (by decide) (by decide) rfl (Nat.le_of_ble_eq_true rfl) ?_
  rintro _ _ ⟨_, -, rfl, rfl, rfl⟩
  show PW x G 3 4 [(0, .ref (G.1 + 151)), (1, .ref (G.1 + b1)), (2, .int v2)] [.ref (G.2.2.2 (if v2 < 0 then 2 else (if v2 ≤ 2 then 0 else 2 : Nat) : Nat))] σ
  refine pw_gets (i := 0) C dX0_tries_4 (by decide) gl_RX0_87 ?_
  refine pw_acmp_eq (tgt := 12) C dX0_tries_7 (by decide) (by repeat' first | decide | split) (by decide) (fun q => ?_) (fun q => ?_)
  · replace h := h.1 q
    refine pw_aload_n C dX0_tries_12 rfl 0 rfl ?_
    refine pw_aload_n C dX0_tries_13 rfl 1 rfl ?_
    refine pw_iload_n C dX0_tries_14 rfl 2 rfl ?_
    obtain ⟨Φ1, hM, h⟩ := h
    refine pw_callV C dX0_tries_15 hM gm_X0_follow gl_RX0_93 rfl hR (by decide) (by decide) (by decide) rfl gk_151.1 gk_151.2 rfl (Nat.le_of_ble_eq_true rfl) ?_
    rintro _ τ2 ⟨rfl, hv⟩
    replace h := h τ2 hv
    show PW x G 3 18 [(0, .ref (G.1 + 151)), (1, .ref (G.1 + b1)), (2, .int v2)] [] τ2
    refine pw_aload_n C dX0_tries_18 rfl 0 rfl ?_
    refine pw_callV C dX0_tries_19 (k_X0_isComplete  τ2 ) gm_X0_isComplete gl_RX0_97 rfl hR (by decide) (by decide) (by decide) rfl gk_151.1 gk_151.2 rfl (Nat.le_of_ble_eq_true rfl) ?_
    rintro _ _ ⟨_, rfl, rfl, rfl⟩
    show PW x G 3 22 [(0, .ref (G.1 + 151)), (1, .ref (G.1 + b1)), (2, .int v2)] [.int (gz (if (τ2.1 151 6) = 0 then false else (if (τ2.1 151 8) = (τ2.1 151 7) then true else false : Bool) : Bool))] τ2
    refine pw_z_eq (tgt := 31) C dX0_tries_22 (by decide) (fun q => ?_) (fun q => ?_)
    · replace h := h.1 q
      refine pw_aload_n C dX0_tries_31 rfl 0 rfl ?_
      refine pw_callV C dX0_tries_32 (k_X0_isComplete  τ2 ) gm_X0_isComplete gl_RX0_97 rfl hR (by decide) (by decide) (by decide) rfl gk_151.1 gk_151.2 rfl (Nat.le_of_ble_eq_true rfl) ?_
      rintro _ _ ⟨_, rfl, rfl, rfl⟩
      show PW x G 3 35 [(0, .ref (G.1 + 151)), (1, .ref (G.1 + b1)), (2, .int v2)] [.int (gz (if (τ2.1 151 6) = 0 then false else (if (τ2.1 151 8) = (τ2.1 151 7) then true else false : Bool) : Bool))] τ2
      exact pw_zret (b := (if (τ2.1 151 6) = 0 then false else (if (τ2.1 151 8) = (τ2.1 151 7) then true else false : Bool) : Bool)) C hT dX0_tries_35 h
    · replace h := h.2 q
      refine pw_aload_n C dX0_tries_25 rfl 0 rfl ?_
      refine pw_aload_n C dX0_tries_26 rfl 1 rfl ?_
      obtain ⟨Φ3, hM, h⟩ := h
      refine pw_callV C dX0_tries_27 hM gm_X0_takeOver gl_RX0_101 rfl hR (by decide) (by decide) (by decide) rfl gk_151.1 gk_151.2 rfl (Nat.le_of_ble_eq_true rfl) ?_
      rintro _ τ4 ⟨r5, rfl, hv⟩
      replace h := h r5 τ4 hv
      show PW x G 3 30 [(0, .ref (G.1 + 151)), (1, .ref (G.1 + b1)), (2, .int v2)] [.int r5] τ4
      refine pw_pop C dX0_tries_30 rfl ?_
      refine pw_aload_n C dX0_tries_31 rfl 0 rfl ?_
      refine pw_callV C dX0_tries_32 (k_X0_isComplete  τ4 ) gm_X0_isComplete gl_RX0_97 rfl hR (by decide) (by decide) (by decide) rfl gk_151.1 gk_151.2 rfl (Nat.le_of_ble_eq_true rfl) ?_
      rintro _ _ ⟨_, rfl, rfl, rfl⟩
      show PW x G 3 35 [(0, .ref (G.1 + 151)), (1, .ref (G.1 + b1)), (2, .int v2)] [.int (gz (if (τ4.1 151 6) = 0 then false else (if (τ4.1 151 8) = (τ4.1 151 7) then true else false : Bool) : Bool))] τ4
      exact pw_zret (b := (if (τ4.1 151 6) = 0 then false else (if (τ4.1 151 8) = (τ4.1 151 7) then true else false : Bool) : Bool)) C hT dX0_tries_35 h
  · replace h := h.2 q
    refine pw_iconst (v := 0) C dX0_tries_10 (by decide) ?_
    exact pw_zret (b := false) C hT dX0_tries_11 h
set_option maxRecDepth 4000 in
theorem sg_X0_take_0 {x : gw_X} {G : gw_G} {Φ : gw_S → Prop} (C : XC x G RX0 cX0_take 3 none) (hR : gw_ok x 2) (hT : RT x G (fv Φ)) (v1 : Int32) (σ : gw_S)
    (h : (480 ≤ (σ.1 151 8) → vp_in v1 8 ∧ (∀ τ2 : gw_S, τ2 = gw_u σ 163 v1.toNatClampNeg ((σ.1 163 v1.toNatClampNeg) - 1) → (∃ Φ3 : gw_S → Prop, gw_M (xl x) G yX3_doWork cX3_doWork 3 none 1 [.ref (G.1 + 154), .int v1] τ2 (fv Φ3) ∧ ∀ (τ4 : gw_S), Φ3 τ4 → (PW x G 3 52 [(0, .ref (G.1 + 151)), (1, .int v1), (2, .int 0)] [] τ4)))) ∧ (¬ (480 ≤ (σ.1 151 8)) → vp_in (σ.1 151 8) 480 ∧ (∀ τ6 : gw_S, τ6 = gw_u σ 165 ((σ.1 151 8).toNatClampNeg) v1 → (∀ τ7 : gw_S, τ7 = gw_u τ6 151 8 ((τ6.1 151 8) + 1) → (vp_in v1 8 ∧ (∀ τ9 : gw_S, τ9 = gw_u τ7 163 v1.toNatClampNeg ((τ7.1 163 v1.toNatClampNeg) - 1) → (∃ Φ10 : gw_S → Prop, gw_M (xl x) G yX3_doWork cX3_doWork 3 none 1 [.ref (G.1 + 154), .int v1] τ9 (fv Φ10) ∧ ∀ (τ11 : gw_S), Φ10 τ11 → (PW x G 3 52 [(0, .ref (G.1 + 151)), (1, .int v1), (2, .int 0)] [] τ11)))))))) : PW x G 3 0 [(0, .ref (G.1 + 151)), (1, .int v1)] [] σ := by
  refine pw_aload_n C dX0_take_0 rfl 0 rfl ?_
  refine pw_geti C dX0_take_1 gf_RX0_57 gk_151.1 gk_151.2 rfl ?_
  refine pw_aload_n C dX0_take_4 rfl 0 rfl ?_
  refine pw_getr C dX0_take_5 gf_RX0_32 gk_151.1 gk_151.2 rfl ?_
  refine pw_alen (v := 480) C dX0_take_8 gk_165.1 gk_165.2 (by decide) ?_
  refine pw_icmp_ge (tgt := 32) C dX0_take_9 (by decide) (fun q => ?_) (fun q => ?_)
  · replace h := h.1 q
    refine pw_aload_n C dX0_take_32 rfl 0 rfl ?_
    refine pw_getr C dX0_take_33 gf_RX0_25 gk_151.1 gk_151.2 rfl ?_
    refine pw_iload_n C dX0_take_36 rfl 1 rfl ?_
    refine pw_dup2 C dX0_take_37 rfl rfl ?_
    obtain ⟨g1, h⟩ := h
    refine pw_iald C dX0_take_38 gk_163.1 gk_163.2 g1 ?_
    refine pw_iconst (v := 1) C dX0_take_39 (by decide) ?_
    refine pw_isub C dX0_take_40 ?_
    refine pw_iast C dX0_take_41 gk_163.1 gk_163.2 g1 ?_
    generalize hτ2 : gw_u σ 163 v1.toNatClampNeg ((σ.1 163 v1.toNatClampNeg) - 1) = τ2
    replace h := h τ2 hτ2.symm
    show PW x G 3 42 [(0, .ref (G.1 + 151)), (1, .int v1)] [] τ2
    refine pw_aload_n C dX0_take_42 rfl 0 rfl ?_
    refine pw_getr C dX0_take_43 gf_RX0_21 gk_151.1 gk_151.2 rfl ?_
    refine pw_iload_n C dX0_take_46 rfl 1 rfl ?_
    obtain ⟨Φ3, hM, h⟩ := h
    refine pw_callV C dX0_take_47 hM gm_X3_doWork gl_RX0_105 rfl hR (by decide) (by decide) (by decide) rfl gk_154.1 gk_154.2 rfl (Nat.le_of_ble_eq_true rfl) ?_
    rintro _ τ4 ⟨rfl, hv⟩
    replace h := h τ4 hv
    show PW x G 3 50 [(0, .ref (G.1 + 151)), (1, .int v1)] [] τ4
    refine pw_iconst (v := 0) C dX0_take_50 (by decide) ?_
    refine pw_istore_n C dX0_take_51 rfl (by decide) rfl ?_
    exact pw_sub [1, 2, 0] rfl h
  · replace h := h.2 q
    refine pw_aload_n C dX0_take_12 rfl 0 rfl ?_
    refine pw_getr C dX0_take_13 gf_RX0_32 gk_151.1 gk_151.2 rfl ?_
    refine pw_aload_n C dX0_take_16 rfl 0 rfl ?_
    refine pw_geti C dX0_take_17 gf_RX0_57 gk_151.1 gk_151.2 rfl ?_
    refine pw_iload_n C dX0_take_20 rfl 1 rfl ?_
    obtain ⟨g5, h⟩ := h
    refine pw_iast C dX0_take_21 gk_165.1 gk_165.2 g5 ?_
    generalize hτ6 : gw_u σ 165 ((σ.1 151 8).toNatClampNeg) v1 = τ6
    replace h := h τ6 hτ6.symm
    show PW x G 3 22 [(0, .ref (G.1 + 151)), (1, .int v1)] [] τ6
    refine pw_aload_n C dX0_take_22 rfl 0 rfl ?_
    refine pw_dup C dX0_take_23 rfl ?_
    refine pw_geti C dX0_take_24 gf_RX0_57 gk_151.1 gk_151.2 rfl ?_
    refine pw_iconst (v := 1) C dX0_take_27 (by decide) ?_
    refine pw_iadd C dX0_take_28 ?_
    refine pw_puti C dX0_take_29 gf_RX0_57 rfl rfl rfl gk_151.1 gk_151.2 rfl ?_
    generalize hτ7 : gw_u τ6 151 8 ((τ6.1 151 8) + 1) = τ7
    replace h := h τ7 hτ7.symm
    show PW x G 3 32 [(0, .ref (G.1 + 151)), (1, .int v1)] [] τ7
    refine pw_aload_n C dX0_take_32 rfl 0 rfl ?_
    refine pw_getr C dX0_take_33 gf_RX0_25 gk_151.1 gk_151.2 rfl ?_
    refine pw_iload_n C dX0_take_36 rfl 1 rfl ?_
    refine pw_dup2 C dX0_take_37 rfl rfl ?_
    obtain ⟨g8, h⟩ := h
    refine pw_iald C dX0_take_38 gk_163.1 gk_163.2 g8 ?_
    refine pw_iconst (v := 1) C dX0_take_39 (by decide) ?_
    refine pw_isub C dX0_take_40 ?_
    refine pw_iast C dX0_take_41 gk_163.1 gk_163.2 g8 ?_
    generalize hτ9 : gw_u τ7 163 v1.toNatClampNeg ((τ7.1 163 v1.toNatClampNeg) - 1) = τ9
    replace h := h τ9 hτ9.symm
    show PW x G 3 42 [(0, .ref (G.1 + 151)), (1, .int v1)] [] τ9
    refine pw_aload_n C dX0_take_42 rfl 0 rfl ?_
    refine pw_getr C dX0_take_43 gf_RX0_21 gk_151.1 gk_151.2 rfl ?_
    refine pw_iload_n C dX0_take_46 rfl 1 rfl ?_
    obtain ⟨Φ10, hM, h⟩ := h
    refine pw_callV C dX0_take_47 hM gm_X3_doWork gl_RX0_105 rfl hR (by decide) (by decide) (by decide) rfl gk_154.1 gk_154.2 rfl (Nat.le_of_ble_eq_true rfl) ?_
    rintro _ τ11 ⟨rfl, hv⟩
    replace h := h τ11 hv
    show PW x G 3 50 [(0, .ref (G.1 + 151)), (1, .int v1)] [] τ11
    refine pw_iconst (v := 0) C dX0_take_50 (by decide) ?_
    refine pw_istore_n C dX0_take_51 rfl (by decide) rfl ?_
    exact pw_sub [1, 2, 0] rfl h
set_option maxRecDepth 4000 in
theorem sg_X0_take_52 {x : gw_X} {G : gw_G} {Φ : gw_S → Prop} (C : XC x G RX0 cX0_take 3 none) (hR : gw_ok x 2) (hT : RT x G (fv Φ)) (v1 : Int32) (v2 : Int32) (σ : gw_S)
    (h : ((σ.1 154 4) ≤ v2 → Φ σ) ∧ (¬ ((σ.1 154 4) ≤ v2) → vp_in v2 14 ∧ (∀ τ2 : gw_S, τ2 = gw_u σ 166 v2.toNatClampNeg (if (σ.1 166 v2.toNatClampNeg) < (σ.1 162 v2.toNatClampNeg) then (σ.1 162 v2.toNatClampNeg) else (σ.1 166 v2.toNatClampNeg)) → (PW x G 3 52 [(0, .ref (G.1 + 151)), (1, .int v1), (2, .int (v2 + 1))] [] τ2)))) : PW x G 3 52 [(0, .ref (G.1 + 151)), (1, .int v1), (2, .int v2)] [] σ := by
  refine pw_iload_n C dX0_take_52 rfl 2 rfl ?_
  refine pw_aload_n C dX0_take_53 rfl 0 rfl ?_
  refine pw_getr C dX0_take_54 gf_RX0_21 gk_151.1 gk_151.2 rfl ?_
  refine pw_getiN C dX0_take_57 gf_RX0_70 gk_154.1 gk_154.2 rfl ?_
  refine pw_icmp_ge (tgt := 93) C dX0_take_60 (by decide) (fun q => ?_) (fun q => ?_)
  · replace h := h.1 q
    exact pw_vret C hT dX0_take_93 h
  · replace h := h.2 q
    refine pw_aload_n C dX0_take_63 rfl 0 rfl ?_
    refine pw_getr C dX0_take_64 gf_RX0_35 gk_151.1 gk_151.2 rfl ?_
    refine pw_iload_n C dX0_take_67 rfl 2 rfl ?_
    refine pw_aload_n C dX0_take_68 rfl 0 rfl ?_
    refine pw_getr C dX0_take_69 gf_RX0_35 gk_151.1 gk_151.2 rfl ?_
    refine pw_iload_n C dX0_take_72 rfl 2 rfl ?_
    obtain ⟨g1, h⟩ := h
    refine pw_iald C dX0_take_73 gk_166.1 gk_166.2 g1 ?_
    refine pw_aload_n C dX0_take_74 rfl 0 rfl ?_
    refine pw_getr C dX0_take_75 gf_RX0_21 gk_151.1 gk_151.2 rfl ?_
    refine pw_getrN C dX0_take_78 gf_RX0_73 gk_154.1 gk_154.2 rfl ?_
    refine pw_iload_n C dX0_take_81 rfl 2 rfl ?_
    refine pw_iald C dX0_take_82 gk_162.1 gk_162.2 g1 ?_
    refine pw_max C dX0_take_83 gl_RX0_108 gq_maxs gq_math gq_maxc ⟨Nat.le_trans (by decide) hR.1, Nat.le_trans (by decide) hR.2.1, hR.2.2⟩ (Nat.le_of_ble_eq_true rfl) ?_
    refine pw_iast C dX0_take_86 gk_166.1 gk_166.2 g1 ?_
    generalize hτ2 : gw_u σ 166 v2.toNatClampNeg (if (σ.1 166 v2.toNatClampNeg) < (σ.1 162 v2.toNatClampNeg) then (σ.1 162 v2.toNatClampNeg) else (σ.1 166 v2.toNatClampNeg)) = τ2
    replace h := h τ2 hτ2.symm
    show PW x G 3 87 [(0, .ref (G.1 + 151)), (1, .int v1), (2, .int v2)] [] τ2
    refine pw_iinc (v := (v2 + 1)) (j := 2) C dX0_take_87 rfl rfl (by decide) rfl ?_
    refine pw_goto (tgt := 52) C dX0_take_90 (by decide) ?_
    exact pw_sub [1, 2, 0] rfl h
set_option maxRecDepth 4000 in
theorem sg_X0_choose_0 {x : gw_X} {G : gw_G} {Φ : Int32 → gw_S → Prop} (C : XC x G RX0 cX0_choose 6 (some .int)) (hR : gw_ok x 2) (hT : RT x G (fi Φ)) (v1 : Int32) (σ : gw_S)
    (h : (¬ (v1 = 2) → PW x G 6 34 [(0, .ref (G.1 + 151)), (1, .int v1), (2, .int 0), (3, .int (-1)), (4, .int 0)] [] σ) ∧ (v1 = 2 → ((σ.1 151 8) ≤ 0 → PW x G 6 34 [(0, .ref (G.1 + 151)), (1, .int v1), (2, .int 0), (3, .int (-1)), (4, .int 0)] [] σ) ∧ (¬ ((σ.1 151 8) ≤ 0) → ∃ Φ1 : Int32 → gw_S → Prop, gw_M (xl x) G yX0_step cX0_step 2 (some .int) 0 [.ref (G.1 + 151), .int ((σ.1 151 8) - 1)] σ (fi Φ1) ∧ ∀ (r3 : Int32) (τ2 : gw_S), Φ1 r3 τ2 → (PW x G 6 34 [(0, .ref (G.1 + 151)), (1, .int v1), (2, .int (r3 + 1)), (3, .int (-1)), (4, .int 0)] [] τ2)))) : PW x G 6 0 [(0, .ref (G.1 + 151)), (1, .int v1)] [] σ := by
  refine pw_iload_n C dX0_choose_0 rfl 1 rfl ?_
  refine pw_iconst (v := 2) C dX0_choose_1 (by decide) ?_
  refine pw_icmp_ne (tgt := 27) C dX0_choose_2 (by decide) (fun q => ?_) (fun q => ?_)
  · replace h := h.1 q
    refine pw_iconst (v := 0) C dX0_choose_27 (by decide) ?_
    refine pw_istore_n C dX0_choose_28 rfl (by decide) rfl ?_
    refine pw_iconst (v := (-1)) C dX0_choose_29 (by decide) ?_
    refine pw_istore_n C dX0_choose_30 rfl (by decide) rfl ?_
    refine pw_iconst (v := 0) C dX0_choose_31 (by decide) ?_
    refine pw_istore C dX0_choose_32 (by decide) rfl ?_
    exact pw_sub [3, 4, 2, 1, 0] rfl h
  · replace h := h.2 q
    refine pw_aload_n C dX0_choose_5 rfl 0 rfl ?_
    refine pw_geti C dX0_choose_6 gf_RX0_57 gk_151.1 gk_151.2 rfl ?_
    refine pw_if_le (tgt := 27) C dX0_choose_9 (by decide) (fun q => ?_) (fun q => ?_)
    · replace h := h.1 q
      refine pw_iconst (v := 0) C dX0_choose_27 (by decide) ?_
      refine pw_istore_n C dX0_choose_28 rfl (by decide) rfl ?_
      refine pw_iconst (v := (-1)) C dX0_choose_29 (by decide) ?_
      refine pw_istore_n C dX0_choose_30 rfl (by decide) rfl ?_
      refine pw_iconst (v := 0) C dX0_choose_31 (by decide) ?_
      refine pw_istore C dX0_choose_32 (by decide) rfl ?_
      exact pw_sub [3, 4, 2, 1, 0] rfl h
    · replace h := h.2 q
      refine pw_aload_n C dX0_choose_12 rfl 0 rfl ?_
      refine pw_aload_n C dX0_choose_13 rfl 0 rfl ?_
      refine pw_geti C dX0_choose_14 gf_RX0_57 gk_151.1 gk_151.2 rfl ?_
      refine pw_iconst (v := 1) C dX0_choose_17 (by decide) ?_
      refine pw_isub C dX0_choose_18 ?_
      obtain ⟨Φ1, hM, h⟩ := h
      refine pw_callV C dX0_choose_19 hM gm_X0_step gl_RX0_114 rfl hR (by decide) (by decide) (by decide) rfl gk_151.1 gk_151.2 rfl (Nat.le_of_ble_eq_true rfl) ?_
      rintro _ τ2 ⟨r3, rfl, hv⟩
      replace h := h r3 τ2 hv
      show PW x G 6 22 [(0, .ref (G.1 + 151)), (1, .int v1)] [.int r3] τ2
      refine pw_iconst (v := 1) C dX0_choose_22 (by decide) ?_
      refine pw_iadd C dX0_choose_23 ?_
      refine pw_goto (tgt := 28) C dX0_choose_24 (by decide) ?_
      refine pw_istore_n C dX0_choose_28 rfl (by decide) rfl ?_
      refine pw_iconst (v := (-1)) C dX0_choose_29 (by decide) ?_
      refine pw_istore_n C dX0_choose_30 rfl (by decide) rfl ?_
      refine pw_iconst (v := 0) C dX0_choose_31 (by decide) ?_
      refine pw_istore C dX0_choose_32 (by decide) rfl ?_
      exact pw_sub [3, 4, 2, 1, 0] rfl h
set_option maxRecDepth 4000 in
theorem sg_X0_choose_34 {x : gw_X} {G : gw_G} {Φ : Int32 → gw_S → Prop} (C : XC x G RX0 cX0_choose 6 (some .int)) (hR : gw_ok x 2) (hT : RT x G (fi Φ)) (v1 : Int32) (v2 : Int32) (v3 : Int32) (v4 : Int32) (σ : gw_S)
    (h : ((σ.1 154 0) ≤ v4 → Φ v3 σ) ∧ (¬ ((σ.1 154 0) ≤ v4) → vp_in (if (σ.1 154 0) ≤ (v2 + v4) then (v2 + v4) - (σ.1 154 0) else v2 + v4 : Int32) 8 ∧ (((σ.1 163 ((if (σ.1 154 0) ≤ (v2 + v4) then (v2 + v4) - (σ.1 154 0) else v2 + v4 : Int32).toNatClampNeg)) ≤ 0 → PW x G 6 34 [(0, .ref (G.1 + 151)), (1, .int v1), (2, .int v2), (3, .int v3), (4, .int (v4 + 1))] [] σ) ∧ (¬ ((σ.1 163 ((if (σ.1 154 0) ≤ (v2 + v4) then (v2 + v4) - (σ.1 154 0) else v2 + v4 : Int32).toNatClampNeg)) ≤ 0) → ∃ Φ2 : Bool → gw_S → Prop, gw_M (xl x) G yX3_canWork cX3_canWork 3 (some .boolean) 1 [.ref (G.1 + 154), .int (if (σ.1 154 0) ≤ (v2 + v4) then (v2 + v4) - (σ.1 154 0) else v2 + v4 : Int32)] σ (fz Φ2) ∧ ∀ (r4 : Bool) (τ3 : gw_S), Φ2 r4 τ3 → ((r4 = false → PW x G 6 34 [(0, .ref (G.1 + 151)), (1, .int v1), (2, .int v2), (3, .int v3), (4, .int (v4 + 1))] [] τ3) ∧ (¬ (r4 = false) → (v1 = 1 → ((v3 = (-1) → True) ∧ (¬ (v3 = (-1)) → vp_in v3 8 ∧ (True))) ∧ (PW x G 6 34 [(0, .ref (G.1 + 151)), (1, .int v1), (2, .int v2), (3, .int (if v3 = (-1) then (if (σ.1 154 0) ≤ (v2 + v4) then (v2 + v4) - (σ.1 154 0) else v2 + v4 : Int32) else (if (τ3.1 164 v3.toNatClampNeg) ≤ (τ3.1 164 ((if (σ.1 154 0) ≤ (v2 + v4) then (v2 + v4) - (σ.1 154 0) else v2 + v4 : Int32).toNatClampNeg)) then v3 else (if (σ.1 154 0) ≤ (v2 + v4) then (v2 + v4) - (σ.1 154 0) else v2 + v4 : Int32) : Int32) : Int32)), (4, .int (v4 + 1))] [] τ3)) ∧ (¬ (v1 = 1) → Φ (if (σ.1 154 0) ≤ (v2 + v4) then (v2 + v4) - (σ.1 154 0) else v2 + v4 : Int32) τ3))))))) : PW x G 6 34 [(0, .ref (G.1 + 151)), (1, .int v1), (2, .int v2), (3, .int v3), (4, .int v4)] [] σ := by
  refine pw_iload C dX0_choose_34 4 rfl ?_
  refine pw_aload_n C dX0_choose_36 rfl 0 rfl ?_
  refine pw_getr C dX0_choose_37 gf_RX0_21 gk_151.1 gk_151.2 rfl ?_
  refine pw_getiN C dX0_choose_40 gf_RX0_60 gk_154.1 gk_154.2 rfl ?_
  refine pw_icmp_ge (tgt := 141) C dX0_choose_43 (by decide) (fun q => ?_) (fun q => ?_)
  · replace h := h.1 q
    refine pw_iload_n C dX0_choose_141 rfl 3 rfl ?_
    exact pw_iret C hT dX0_choose_142 h
  · replace h := h.2 q
    refine pw_iload_n C dX0_choose_46 rfl 2 rfl ?_
    refine pw_iload C dX0_choose_47 4 rfl ?_
    refine pw_iadd C dX0_choose_49 ?_
    refine pw_aload_n C dX0_choose_50 rfl 0 rfl ?_
    refine pw_getr C dX0_choose_51 gf_RX0_21 gk_151.1 gk_151.2 rfl ?_
    refine pw_getiN C dX0_choose_54 gf_RX0_60 gk_154.1 gk_154.2 rfl ?_
    have hJ : ∀ w0 : Int32, (if (σ.1 154 0) ≤ (v2 + v4) then (v2 + v4) - (σ.1 154 0) else v2 + v4 : Int32) = w0 → PW x G 6 79 [(0, .ref (G.1 + 151)), (1, .int v1), (2, .int v2), (3, .int v3), (4, .int v4)] [.int w0] σ := by
      rintro _ rfl
      refine pw_istore C dX0_choose_79 (by decide) rfl ?_
      refine pw_aload_n C dX0_choose_81 rfl 1 rfl ?_
      refine pw_getr C dX0_choose_82 gf_RX0_25 gk_151.1 gk_151.2 rfl ?_
      refine pw_iload C dX0_choose_85 0 rfl ?_
      obtain ⟨g1, h⟩ := h
      refine pw_iald C dX0_choose_87 gk_163.1 gk_163.2 g1 ?_
      refine pw_if_le (tgt := 135) C dX0_choose_88 (by decide) (fun q => ?_) (fun q => ?_)
      · replace h := h.1 q
        refine pw_iinc (v := (v4 + 1)) (j := 5) C dX0_choose_135 rfl rfl (by decide) rfl ?_
        refine pw_goto (tgt := 34) C dX0_choose_138 (by decide) ?_
        exact pw_sub [2, 3, 4, 5, 0] rfl h
      · replace h := h.2 q
        refine pw_aload_n C dX0_choose_91 rfl 1 rfl ?_
        refine pw_getr C dX0_choose_92 gf_RX0_21 gk_151.1 gk_151.2 rfl ?_
        refine pw_iload C dX0_choose_95 0 rfl ?_
        obtain ⟨Φ2, hM, h⟩ := h
        refine pw_callV C dX0_choose_97 hM gm_X3_canWork gl_RX0_117 rfl hR (by decide) (by decide) (by decide) rfl gk_154.1 gk_154.2 rfl (Nat.le_of_ble_eq_true rfl) ?_
        rintro _ τ3 ⟨r4, rfl, hv⟩
        replace h := h r4 τ3 hv
        show PW x G 6 100 [(5, .int (if (σ.1 154 0) ≤ (v2 + v4) then (v2 + v4) - (σ.1 154 0) else v2 + v4 : Int32)), (0, .ref (G.1 + 151)), (1, .int v1), (2, .int v2), (3, .int v3), (4, .int v4)] [.int (gz r4)] τ3
        refine pw_z_eq (tgt := 135) C dX0_choose_100 (by decide) (fun q => ?_) (fun q => ?_)
        · replace h := h.1 q
          refine pw_iinc (v := (v4 + 1)) (j := 5) C dX0_choose_135 rfl rfl (by decide) rfl ?_
          refine pw_goto (tgt := 34) C dX0_choose_138 (by decide) ?_
          exact pw_sub [2, 3, 4, 5, 0] rfl h
        · replace h := h.2 q
          refine pw_iload_n C dX0_choose_103 rfl 2 rfl ?_
          refine pw_iconst (v := 1) C dX0_choose_104 (by decide) ?_
          refine pw_icmp_eq (tgt := 111) C dX0_choose_105 (by decide) (fun q => ?_) (fun q => ?_)
          · replace h := h.1 q
            refine pw_iload_n C dX0_choose_111 rfl 4 rfl ?_
            refine pw_iconst (v := (-1)) C dX0_choose_112 (by decide) ?_
            obtain ⟨hs, h⟩ := h
            have hJ : ∀ w0 : Int32, (if v3 = (-1) then (if (σ.1 154 0) ≤ (v2 + v4) then (v2 + v4) - (σ.1 154 0) else v2 + v4 : Int32) else (if (τ3.1 164 v3.toNatClampNeg) ≤ (τ3.1 164 ((if (σ.1 154 0) ≤ (v2 + v4) then (v2 + v4) - (σ.1 154 0) else v2 + v4 : Int32).toNatClampNeg)) then v3 else (if (σ.1 154 0) ≤ (v2 + v4) then (v2 + v4) - (σ.1 154 0) else v2 + v4 : Int32) : Int32) : Int32) = w0 → PW x G 6 135 [(3, .int w0), (5, .int (if (σ.1 154 0) ≤ (v2 + v4) then (v2 + v4) - (σ.1 154 0) else v2 + v4 : Int32)), (0, .ref (G.1 + 151)), (1, .int v1), (2, .int v2), (4, .int v4)] [] τ3 := by
              rintro _ rfl
              refine pw_iinc (v := (v4 + 1)) (j := 5) C dX0_choose_135 rfl rfl (by decide) rfl ?_
              refine pw_goto (tgt := 34) C dX0_choose_138 (by decide) ?_
              exact pw_sub [3, 4, 5, 1, 0] rfl h
            clear h
            refine pw_icmp_eq (tgt := 132) C dX0_choose_113 (by decide) (fun q6 => ?_) (fun q6 => ?_)
            · replace hs := hs.1 q6
              refine pw_iload C dX0_choose_132 0 rfl ?_
              refine pw_istore_n C dX0_choose_134 rfl (by decide) rfl ?_
              exact hJ (if (σ.1 154 0) ≤ (v2 + v4) then (v2 + v4) - (σ.1 154 0) else v2 + v4 : Int32) (if_pos q6)
            · replace hs := hs.2 q6
              refine pw_aload_n C dX0_choose_116 rfl 1 rfl ?_
              refine pw_getr C dX0_choose_117 gf_RX0_29 gk_151.1 gk_151.2 rfl ?_
              refine pw_iload C dX0_choose_120 0 rfl ?_
              refine pw_iald C dX0_choose_122 gk_164.1 gk_164.2 g1 ?_
              refine pw_aload_n C dX0_choose_123 rfl 1 rfl ?_
              refine pw_getr C dX0_choose_124 gf_RX0_29 gk_151.1 gk_151.2 rfl ?_
              refine pw_iload_n C dX0_choose_127 rfl 4 rfl ?_
              obtain ⟨g5, hs⟩ := hs
              refine pw_iald C dX0_choose_128 gk_164.1 gk_164.2 g5 ?_
              refine pw_icmp_ge (tgt := 135) C dX0_choose_129 (by decide) (fun q7 => ?_) (fun q7 => ?_)
              exact pw_sub [4, 0, 1, 2, 3, 5] rfl (hJ v3 ((if_neg q6).trans (if_pos q7)))
              · refine pw_iload C dX0_choose_132 0 rfl ?_
                refine pw_istore_n C dX0_choose_134 rfl (by decide) rfl ?_
                exact hJ (if (σ.1 154 0) ≤ (v2 + v4) then (v2 + v4) - (σ.1 154 0) else v2 + v4 : Int32) ((if_neg q6).trans (if_neg q7))
          · replace h := h.2 q
            refine pw_iload C dX0_choose_108 0 rfl ?_
            exact pw_iret C hT dX0_choose_110 h
    clear h
    refine pw_icmp_ge (tgt := 67) C dX0_choose_57 (by decide) (fun q2 => ?_) (fun q2 => ?_)
    · refine pw_iload_n C dX0_choose_67 rfl 2 rfl ?_
      refine pw_iload C dX0_choose_68 4 rfl ?_
      refine pw_iadd C dX0_choose_70 ?_
      refine pw_aload_n C dX0_choose_71 rfl 0 rfl ?_
      refine pw_getr C dX0_choose_72 gf_RX0_21 gk_151.1 gk_151.2 rfl ?_
      refine pw_getiN C dX0_choose_75 gf_RX0_60 gk_154.1 gk_154.2 rfl ?_
      refine pw_isub C dX0_choose_78 ?_
      exact hJ ((v2 + v4) - (σ.1 154 0)) (if_pos q2)
    · refine pw_iload_n C dX0_choose_60 rfl 2 rfl ?_
      refine pw_iload C dX0_choose_61 4 rfl ?_
      refine pw_iadd C dX0_choose_63 ?_
      refine pw_goto (tgt := 79) C dX0_choose_64 (by decide) ?_
      exact hJ (v2 + v4) (if_neg q2)
set_option maxRecDepth 4000 in
theorem sg_X2_remember_0 {x : gw_X} {G : gw_G} {Φ : gw_S → Prop} (C : XC x G RX2 cX2_remember 2 none) (hR : gw_ok x 2) (hT : RT x G (fv Φ)) (b1 : Nat) (hb1 : gw_plan b1) (σ : gw_S)
    (h : vp_in (((σ.1 12 1) + (σ.1 12 2)) - ((σ.1 12 1) + (σ.1 12 2)) / 14 * 14) 14 ∧ ∃ z1 : Nat, ([some 14, some 23, some 32, some 41, some 50, some 59, some 68, some 77, some 86, some 95, some 104, some 113, some 122, some 131] : List (Option Nat)).getD (((σ.1 12 1) + (σ.1 12 2)) - ((σ.1 12 1) + (σ.1 12 2)) / 14 * 14).toNatClampNeg none = some z1 ∧ gw_plan z1 ∧ (∃ Φ2 : gw_S → Prop, gw_M (xl x) G yX3_become cX3_become 2 none 1 [.ref (G.1 + z1), .ref (G.1 + b1)] σ (fv Φ2) ∧ ∀ (τ3 : gw_S), Φ2 τ3 → ((14 ≤ (τ3.1 12 2) → ∀ τ4 : gw_S, τ4 = gw_u τ3 12 1 (((τ3.1 12 1) + 1) - ((τ3.1 12 1) + 1) / 14 * 14) → (Φ τ4)) ∧ (¬ (14 ≤ (τ3.1 12 2)) → ∀ τ5 : gw_S, τ5 = gw_u τ3 12 2 ((τ3.1 12 2) + 1) → (Φ τ5))))) : PW x G 2 0 [(0, .ref (G.1 + 12)), (1, .ref (G.1 + b1))] [] σ := by
  refine pw_aload_n C dX2_remember_0 rfl 0 rfl ?_
  refine pw_getr C dX2_remember_1 gf_RX2_11 gk_12.1 gk_12.2 rfl ?_
  refine pw_aload_n C dX2_remember_4 rfl 0 rfl ?_
  refine pw_geti C dX2_remember_5 gf_RX2_22 gk_12.1 gk_12.2 rfl ?_
  refine pw_aload_n C dX2_remember_8 rfl 0 rfl ?_
  refine pw_geti C dX2_remember_9 gf_RX2_18 gk_12.1 gk_12.2 rfl ?_
  refine pw_iadd C dX2_remember_12 ?_
  refine pw_bipush (v := 14) C dX2_remember_13 (by decide) ?_
  refine pw_irem C dX2_remember_15 (by decide) ?_
  obtain ⟨hi, z1, hz, hz1, h⟩ := h
  refine pw_aald C dX2_remember_16 gk_13.1 gk_13.2 hi hz ?_
  refine pw_aload_n C dX2_remember_17 rfl 1 rfl ?_
  obtain ⟨Φ2, hM, h⟩ := h
  refine pw_callV C dX2_remember_18 hM gm_X3_become gl_RX2_25 rfl hR (by decide) (by decide) (by decide) rfl (gw_p0 hz1) hz1.2.1 rfl (Nat.le_of_ble_eq_true rfl) ?_
  rintro _ τ3 ⟨rfl, hv⟩
  replace h := h τ3 hv
  show PW x G 2 21 [(0, .ref (G.1 + 12)), (1, .ref (G.1 + b1))] [] τ3
  refine pw_aload_n C dX2_remember_21 rfl 0 rfl ?_
  refine pw_geti C dX2_remember_22 gf_RX2_18 gk_12.1 gk_12.2 rfl ?_
  refine pw_bipush (v := 14) C dX2_remember_25 (by decide) ?_
  refine pw_icmp_ge (tgt := 43) C dX2_remember_27 (by decide) (fun q => ?_) (fun q => ?_)
  · replace h := h.1 q
    refine pw_aload_n C dX2_remember_43 rfl 0 rfl ?_
    refine pw_aload_n C dX2_remember_44 rfl 0 rfl ?_
    refine pw_geti C dX2_remember_45 gf_RX2_22 gk_12.1 gk_12.2 rfl ?_
    refine pw_iconst (v := 1) C dX2_remember_48 (by decide) ?_
    refine pw_iadd C dX2_remember_49 ?_
    refine pw_bipush (v := 14) C dX2_remember_50 (by decide) ?_
    refine pw_irem C dX2_remember_52 (by decide) ?_
    refine pw_puti C dX2_remember_53 gf_RX2_22 rfl rfl rfl gk_12.1 gk_12.2 rfl ?_
    generalize hτ4 : gw_u τ3 12 1 (((τ3.1 12 1) + 1) - ((τ3.1 12 1) + 1) / 14 * 14) = τ4
    replace h := h τ4 hτ4.symm
    show PW x G 2 56 [(0, .ref (G.1 + 12)), (1, .ref (G.1 + b1))] [] τ4
    exact pw_vret C hT dX2_remember_56 h
  · replace h := h.2 q
    refine pw_aload_n C dX2_remember_30 rfl 0 rfl ?_
    refine pw_dup C dX2_remember_31 rfl ?_
    refine pw_geti C dX2_remember_32 gf_RX2_18 gk_12.1 gk_12.2 rfl ?_
    refine pw_iconst (v := 1) C dX2_remember_35 (by decide) ?_
    refine pw_iadd C dX2_remember_36 ?_
    refine pw_puti C dX2_remember_37 gf_RX2_18 rfl rfl rfl gk_12.1 gk_12.2 rfl ?_
    generalize hτ5 : gw_u τ3 12 2 ((τ3.1 12 2) + 1) = τ5
    replace h := h τ5 hτ5.symm
    show PW x G 2 40 [(0, .ref (G.1 + 12)), (1, .ref (G.1 + b1))] [] τ5
    refine pw_goto (tgt := 56) C dX2_remember_40 (by decide) ?_
    exact pw_vret C hT dX2_remember_56 h
set_option maxRecDepth 4000 in
theorem sg_X2_takeBack_0 {x : gw_X} {G : gw_G} {Φ : Int32 → gw_S → Prop} (C : XC x G RX2 cX2_takeBack 2 (some .int)) (hR : gw_ok x 2) (hT : RT x G (fi Φ)) (b1 : Nat) (hb1 : gw_plan b1) (σ : gw_S)
    (h : ∀ τ1 : gw_S, τ1 = gw_u σ 12 2 ((σ.1 12 2) - 1) → (vp_in (((τ1.1 12 1) + (τ1.1 12 2)) - ((τ1.1 12 1) + (τ1.1 12 2)) / 14 * 14) 14 ∧ ∃ z2 : Nat, ([some 14, some 23, some 32, some 41, some 50, some 59, some 68, some 77, some 86, some 95, some 104, some 113, some 122, some 131] : List (Option Nat)).getD (((τ1.1 12 1) + (τ1.1 12 2)) - ((τ1.1 12 1) + (τ1.1 12 2)) / 14 * 14).toNatClampNeg none = some z2 ∧ gw_plan z2 ∧ (∃ Φ3 : gw_S → Prop, gw_M (xl x) G yX3_become cX3_become 2 none 1 [.ref (G.1 + b1), .ref (G.1 + z2)] τ1 (fv Φ3) ∧ ∀ (τ4 : gw_S), Φ3 τ4 → (Φ (τ4.1 12 2) τ4)))) : PW x G 2 0 [(0, .ref (G.1 + 12)), (1, .ref (G.1 + b1))] [] σ := by
  refine pw_aload_n C dX2_takeBack_0 rfl 0 rfl ?_
  refine pw_dup C dX2_takeBack_1 rfl ?_
  refine pw_geti C dX2_takeBack_2 gf_RX2_18 gk_12.1 gk_12.2 rfl ?_
  refine pw_iconst (v := 1) C dX2_takeBack_5 (by decide) ?_
  refine pw_isub C dX2_takeBack_6 ?_
  refine pw_puti C dX2_takeBack_7 gf_RX2_18 rfl rfl rfl gk_12.1 gk_12.2 rfl ?_
  generalize hτ1 : gw_u σ 12 2 ((σ.1 12 2) - 1) = τ1
  replace h := h τ1 hτ1.symm
  show PW x G 2 10 [(0, .ref (G.1 + 12)), (1, .ref (G.1 + b1))] [] τ1
  refine pw_aload_n C dX2_takeBack_10 rfl 1 rfl ?_
  refine pw_aload_n C dX2_takeBack_11 rfl 0 rfl ?_
  refine pw_getr C dX2_takeBack_12 gf_RX2_11 gk_12.1 gk_12.2 rfl ?_
  refine pw_aload_n C dX2_takeBack_15 rfl 0 rfl ?_
  refine pw_geti C dX2_takeBack_16 gf_RX2_22 gk_12.1 gk_12.2 rfl ?_
  refine pw_aload_n C dX2_takeBack_19 rfl 0 rfl ?_
  refine pw_geti C dX2_takeBack_20 gf_RX2_18 gk_12.1 gk_12.2 rfl ?_
  refine pw_iadd C dX2_takeBack_23 ?_
  refine pw_bipush (v := 14) C dX2_takeBack_24 (by decide) ?_
  refine pw_irem C dX2_takeBack_26 (by decide) ?_
  obtain ⟨hi, z2, hz, hz2, h⟩ := h
  refine pw_aald C dX2_takeBack_27 gk_13.1 gk_13.2 hi hz ?_
  obtain ⟨Φ3, hM, h⟩ := h
  refine pw_callV C dX2_takeBack_28 hM gm_X3_become gl_RX2_25 rfl hR (by decide) (by decide) (by decide) rfl (gw_p0 hb1) hb1.2.1 rfl (Nat.le_of_ble_eq_true rfl) ?_
  rintro _ τ4 ⟨rfl, hv⟩
  replace h := h τ4 hv
  show PW x G 2 31 [(0, .ref (G.1 + 12)), (1, .ref (G.1 + b1))] [] τ4
  refine pw_aload_n C dX2_takeBack_31 rfl 0 rfl ?_
  refine pw_geti C dX2_takeBack_32 gf_RX2_18 gk_12.1 gk_12.2 rfl ?_
  exact pw_iret C hT dX2_takeBack_35 h
set_option maxRecDepth 4000 in
theorem sg_X4_agreeIn_0 {x : gw_X} {G : gw_G} {Φ : Bool → gw_S → Prop} (C : XC x G RX4 cX4_agreeIn 3 (some .boolean)) (hR : gw_ok x 2) (hT : RT x G (fz Φ)) (r : Nat) (b1 : Nat) (hr : gw_rates r) (hb1 : gw_plan b1) (σ : gw_S)
    (h : ∀ τ1 : gw_S, τ1 = gw_u σ r 1 (σ.1 b1 0) → (PW x G 3 10 [(0, .ref (G.1 + r)), (1, .ref (G.1 + b1)), (2, .int 0)] [] τ1)) : PW x G 3 0 [(0, .ref (G.1 + r)), (1, .ref (G.1 + b1))] [] σ := by
  refine pw_aload_n C dX4_agreeIn_0 rfl 0 rfl ?_
  refine pw_aload_n C dX4_agreeIn_1 rfl 1 rfl ?_
  refine pw_getiN C dX4_agreeIn_2 gf_RX4_15 (gw_p0 hb1) hb1.2.1 rfl ?_
  refine pw_puti C dX4_agreeIn_5 gf_RX4_21 rfl rfl rfl (gw_r0 hr) hr.2.1 rfl ?_
  generalize hτ1 : gw_u σ r 1 (σ.1 b1 0) = τ1
  replace h := h τ1 hτ1.symm
  show PW x G 3 8 [(0, .ref (G.1 + r)), (1, .ref (G.1 + b1))] [] τ1
  refine pw_iconst (v := 0) C dX4_agreeIn_8 (by decide) ?_
  refine pw_istore_n C dX4_agreeIn_9 rfl (by decide) rfl ?_
  exact pw_sub [1, 2, 0] rfl h
set_option maxRecDepth 4000 in
theorem sg_X4_agreeIn_10 {x : gw_X} {G : gw_G} {Φ : Bool → gw_S → Prop} (C : XC x G RX4 cX4_agreeIn 3 (some .boolean)) (hR : gw_ok x 2) (hT : RT x G (fz Φ)) (r : Nat) (b1 : Nat) (hr : gw_rates r) (hb1 : gw_plan b1) (v2 : Int32) (σ : gw_S)
    (h : ((σ.1 r 1) ≤ v2 → PW x G 3 33 [(0, .ref (G.1 + r)), (1, .ref (G.1 + b1)), (2, .int 0)] [] σ) ∧ (¬ ((σ.1 r 1) ≤ v2) → vp_in v2 8 ∧ (∀ τ2 : gw_S, τ2 = gw_u σ (r + 1) v2.toNatClampNeg 0 → (PW x G 3 10 [(0, .ref (G.1 + r)), (1, .ref (G.1 + b1)), (2, .int (v2 + 1))] [] τ2)))) : PW x G 3 10 [(0, .ref (G.1 + r)), (1, .ref (G.1 + b1)), (2, .int v2)] [] σ := by
  refine pw_iload_n C dX4_agreeIn_10 rfl 2 rfl ?_
  refine pw_aload_n C dX4_agreeIn_11 rfl 0 rfl ?_
  refine pw_geti C dX4_agreeIn_12 gf_RX4_21 (gw_r0 hr) hr.2.1 rfl ?_
  refine pw_icmp_ge (tgt := 31) C dX4_agreeIn_15 (by decide) (fun q => ?_) (fun q => ?_)
  · replace h := h.1 q
    refine pw_iconst (v := 0) C dX4_agreeIn_31 (by decide) ?_
    refine pw_istore_n C dX4_agreeIn_32 rfl (by decide) rfl ?_
    exact pw_sub [1, 2, 0] rfl h
  · replace h := h.2 q
    refine pw_aload_n C dX4_agreeIn_18 rfl 0 rfl ?_
    refine pw_getr C dX4_agreeIn_19 gf_RX4_9 (gw_r0 hr) hr.2.1 rfl ?_
    refine pw_iload_n C dX4_agreeIn_22 rfl 2 rfl ?_
    refine pw_iconst (v := 0) C dX4_agreeIn_23 (by decide) ?_
    obtain ⟨g1, h⟩ := h
    refine pw_iast C dX4_agreeIn_24 (gw_r1 hr) hr.2.2 g1 ?_
    generalize hτ2 : gw_u σ (r + 1) v2.toNatClampNeg 0 = τ2
    replace h := h τ2 hτ2.symm
    show PW x G 3 25 [(0, .ref (G.1 + r)), (1, .ref (G.1 + b1)), (2, .int v2)] [] τ2
    refine pw_iinc (v := (v2 + 1)) (j := 2) C dX4_agreeIn_25 rfl rfl (by decide) rfl ?_
    refine pw_goto (tgt := 10) C dX4_agreeIn_28 (by decide) ?_
    exact pw_sub [1, 2, 0] rfl h
set_option maxRecDepth 4000 in
theorem sg_X4_agreeIn_33 {x : gw_X} {G : gw_G} {Φ : Bool → gw_S → Prop} (C : XC x G RX4 cX4_agreeIn 3 (some .boolean)) (hR : gw_ok x 2) (hT : RT x G (fz Φ)) (r : Nat) (b1 : Nat) (hr : gw_rates r) (hb1 : gw_plan b1) (v2 : Int32) (σ : gw_S)
    (h : ((σ.1 r 1) ≤ v2 → PW x G 3 69 [(0, .ref (G.1 + r)), (1, .ref (G.1 + b1)), (2, .int 0)] [] σ) ∧ (¬ ((σ.1 r 1) ≤ v2) → vp_in v2 8 ∧ ((¬ ((σ.1 (r + 1) v2.toNatClampNeg) = 0) → PW x G 3 33 [(0, .ref (G.1 + r)), (1, .ref (G.1 + b1)), (2, .int (v2 + 1))] [] σ) ∧ ((σ.1 (r + 1) v2.toNatClampNeg) = 0 → ∃ Φ2 : Bool → gw_S → Prop, gw_M (xl x) G yX4_findsPart cX4_findsPart 10 (some .boolean) 1 [.ref (G.1 + r), .ref (G.1 + b1), .int v2] σ (fz Φ2) ∧ ∀ (r4 : Bool) (τ3 : gw_S), Φ2 r4 τ3 → ((¬ (r4 = false) → PW x G 3 33 [(0, .ref (G.1 + r)), (1, .ref (G.1 + b1)), (2, .int (v2 + 1))] [] τ3) ∧ (r4 = false → Φ false τ3)))))) : PW x G 3 33 [(0, .ref (G.1 + r)), (1, .ref (G.1 + b1)), (2, .int v2)] [] σ := by
  refine pw_iload_n C dX4_agreeIn_33 rfl 2 rfl ?_
  refine pw_aload_n C dX4_agreeIn_34 rfl 0 rfl ?_
  refine pw_geti C dX4_agreeIn_35 gf_RX4_21 (gw_r0 hr) hr.2.1 rfl ?_
  refine pw_icmp_ge (tgt := 67) C dX4_agreeIn_38 (by decide) (fun q => ?_) (fun q => ?_)
  · replace h := h.1 q
    refine pw_iconst (v := 0) C dX4_agreeIn_67 (by decide) ?_
    refine pw_istore_n C dX4_agreeIn_68 rfl (by decide) rfl ?_
    exact pw_sub [1, 2, 0] rfl h
  · replace h := h.2 q
    refine pw_aload_n C dX4_agreeIn_41 rfl 0 rfl ?_
    refine pw_getr C dX4_agreeIn_42 gf_RX4_9 (gw_r0 hr) hr.2.1 rfl ?_
    refine pw_iload_n C dX4_agreeIn_45 rfl 2 rfl ?_
    obtain ⟨g1, h⟩ := h
    refine pw_iald C dX4_agreeIn_46 (gw_r1 hr) hr.2.2 g1 ?_
    refine pw_if_ne (tgt := 61) C dX4_agreeIn_47 (by decide) (fun q => ?_) (fun q => ?_)
    · replace h := h.1 q
      refine pw_iinc (v := (v2 + 1)) (j := 2) C dX4_agreeIn_61 rfl rfl (by decide) rfl ?_
      refine pw_goto (tgt := 33) C dX4_agreeIn_64 (by decide) ?_
      exact pw_sub [1, 2, 0] rfl h
    · replace h := h.2 q
      refine pw_aload_n C dX4_agreeIn_50 rfl 0 rfl ?_
      refine pw_aload_n C dX4_agreeIn_51 rfl 1 rfl ?_
      refine pw_iload_n C dX4_agreeIn_52 rfl 2 rfl ?_
      obtain ⟨Φ2, hM, h⟩ := h
      refine pw_callV C dX4_agreeIn_53 hM gm_X4_findsPart gl_RX4_22 rfl hR (by decide) (by decide) (by decide) rfl (gw_r0 hr) hr.2.1 rfl (Nat.le_of_ble_eq_true rfl) ?_
      rintro _ τ3 ⟨r4, rfl, hv⟩
      replace h := h r4 τ3 hv
      show PW x G 3 56 [(0, .ref (G.1 + r)), (1, .ref (G.1 + b1)), (2, .int v2)] [.int (gz r4)] τ3
      refine pw_z_ne (tgt := 61) C dX4_agreeIn_56 (by decide) (fun q => ?_) (fun q => ?_)
      · replace h := h.1 q
        refine pw_iinc (v := (v2 + 1)) (j := 2) C dX4_agreeIn_61 rfl rfl (by decide) rfl ?_
        refine pw_goto (tgt := 33) C dX4_agreeIn_64 (by decide) ?_
        exact pw_sub [1, 2, 0] rfl h
      · replace h := h.2 q
        refine pw_iconst (v := 0) C dX4_agreeIn_59 (by decide) ?_
        exact pw_zret (b := false) C hT dX4_agreeIn_60 h
set_option maxRecDepth 4000 in
theorem sg_X4_agreeIn_69 {x : gw_X} {G : gw_G} {Φ : Bool → gw_S → Prop} (C : XC x G RX4 cX4_agreeIn 3 (some .boolean)) (hR : gw_ok x 2) (hT : RT x G (fz Φ)) (r : Nat) (b1 : Nat) (hr : gw_rates r) (hb1 : gw_plan b1) (v2 : Int32) (σ : gw_S)
    (h : ((σ.1 b1 4) ≤ v2 → Φ true σ) ∧ (¬ ((σ.1 b1 4) ≤ v2) → vp_in v2 14 ∧ (vp_in (σ.1 (b1 + 4) v2.toNatClampNeg) 8 ∧ (vp_in (σ.1 (b1 + 5) v2.toNatClampNeg) 8 ∧ ((((σ.1 (r + 1) ((σ.1 (b1 + 4) v2.toNatClampNeg).toNatClampNeg)) * (σ.1 (b1 + 6) v2.toNatClampNeg)) = ((σ.1 (r + 1) ((σ.1 (b1 + 5) v2.toNatClampNeg).toNatClampNeg)) * (σ.1 (b1 + 7) v2.toNatClampNeg)) → PW x G 3 69 [(0, .ref (G.1 + r)), (1, .ref (G.1 + b1)), (2, .int (v2 + 1))] [] σ) ∧ (¬ (((σ.1 (r + 1) ((σ.1 (b1 + 4) v2.toNatClampNeg).toNatClampNeg)) * (σ.1 (b1 + 6) v2.toNatClampNeg)) = ((σ.1 (r + 1) ((σ.1 (b1 + 5) v2.toNatClampNeg).toNatClampNeg)) * (σ.1 (b1 + 7) v2.toNatClampNeg))) → Φ false σ)))))) : PW x G 3 69 [(0, .ref (G.1 + r)), (1, .ref (G.1 + b1)), (2, .int v2)] [] σ := by
  refine pw_iload_n C dX4_agreeIn_69 rfl 2 rfl ?_
  refine pw_aload_n C dX4_agreeIn_70 rfl 1 rfl ?_
  refine pw_getiN C dX4_agreeIn_71 gf_RX4_26 (gw_p0 hb1) hb1.2.1 rfl ?_
  refine pw_icmp_ge (tgt := 124) C dX4_agreeIn_74 (by decide) (fun q => ?_) (fun q => ?_)
  · replace h := h.1 q
    refine pw_iconst (v := 1) C dX4_agreeIn_124 (by decide) ?_
    exact pw_zret (b := true) C hT dX4_agreeIn_125 h
  · replace h := h.2 q
    refine pw_aload_n C dX4_agreeIn_77 rfl 0 rfl ?_
    refine pw_getr C dX4_agreeIn_78 gf_RX4_9 (gw_r0 hr) hr.2.1 rfl ?_
    refine pw_aload_n C dX4_agreeIn_81 rfl 1 rfl ?_
    refine pw_getrN C dX4_agreeIn_82 gf_RX4_29 (gw_p0 hb1) hb1.2.1 rfl ?_
    refine pw_iload_n C dX4_agreeIn_85 rfl 2 rfl ?_
    obtain ⟨g1, h⟩ := h
    refine pw_iald C dX4_agreeIn_86 (gw_pn hb1 4 (by decide)) hb1.2.2.2.2.2.1 g1 ?_
    obtain ⟨g2, h⟩ := h
    refine pw_iald C dX4_agreeIn_87 (gw_r1 hr) hr.2.2 g2 ?_
    refine pw_aload_n C dX4_agreeIn_88 rfl 1 rfl ?_
    refine pw_getrN C dX4_agreeIn_89 gf_RX4_32 (gw_p0 hb1) hb1.2.1 rfl ?_
    refine pw_iload_n C dX4_agreeIn_92 rfl 2 rfl ?_
    refine pw_iald C dX4_agreeIn_93 (gw_pn hb1 6 (by decide)) hb1.2.2.2.2.2.2.2.1 g1 ?_
    refine pw_imul C dX4_agreeIn_94 ?_
    refine pw_aload_n C dX4_agreeIn_95 rfl 0 rfl ?_
    refine pw_getr C dX4_agreeIn_96 gf_RX4_9 (gw_r0 hr) hr.2.1 rfl ?_
    refine pw_aload_n C dX4_agreeIn_99 rfl 1 rfl ?_
    refine pw_getrN C dX4_agreeIn_100 gf_RX4_35 (gw_p0 hb1) hb1.2.1 rfl ?_
    refine pw_iload_n C dX4_agreeIn_103 rfl 2 rfl ?_
    refine pw_iald C dX4_agreeIn_104 (gw_pn hb1 5 (by decide)) hb1.2.2.2.2.2.2.1 g1 ?_
    obtain ⟨g3, h⟩ := h
    refine pw_iald C dX4_agreeIn_105 (gw_r1 hr) hr.2.2 g3 ?_
    refine pw_aload_n C dX4_agreeIn_106 rfl 1 rfl ?_
    refine pw_getrN C dX4_agreeIn_107 gf_RX4_38 (gw_p0 hb1) hb1.2.1 rfl ?_
    refine pw_iload_n C dX4_agreeIn_110 rfl 2 rfl ?_
    refine pw_iald C dX4_agreeIn_111 (gw_pn hb1 7 (by decide)) hb1.2.2.2.2.2.2.2.2.1 g1 ?_
    refine pw_imul C dX4_agreeIn_112 ?_
    refine pw_icmp_eq (tgt := 118) C dX4_agreeIn_113 (by decide) (fun q => ?_) (fun q => ?_)
    · replace h := h.1 q
      refine pw_iinc (v := (v2 + 1)) (j := 2) C dX4_agreeIn_118 rfl rfl (by decide) rfl ?_
      refine pw_goto (tgt := 69) C dX4_agreeIn_121 (by decide) ?_
      exact pw_sub [1, 2, 0] rfl h
    · replace h := h.2 q
      refine pw_iconst (v := 0) C dX4_agreeIn_116 (by decide) ?_
      exact pw_zret (b := false) C hT dX4_agreeIn_117 h
set_option maxRecDepth 4000 in
theorem sg_X4_total_0 {x : gw_X} {G : gw_G} {Φ : Int32 → gw_S → Prop} (C : XC x G RX4 cX4_total 3 (some .int)) (hR : gw_ok x 0) (hT : RT x G (fi Φ)) (r : Nat) (hr : gw_rates r) (σ : gw_S)
    (h : PW x G 3 4 [(0, .ref (G.1 + r)), (1, .int 0), (2, .int 0)] [] σ) : PW x G 3 0 [(0, .ref (G.1 + r))] [] σ := by
  refine pw_iconst (v := 0) C dX4_total_0 (by decide) ?_
  refine pw_istore_n C dX4_total_1 rfl (by decide) rfl ?_
  refine pw_iconst (v := 0) C dX4_total_2 (by decide) ?_
  refine pw_istore_n C dX4_total_3 rfl (by decide) rfl ?_
  exact pw_sub [2, 1, 0] rfl h
set_option maxRecDepth 4000 in
theorem sg_X4_total_4 {x : gw_X} {G : gw_G} {Φ : Int32 → gw_S → Prop} (C : XC x G RX4 cX4_total 3 (some .int)) (hR : gw_ok x 0) (hT : RT x G (fi Φ)) (r : Nat) (hr : gw_rates r) (v1 : Int32) (v2 : Int32) (σ : gw_S)
    (h : ((σ.1 r 1) ≤ v2 → Φ v1 σ) ∧ (¬ ((σ.1 r 1) ≤ v2) → vp_in v2 8 ∧ (PW x G 3 4 [(0, .ref (G.1 + r)), (1, .int (v1 + (σ.1 (r + 1) v2.toNatClampNeg))), (2, .int (v2 + 1))] [] σ))) : PW x G 3 4 [(0, .ref (G.1 + r)), (1, .int v1), (2, .int v2)] [] σ := by
  refine pw_iload_n C dX4_total_4 rfl 2 rfl ?_
  refine pw_aload_n C dX4_total_5 rfl 0 rfl ?_
  refine pw_geti C dX4_total_6 gf_RX4_21 (gw_r0 hr) hr.2.1 rfl ?_
  refine pw_icmp_ge (tgt := 27) C dX4_total_9 (by decide) (fun q => ?_) (fun q => ?_)
  · replace h := h.1 q
    refine pw_iload_n C dX4_total_27 rfl 1 rfl ?_
    exact pw_iret C hT dX4_total_28 h
  · replace h := h.2 q
    refine pw_iload_n C dX4_total_12 rfl 1 rfl ?_
    refine pw_aload_n C dX4_total_13 rfl 0 rfl ?_
    refine pw_getr C dX4_total_14 gf_RX4_9 (gw_r0 hr) hr.2.1 rfl ?_
    refine pw_iload_n C dX4_total_17 rfl 2 rfl ?_
    obtain ⟨g1, h⟩ := h
    refine pw_iald C dX4_total_18 (gw_r1 hr) hr.2.2 g1 ?_
    refine pw_iadd C dX4_total_19 ?_
    refine pw_istore_n C dX4_total_20 rfl (by decide) rfl ?_
    refine pw_iinc (v := (v2 + 1)) (j := 2) C dX4_total_21 rfl rfl (by decide) rfl ?_
    refine pw_goto (tgt := 4) C dX4_total_24 (by decide) ?_
    exact pw_sub [2, 1, 0] rfl h
set_option maxRecDepth 4000 in
theorem sg_X4_findsPart_0 {x : gw_X} {G : gw_G} {Φ : Bool → gw_S → Prop} (C : XC x G RX4 cX4_findsPart 10 (some .boolean)) (hR : gw_ok x 1) (hT : RT x G (fz Φ)) (r : Nat) (b1 : Nat) (v2 : Int32) (hr : gw_rates r) (hb1 : gw_plan b1) (σ : gw_S)
    (h : vp_in v2 8 ∧ (∀ τ2 : gw_S, τ2 = gw_u σ (r + 1) v2.toNatClampNeg 1 → (PW x G 10 14 [(0, .ref (G.1 + r)), (1, .ref (G.1 + b1)), (2, .int v2), (3, .int ((1 : Int32) <<< (v2 &&& 31))), (4, .int 1)] [] τ2))) : PW x G 10 0 [(0, .ref (G.1 + r)), (1, .ref (G.1 + b1)), (2, .int v2)] [] σ := by
  refine pw_aload_n C dX4_findsPart_0 rfl 0 rfl ?_
  refine pw_getr C dX4_findsPart_1 gf_RX4_9 (gw_r0 hr) hr.2.1 rfl ?_
  refine pw_iload_n C dX4_findsPart_4 rfl 2 rfl ?_
  refine pw_iconst (v := 1) C dX4_findsPart_5 (by decide) ?_
  obtain ⟨g1, h⟩ := h
  refine pw_iast C dX4_findsPart_6 (gw_r1 hr) hr.2.2 g1 ?_
  generalize hτ2 : gw_u σ (r + 1) v2.toNatClampNeg 1 = τ2
  replace h := h τ2 hτ2.symm
  show PW x G 10 7 [(0, .ref (G.1 + r)), (1, .ref (G.1 + b1)), (2, .int v2)] [] τ2
  refine pw_iconst (v := 1) C dX4_findsPart_7 (by decide) ?_
  refine pw_iload_n C dX4_findsPart_8 rfl 2 rfl ?_
  refine pw_ishl C dX4_findsPart_9 ?_
  refine pw_istore_n C dX4_findsPart_10 rfl (by decide) rfl ?_
  refine pw_iconst (v := 1) C dX4_findsPart_11 (by decide) ?_
  refine pw_istore C dX4_findsPart_12 (by decide) rfl ?_
  exact pw_sub [2, 3, 4, 1, 0] rfl h
set_option maxRecDepth 4000 in
theorem sg_X4_findsPart_14 {x : gw_X} {G : gw_G} {Φ : Bool → gw_S → Prop} (C : XC x G RX4 cX4_findsPart 10 (some .boolean)) (hR : gw_ok x 1) (hT : RT x G (fz Φ)) (r : Nat) (b1 : Nat) (hr : gw_rates r) (hb1 : gw_plan b1) (v2 : Int32) (v3 : Int32) (v4 : Int32) (σ : gw_S)
    (h : ((σ.1 r 1) ≤ v4 → Φ true σ) ∧ (¬ ((σ.1 r 1) ≤ v4) → PW x G 10 26 [(0, .ref (G.1 + r)), (1, .ref (G.1 + b1)), (2, .int v2), (3, .int v3), (4, .int v4), (5, .int 0)] [] σ)) : PW x G 10 14 [(0, .ref (G.1 + r)), (1, .ref (G.1 + b1)), (2, .int v2), (3, .int v3), (4, .int v4)] [] σ := by
  refine pw_iload C dX4_findsPart_14 4 rfl ?_
  refine pw_aload_n C dX4_findsPart_16 rfl 0 rfl ?_
  refine pw_geti C dX4_findsPart_17 gf_RX4_21 (gw_r0 hr) hr.2.1 rfl ?_
  refine pw_icmp_ge (tgt := 211) C dX4_findsPart_20 (by decide) (fun q => ?_) (fun q => ?_)
  · replace h := h.1 q
    refine pw_iconst (v := 1) C dX4_findsPart_211 (by decide) ?_
    exact pw_zret (b := true) C hT dX4_findsPart_212 h
  · replace h := h.2 q
    refine pw_iconst (v := 0) C dX4_findsPart_23 (by decide) ?_
    refine pw_istore C dX4_findsPart_24 (by decide) rfl ?_
    exact pw_sub [1, 2, 3, 4, 5, 0] rfl h
set_option maxRecDepth 4000 in
theorem sg_X4_findsPart_26 {x : gw_X} {G : gw_G} {Φ : Bool → gw_S → Prop} (C : XC x G RX4 cX4_findsPart 10 (some .boolean)) (hR : gw_ok x 1) (hT : RT x G (fz Φ)) (r : Nat) (b1 : Nat) (hr : gw_rates r) (hb1 : gw_plan b1) (v2 : Int32) (v3 : Int32) (v4 : Int32) (v5 : Int32) (σ : gw_S)
    (h : ((σ.1 b1 4) ≤ v5 → PW x G 10 14 [(0, .ref (G.1 + r)), (1, .ref (G.1 + b1)), (2, .int v2), (3, .int v3), (4, .int (v4 + 1))] [] σ) ∧ (¬ ((σ.1 b1 4) ≤ v5) → vp_in v5 14 ∧ (((if ((v3 >>> ((σ.1 (b1 + 4) v5.toNatClampNeg) &&& 31)) &&& 1) = 0 then false else true : Bool) = false → ((if ((v3 >>> ((σ.1 (b1 + 5) v5.toNatClampNeg) &&& 31)) &&& 1) = 0 then false else true : Bool) = false → PW x G 10 26 [(0, .ref (G.1 + r)), (1, .ref (G.1 + b1)), (2, .int v2), (3, .int (v3 ||| (if (if ((v3 >>> ((σ.1 (b1 + 4) v5.toNatClampNeg) &&& 31)) &&& 1) = 0 then false else true : Bool) = false then (if (if ((v3 >>> ((σ.1 (b1 + 5) v5.toNatClampNeg) &&& 31)) &&& 1) = 0 then false else true : Bool) = false then 0 else ((1 : Int32) <<< ((σ.1 (b1 + 4) v5.toNatClampNeg) &&& 31)) ||| ((1 : Int32) <<< ((σ.1 (b1 + 5) v5.toNatClampNeg) &&& 31)) : Int32) else ((1 : Int32) <<< ((σ.1 (b1 + 4) v5.toNatClampNeg) &&& 31)) ||| ((1 : Int32) <<< ((σ.1 (b1 + 5) v5.toNatClampNeg) &&& 31)) : Int32))), (4, .int v4), (5, .int (v5 + 1))] [] σ) ∧ (¬ ((if ((v3 >>> ((σ.1 (b1 + 5) v5.toNatClampNeg) &&& 31)) &&& 1) = 0 then false else true : Bool) = false) → (¬ ((if ((v3 >>> ((σ.1 (b1 + 4) v5.toNatClampNeg) &&& 31)) &&& 1) = 0 then false else true : Bool) = false) → PW x G 10 26 [(0, .ref (G.1 + r)), (1, .ref (G.1 + b1)), (2, .int v2), (3, .int (v3 ||| (if (if ((v3 >>> ((σ.1 (b1 + 4) v5.toNatClampNeg) &&& 31)) &&& 1) = 0 then false else true : Bool) = false then (if (if ((v3 >>> ((σ.1 (b1 + 5) v5.toNatClampNeg) &&& 31)) &&& 1) = 0 then false else true : Bool) = false then 0 else ((1 : Int32) <<< ((σ.1 (b1 + 4) v5.toNatClampNeg) &&& 31)) ||| ((1 : Int32) <<< ((σ.1 (b1 + 5) v5.toNatClampNeg) &&& 31)) : Int32) else ((1 : Int32) <<< ((σ.1 (b1 + 4) v5.toNatClampNeg) &&& 31)) ||| ((1 : Int32) <<< ((σ.1 (b1 + 5) v5.toNatClampNeg) &&& 31)) : Int32))), (4, .int v4), (5, .int (v5 + 1))] [] σ) ∧ ((if ((v3 >>> ((σ.1 (b1 + 4) v5.toNatClampNeg) &&& 31)) &&& 1) = 0 then false else true : Bool) = false → vp_in (σ.1 (b1 + 5) v5.toNatClampNeg) 8 ∧ (∃ Φ3 : Bool → gw_S → Prop, gw_M (xl x) G yX4_joins cX4_joins 7 (some .boolean) 0 [.ref (G.1 + r), .int v3, .int (σ.1 (b1 + 4) v5.toNatClampNeg), .int ((σ.1 (r + 1) ((σ.1 (b1 + 5) v5.toNatClampNeg).toNatClampNeg)) * (σ.1 (b1 + 7) v5.toNatClampNeg)), .int (σ.1 (b1 + 6) v5.toNatClampNeg)] σ (fz Φ3) ∧ ∀ (r5 : Bool) (τ4 : gw_S), Φ3 r5 τ4 → ((¬ (r5 = false) → PW x G 10 26 [(0, .ref (G.1 + r)), (1, .ref (G.1 + b1)), (2, .int v2), (3, .int (v3 ||| (if (if ((v3 >>> ((σ.1 (b1 + 4) v5.toNatClampNeg) &&& 31)) &&& 1) = 0 then false else true : Bool) = false then (if (if ((v3 >>> ((σ.1 (b1 + 5) v5.toNatClampNeg) &&& 31)) &&& 1) = 0 then false else true : Bool) = false then 0 else ((1 : Int32) <<< ((σ.1 (b1 + 4) v5.toNatClampNeg) &&& 31)) ||| ((1 : Int32) <<< ((σ.1 (b1 + 5) v5.toNatClampNeg) &&& 31)) : Int32) else ((1 : Int32) <<< ((σ.1 (b1 + 4) v5.toNatClampNeg) &&& 31)) ||| ((1 : Int32) <<< ((σ.1 (b1 + 5) v5.toNatClampNeg) &&& 31)) : Int32))), (4, .int v4), (5, .int (v5 + 1))] [] τ4) ∧ (r5 = false → Φ false τ4)))))) ∧ (¬ ((if ((v3 >>> ((σ.1 (b1 + 4) v5.toNatClampNeg) &&& 31)) &&& 1) = 0 then false else true : Bool) = false) → (¬ ((if ((v3 >>> ((σ.1 (b1 + 5) v5.toNatClampNeg) &&& 31)) &&& 1) = 0 then false else true : Bool) = false) → ((if ((v3 >>> ((σ.1 (b1 + 5) v5.toNatClampNeg) &&& 31)) &&& 1) = 0 then false else true : Bool) = false → PW x G 10 26 [(0, .ref (G.1 + r)), (1, .ref (G.1 + b1)), (2, .int v2), (3, .int (v3 ||| (if (if ((v3 >>> ((σ.1 (b1 + 4) v5.toNatClampNeg) &&& 31)) &&& 1) = 0 then false else true : Bool) = false then (if (if ((v3 >>> ((σ.1 (b1 + 5) v5.toNatClampNeg) &&& 31)) &&& 1) = 0 then false else true : Bool) = false then 0 else ((1 : Int32) <<< ((σ.1 (b1 + 4) v5.toNatClampNeg) &&& 31)) ||| ((1 : Int32) <<< ((σ.1 (b1 + 5) v5.toNatClampNeg) &&& 31)) : Int32) else ((1 : Int32) <<< ((σ.1 (b1 + 4) v5.toNatClampNeg) &&& 31)) ||| ((1 : Int32) <<< ((σ.1 (b1 + 5) v5.toNatClampNeg) &&& 31)) : Int32))), (4, .int v4), (5, .int (v5 + 1))] [] σ) ∧ (¬ ((if ((v3 >>> ((σ.1 (b1 + 5) v5.toNatClampNeg) &&& 31)) &&& 1) = 0 then false else true : Bool) = false) → (¬ ((if ((v3 >>> ((σ.1 (b1 + 4) v5.toNatClampNeg) &&& 31)) &&& 1) = 0 then false else true : Bool) = false) → PW x G 10 26 [(0, .ref (G.1 + r)), (1, .ref (G.1 + b1)), (2, .int v2), (3, .int (v3 ||| (if (if ((v3 >>> ((σ.1 (b1 + 4) v5.toNatClampNeg) &&& 31)) &&& 1) = 0 then false else true : Bool) = false then (if (if ((v3 >>> ((σ.1 (b1 + 5) v5.toNatClampNeg) &&& 31)) &&& 1) = 0 then false else true : Bool) = false then 0 else ((1 : Int32) <<< ((σ.1 (b1 + 4) v5.toNatClampNeg) &&& 31)) ||| ((1 : Int32) <<< ((σ.1 (b1 + 5) v5.toNatClampNeg) &&& 31)) : Int32) else ((1 : Int32) <<< ((σ.1 (b1 + 4) v5.toNatClampNeg) &&& 31)) ||| ((1 : Int32) <<< ((σ.1 (b1 + 5) v5.toNatClampNeg) &&& 31)) : Int32))), (4, .int v4), (5, .int (v5 + 1))] [] σ) ∧ ((if ((v3 >>> ((σ.1 (b1 + 4) v5.toNatClampNeg) &&& 31)) &&& 1) = 0 then false else true : Bool) = false → vp_in (σ.1 (b1 + 5) v5.toNatClampNeg) 8 ∧ (∃ Φ7 : Bool → gw_S → Prop, gw_M (xl x) G yX4_joins cX4_joins 7 (some .boolean) 0 [.ref (G.1 + r), .int v3, .int (σ.1 (b1 + 4) v5.toNatClampNeg), .int ((σ.1 (r + 1) ((σ.1 (b1 + 5) v5.toNatClampNeg).toNatClampNeg)) * (σ.1 (b1 + 7) v5.toNatClampNeg)), .int (σ.1 (b1 + 6) v5.toNatClampNeg)] σ (fz Φ7) ∧ ∀ (r9 : Bool) (τ8 : gw_S), Φ7 r9 τ8 → ((¬ (r9 = false) → PW x G 10 26 [(0, .ref (G.1 + r)), (1, .ref (G.1 + b1)), (2, .int v2), (3, .int (v3 ||| (if (if ((v3 >>> ((σ.1 (b1 + 4) v5.toNatClampNeg) &&& 31)) &&& 1) = 0 then false else true : Bool) = false then (if (if ((v3 >>> ((σ.1 (b1 + 5) v5.toNatClampNeg) &&& 31)) &&& 1) = 0 then false else true : Bool) = false then 0 else ((1 : Int32) <<< ((σ.1 (b1 + 4) v5.toNatClampNeg) &&& 31)) ||| ((1 : Int32) <<< ((σ.1 (b1 + 5) v5.toNatClampNeg) &&& 31)) : Int32) else ((1 : Int32) <<< ((σ.1 (b1 + 4) v5.toNatClampNeg) &&& 31)) ||| ((1 : Int32) <<< ((σ.1 (b1 + 5) v5.toNatClampNeg) &&& 31)) : Int32))), (4, .int v4), (5, .int (v5 + 1))] [] τ8) ∧ (r9 = false → Φ false τ8)))))) ∧ ((if ((v3 >>> ((σ.1 (b1 + 5) v5.toNatClampNeg) &&& 31)) &&& 1) = 0 then false else true : Bool) = false → vp_in (σ.1 (b1 + 4) v5.toNatClampNeg) 8 ∧ (∃ Φ11 : Bool → gw_S → Prop, gw_M (xl x) G yX4_joins cX4_joins 7 (some .boolean) 0 [.ref (G.1 + r), .int v3, .int (σ.1 (b1 + 5) v5.toNatClampNeg), .int ((σ.1 (r + 1) ((σ.1 (b1 + 4) v5.toNatClampNeg).toNatClampNeg)) * (σ.1 (b1 + 6) v5.toNatClampNeg)), .int (σ.1 (b1 + 7) v5.toNatClampNeg)] σ (fz Φ11) ∧ ∀ (r13 : Bool) (τ12 : gw_S), Φ11 r13 τ12 → ((¬ (r13 = false) → ((if ((v3 >>> ((σ.1 (b1 + 5) v5.toNatClampNeg) &&& 31)) &&& 1) = 0 then false else true : Bool) = false → PW x G 10 26 [(0, .ref (G.1 + r)), (1, .ref (G.1 + b1)), (2, .int v2), (3, .int (v3 ||| (if (if ((v3 >>> ((σ.1 (b1 + 4) v5.toNatClampNeg) &&& 31)) &&& 1) = 0 then false else true : Bool) = false then (if (if ((v3 >>> ((σ.1 (b1 + 5) v5.toNatClampNeg) &&& 31)) &&& 1) = 0 then false else true : Bool) = false then 0 else ((1 : Int32) <<< ((σ.1 (b1 + 4) v5.toNatClampNeg) &&& 31)) ||| ((1 : Int32) <<< ((σ.1 (b1 + 5) v5.toNatClampNeg) &&& 31)) : Int32) else ((1 : Int32) <<< ((σ.1 (b1 + 4) v5.toNatClampNeg) &&& 31)) ||| ((1 : Int32) <<< ((σ.1 (b1 + 5) v5.toNatClampNeg) &&& 31)) : Int32))), (4, .int v4), (5, .int (v5 + 1))] [] τ12) ∧ (¬ ((if ((v3 >>> ((σ.1 (b1 + 5) v5.toNatClampNeg) &&& 31)) &&& 1) = 0 then false else true : Bool) = false) → (¬ ((if ((v3 >>> ((σ.1 (b1 + 4) v5.toNatClampNeg) &&& 31)) &&& 1) = 0 then false else true : Bool) = false) → PW x G 10 26 [(0, .ref (G.1 + r)), (1, .ref (G.1 + b1)), (2, .int v2), (3, .int (v3 ||| (if (if ((v3 >>> ((σ.1 (b1 + 4) v5.toNatClampNeg) &&& 31)) &&& 1) = 0 then false else true : Bool) = false then (if (if ((v3 >>> ((σ.1 (b1 + 5) v5.toNatClampNeg) &&& 31)) &&& 1) = 0 then false else true : Bool) = false then 0 else ((1 : Int32) <<< ((σ.1 (b1 + 4) v5.toNatClampNeg) &&& 31)) ||| ((1 : Int32) <<< ((σ.1 (b1 + 5) v5.toNatClampNeg) &&& 31)) : Int32) else ((1 : Int32) <<< ((σ.1 (b1 + 4) v5.toNatClampNeg) &&& 31)) ||| ((1 : Int32) <<< ((σ.1 (b1 + 5) v5.toNatClampNeg) &&& 31)) : Int32))), (4, .int v4), (5, .int (v5 + 1))] [] τ12) ∧ ((if ((v3 >>> ((σ.1 (b1 + 4) v5.toNatClampNeg) &&& 31)) &&& 1) = 0 then false else true : Bool) = false → vp_in (σ.1 (b1 + 5) v5.toNatClampNeg) 8 ∧ (∃ Φ15 : Bool → gw_S → Prop, gw_M (xl x) G yX4_joins cX4_joins 7 (some .boolean) 0 [.ref (G.1 + r), .int v3, .int (σ.1 (b1 + 4) v5.toNatClampNeg), .int ((τ12.1 (r + 1) ((σ.1 (b1 + 5) v5.toNatClampNeg).toNatClampNeg)) * (τ12.1 (b1 + 7) v5.toNatClampNeg)), .int (τ12.1 (b1 + 6) v5.toNatClampNeg)] τ12 (fz Φ15) ∧ ∀ (r17 : Bool) (τ16 : gw_S), Φ15 r17 τ16 → ((¬ (r17 = false) → PW x G 10 26 [(0, .ref (G.1 + r)), (1, .ref (G.1 + b1)), (2, .int v2), (3, .int (v3 ||| (if (if ((v3 >>> ((σ.1 (b1 + 4) v5.toNatClampNeg) &&& 31)) &&& 1) = 0 then false else true : Bool) = false then (if (if ((v3 >>> ((σ.1 (b1 + 5) v5.toNatClampNeg) &&& 31)) &&& 1) = 0 then false else true : Bool) = false then 0 else ((1 : Int32) <<< ((σ.1 (b1 + 4) v5.toNatClampNeg) &&& 31)) ||| ((1 : Int32) <<< ((σ.1 (b1 + 5) v5.toNatClampNeg) &&& 31)) : Int32) else ((1 : Int32) <<< ((σ.1 (b1 + 4) v5.toNatClampNeg) &&& 31)) ||| ((1 : Int32) <<< ((σ.1 (b1 + 5) v5.toNatClampNeg) &&& 31)) : Int32))), (4, .int v4), (5, .int (v5 + 1))] [] τ16) ∧ (r17 = false → Φ false τ16)))))) ∧ (r13 = false → Φ false τ12)))))))) : PW x G 10 26 [(0, .ref (G.1 + r)), (1, .ref (G.1 + b1)), (2, .int v2), (3, .int v3), (4, .int v4), (5, .int v5)] [] σ := by
  refine pw_iload C dX4_findsPart_26 5 rfl ?_
  refine pw_aload_n C dX4_findsPart_28 rfl 1 rfl ?_
  refine pw_getiN C dX4_findsPart_29 gf_RX4_26 (gw_p0 hb1) hb1.2.1 rfl ?_
  refine pw_icmp_ge (tgt := 205) C dX4_findsPart_32 (by decide) (fun q => ?_) (fun q => ?_)
  · replace h := h.1 q
    refine pw_iinc (v := (v4 + 1)) (j := 4) C dX4_findsPart_205 rfl rfl (by decide) rfl ?_
    refine pw_goto (tgt := 14) C dX4_findsPart_208 (by decide) ?_
    exact pw_sub [1, 2, 3, 4, 0] rfl h
  · replace h := h.2 q
    refine pw_aload_n C dX4_findsPart_35 rfl 1 rfl ?_
    refine pw_getrN C dX4_findsPart_36 gf_RX4_29 (gw_p0 hb1) hb1.2.1 rfl ?_
    refine pw_iload C dX4_findsPart_39 5 rfl ?_
    obtain ⟨g1, h⟩ := h
    refine pw_iald C dX4_findsPart_41 (gw_pn hb1 4 (by decide)) hb1.2.2.2.2.2.1 g1 ?_
    refine pw_istore C dX4_findsPart_42 (by decide) rfl ?_
    refine pw_aload_n C dX4_findsPart_44 rfl 2 rfl ?_
    refine pw_getrN C dX4_findsPart_45 gf_RX4_35 (gw_p0 hb1) hb1.2.1 rfl ?_
    refine pw_iload C dX4_findsPart_48 6 rfl ?_
    refine pw_iald C dX4_findsPart_50 (gw_pn hb1 5 (by decide)) hb1.2.2.2.2.2.2.1 g1 ?_
    refine pw_istore C dX4_findsPart_51 (by decide) rfl ?_
    refine pw_iload_n C dX4_findsPart_53 rfl 5 rfl ?_
    refine pw_iload C dX4_findsPart_54 1 rfl ?_
    refine pw_ishr C dX4_findsPart_56 ?_
    refine pw_iconst (v := 1) C dX4_findsPart_57 (by decide) ?_
    refine pw_iand C dX4_findsPart_58 ?_
    have hJ : ∀ w0 : Bool, (if ((v3 >>> ((σ.1 (b1 + 4) v5.toNatClampNeg) &&& 31)) &&& 1) = 0 then false else true : Bool) = w0 → PW x G 10 67 [(7, .int (σ.1 (b1 + 5) v5.toNatClampNeg)), (6, .int (σ.1 (b1 + 4) v5.toNatClampNeg)), (0, .ref (G.1 + r)), (1, .ref (G.1 + b1)), (2, .int v2), (3, .int v3), (4, .int v4), (5, .int v5)] [.int (gz w0)] σ := by
      rintro _ rfl
      refine pw_istore C dX4_findsPart_67 (by decide) rfl ?_
      refine pw_iload_n C dX4_findsPart_69 rfl 6 rfl ?_
      refine pw_iload C dX4_findsPart_70 1 rfl ?_
      refine pw_ishr C dX4_findsPart_72 ?_
      refine pw_iconst (v := 1) C dX4_findsPart_73 (by decide) ?_
      refine pw_iand C dX4_findsPart_74 ?_
      have hJ : ∀ w0 : Bool, (if ((v3 >>> ((σ.1 (b1 + 5) v5.toNatClampNeg) &&& 31)) &&& 1) = 0 then false else true : Bool) = w0 → PW x G 10 83 [(8, .int (gz (if ((v3 >>> ((σ.1 (b1 + 4) v5.toNatClampNeg) &&& 31)) &&& 1) = 0 then false else true : Bool))), (7, .int (σ.1 (b1 + 5) v5.toNatClampNeg)), (6, .int (σ.1 (b1 + 4) v5.toNatClampNeg)), (0, .ref (G.1 + r)), (1, .ref (G.1 + b1)), (2, .int v2), (3, .int v3), (4, .int v4), (5, .int v5)] [.int (gz w0)] σ := by
        rintro _ rfl
        refine pw_istore C dX4_findsPart_83 (by decide) rfl ?_
        refine pw_iload C dX4_findsPart_85 1 rfl ?_
        refine pw_z_eq (tgt := 129) C dX4_findsPart_87 (by decide) (fun q => ?_) (fun q => ?_)
        · replace h := h.1 q
          refine pw_iload C dX4_findsPart_129 0 rfl ?_
          refine pw_z_eq (tgt := 173) C dX4_findsPart_131 (by decide) (fun q => ?_) (fun q => ?_)
          · replace h := h.1 q
            refine pw_iload_n C dX4_findsPart_173 rfl 7 rfl ?_
            refine pw_iload C dX4_findsPart_174 1 rfl ?_
            have hJ : ∀ w0 : Int32, (if (if ((v3 >>> ((σ.1 (b1 + 4) v5.toNatClampNeg) &&& 31)) &&& 1) = 0 then false else true : Bool) = false then (if (if ((v3 >>> ((σ.1 (b1 + 5) v5.toNatClampNeg) &&& 31)) &&& 1) = 0 then false else true : Bool) = false then 0 else ((1 : Int32) <<< ((σ.1 (b1 + 4) v5.toNatClampNeg) &&& 31)) ||| ((1 : Int32) <<< ((σ.1 (b1 + 5) v5.toNatClampNeg) &&& 31)) : Int32) else ((1 : Int32) <<< ((σ.1 (b1 + 4) v5.toNatClampNeg) &&& 31)) ||| ((1 : Int32) <<< ((σ.1 (b1 + 5) v5.toNatClampNeg) &&& 31)) : Int32) = w0 → PW x G 10 197 [(9, .int (gz (if ((v3 >>> ((σ.1 (b1 + 5) v5.toNatClampNeg) &&& 31)) &&& 1) = 0 then false else true : Bool))), (8, .int (gz (if ((v3 >>> ((σ.1 (b1 + 4) v5.toNatClampNeg) &&& 31)) &&& 1) = 0 then false else true : Bool))), (7, .int (σ.1 (b1 + 5) v5.toNatClampNeg)), (6, .int (σ.1 (b1 + 4) v5.toNatClampNeg)), (0, .ref (G.1 + r)), (1, .ref (G.1 + b1)), (2, .int v2), (3, .int v3), (4, .int v4), (5, .int v5)] [.int w0, .int v3] σ := by
              rintro _ rfl
              refine pw_ior C dX4_findsPart_197 ?_
              refine pw_istore_n C dX4_findsPart_198 rfl (by decide) rfl ?_
              refine pw_iinc (v := (v5 + 1)) (j := 9) C dX4_findsPart_199 rfl rfl (by decide) rfl ?_
              refine pw_goto (tgt := 26) C dX4_findsPart_202 (by decide) ?_
              exact pw_sub [6, 7, 8, 1, 9, 0] rfl h
            clear h
            refine pw_z_ne (tgt := 184) C dX4_findsPart_176 (by decide) (fun q6 => ?_) (fun q6 => ?_)
            · refine pw_iconst (v := 1) C dX4_findsPart_184 (by decide) ?_
              refine pw_iload C dX4_findsPart_185 3 rfl ?_
              refine pw_ishl C dX4_findsPart_187 ?_
              refine pw_iconst (v := 1) C dX4_findsPart_188 (by decide) ?_
              refine pw_iload C dX4_findsPart_189 2 rfl ?_
              refine pw_ishl C dX4_findsPart_191 ?_
              refine pw_ior C dX4_findsPart_192 ?_
              refine pw_goto (tgt := 197) C dX4_findsPart_193 (by decide) ?_
              exact hJ (((1 : Int32) <<< ((σ.1 (b1 + 4) v5.toNatClampNeg) &&& 31)) ||| ((1 : Int32) <<< ((σ.1 (b1 + 5) v5.toNatClampNeg) &&& 31))) (if_neg q6)
            · refine pw_iload C dX4_findsPart_179 0 rfl ?_
              refine pw_z_eq (tgt := 196) C dX4_findsPart_181 (by decide) (fun q7 => ?_) (fun q7 => ?_)
              · refine pw_iconst (v := 0) C dX4_findsPart_196 (by decide) ?_
                exact hJ 0 ((if_pos q6).trans (if_pos q7))
              · refine pw_iconst (v := 1) C dX4_findsPart_184 (by decide) ?_
                refine pw_iload C dX4_findsPart_185 3 rfl ?_
                refine pw_ishl C dX4_findsPart_187 ?_
                refine pw_iconst (v := 1) C dX4_findsPart_188 (by decide) ?_
                refine pw_iload C dX4_findsPart_189 2 rfl ?_
                refine pw_ishl C dX4_findsPart_191 ?_
                refine pw_ior C dX4_findsPart_192 ?_
                refine pw_goto (tgt := 197) C dX4_findsPart_193 (by decide) ?_
                exact hJ (((1 : Int32) <<< ((σ.1 (b1 + 4) v5.toNatClampNeg) &&& 31)) ||| ((1 : Int32) <<< ((σ.1 (b1 + 5) v5.toNatClampNeg) &&& 31))) ((if_pos q6).trans (if_neg q7))
          · replace h := h.2 q
            refine pw_iload C dX4_findsPart_134 1 rfl ?_
            refine pw_z_ne (tgt := 173) C dX4_findsPart_136 (by decide) (fun q => ?_) (fun q => ?_)
            · replace h := h.1 q
              refine pw_iload_n C dX4_findsPart_173 rfl 7 rfl ?_
              refine pw_iload C dX4_findsPart_174 1 rfl ?_
              have hJ : ∀ w0 : Int32, (if (if ((v3 >>> ((σ.1 (b1 + 4) v5.toNatClampNeg) &&& 31)) &&& 1) = 0 then false else true : Bool) = false then (if (if ((v3 >>> ((σ.1 (b1 + 5) v5.toNatClampNeg) &&& 31)) &&& 1) = 0 then false else true : Bool) = false then 0 else ((1 : Int32) <<< ((σ.1 (b1 + 4) v5.toNatClampNeg) &&& 31)) ||| ((1 : Int32) <<< ((σ.1 (b1 + 5) v5.toNatClampNeg) &&& 31)) : Int32) else ((1 : Int32) <<< ((σ.1 (b1 + 4) v5.toNatClampNeg) &&& 31)) ||| ((1 : Int32) <<< ((σ.1 (b1 + 5) v5.toNatClampNeg) &&& 31)) : Int32) = w0 → PW x G 10 197 [(9, .int (gz (if ((v3 >>> ((σ.1 (b1 + 5) v5.toNatClampNeg) &&& 31)) &&& 1) = 0 then false else true : Bool))), (8, .int (gz (if ((v3 >>> ((σ.1 (b1 + 4) v5.toNatClampNeg) &&& 31)) &&& 1) = 0 then false else true : Bool))), (7, .int (σ.1 (b1 + 5) v5.toNatClampNeg)), (6, .int (σ.1 (b1 + 4) v5.toNatClampNeg)), (0, .ref (G.1 + r)), (1, .ref (G.1 + b1)), (2, .int v2), (3, .int v3), (4, .int v4), (5, .int v5)] [.int w0, .int v3] σ := by
                rintro _ rfl
                refine pw_ior C dX4_findsPart_197 ?_
                refine pw_istore_n C dX4_findsPart_198 rfl (by decide) rfl ?_
                refine pw_iinc (v := (v5 + 1)) (j := 9) C dX4_findsPart_199 rfl rfl (by decide) rfl ?_
                refine pw_goto (tgt := 26) C dX4_findsPart_202 (by decide) ?_
                exact pw_sub [6, 7, 8, 1, 9, 0] rfl h
              clear h
              refine pw_z_ne (tgt := 184) C dX4_findsPart_176 (by decide) (fun q7 => ?_) (fun q7 => ?_)
              · refine pw_iconst (v := 1) C dX4_findsPart_184 (by decide) ?_
                refine pw_iload C dX4_findsPart_185 3 rfl ?_
                refine pw_ishl C dX4_findsPart_187 ?_
                refine pw_iconst (v := 1) C dX4_findsPart_188 (by decide) ?_
                refine pw_iload C dX4_findsPart_189 2 rfl ?_
                refine pw_ishl C dX4_findsPart_191 ?_
                refine pw_ior C dX4_findsPart_192 ?_
                refine pw_goto (tgt := 197) C dX4_findsPart_193 (by decide) ?_
                exact hJ (((1 : Int32) <<< ((σ.1 (b1 + 4) v5.toNatClampNeg) &&& 31)) ||| ((1 : Int32) <<< ((σ.1 (b1 + 5) v5.toNatClampNeg) &&& 31))) (if_neg q7)
              · refine pw_iload C dX4_findsPart_179 0 rfl ?_
                refine pw_z_eq (tgt := 196) C dX4_findsPart_181 (by decide) (fun q8 => ?_) (fun q8 => ?_)
                · refine pw_iconst (v := 0) C dX4_findsPart_196 (by decide) ?_
                  exact hJ 0 ((if_pos q7).trans (if_pos q8))
                · refine pw_iconst (v := 1) C dX4_findsPart_184 (by decide) ?_
                  refine pw_iload C dX4_findsPart_185 3 rfl ?_
                  refine pw_ishl C dX4_findsPart_187 ?_
                  refine pw_iconst (v := 1) C dX4_findsPart_188 (by decide) ?_
                  refine pw_iload C dX4_findsPart_189 2 rfl ?_
                  refine pw_ishl C dX4_findsPart_191 ?_
                  refine pw_ior C dX4_findsPart_192 ?_
                  refine pw_goto (tgt := 197) C dX4_findsPart_193 (by decide) ?_
                  exact hJ (((1 : Int32) <<< ((σ.1 (b1 + 4) v5.toNatClampNeg) &&& 31)) ||| ((1 : Int32) <<< ((σ.1 (b1 + 5) v5.toNatClampNeg) &&& 31))) ((if_pos q7).trans (if_neg q8))
            · replace h := h.2 q
              refine pw_aload_n C dX4_findsPart_139 rfl 4 rfl ?_
              refine pw_iload_n C dX4_findsPart_140 rfl 7 rfl ?_
              refine pw_iload C dX4_findsPart_141 3 rfl ?_
              refine pw_aload_n C dX4_findsPart_143 rfl 4 rfl ?_
              refine pw_getr C dX4_findsPart_144 gf_RX4_9 (gw_r0 hr) hr.2.1 rfl ?_
              refine pw_iload C dX4_findsPart_147 2 rfl ?_
              obtain ⟨g2, h⟩ := h
              refine pw_iald C dX4_findsPart_149 (gw_r1 hr) hr.2.2 g2 ?_
              refine pw_aload_n C dX4_findsPart_150 rfl 5 rfl ?_
              refine pw_getrN C dX4_findsPart_151 gf_RX4_38 (gw_p0 hb1) hb1.2.1 rfl ?_
              refine pw_iload C dX4_findsPart_154 9 rfl ?_
              refine pw_iald C dX4_findsPart_156 (gw_pn hb1 7 (by decide)) hb1.2.2.2.2.2.2.2.2.1 g1 ?_
              refine pw_imul C dX4_findsPart_157 ?_
              refine pw_aload_n C dX4_findsPart_158 rfl 5 rfl ?_
              refine pw_getrN C dX4_findsPart_159 gf_RX4_32 (gw_p0 hb1) hb1.2.1 rfl ?_
              refine pw_iload C dX4_findsPart_162 9 rfl ?_
              refine pw_iald C dX4_findsPart_164 (gw_pn hb1 6 (by decide)) hb1.2.2.2.2.2.2.2.1 g1 ?_
              obtain ⟨Φ3, hM, h⟩ := h
              refine pw_callV C dX4_findsPart_165 hM gm_X4_joins gl_RX4_41 rfl hR (by decide) (by decide) (by decide) rfl (gw_r0 hr) hr.2.1 rfl (Nat.le_of_ble_eq_true rfl) ?_
              rintro _ τ4 ⟨r5, rfl, hv⟩
              replace h := h r5 τ4 hv
              show PW x G 10 168 [(9, .int (gz (if ((v3 >>> ((σ.1 (b1 + 5) v5.toNatClampNeg) &&& 31)) &&& 1) = 0 then false else true : Bool))), (8, .int (gz (if ((v3 >>> ((σ.1 (b1 + 4) v5.toNatClampNeg) &&& 31)) &&& 1) = 0 then false else true : Bool))), (7, .int (σ.1 (b1 + 5) v5.toNatClampNeg)), (6, .int (σ.1 (b1 + 4) v5.toNatClampNeg)), (0, .ref (G.1 + r)), (1, .ref (G.1 + b1)), (2, .int v2), (3, .int v3), (4, .int v4), (5, .int v5)] [.int (gz r5)] τ4
              refine pw_z_ne (tgt := 173) C dX4_findsPart_168 (by decide) (fun q => ?_) (fun q => ?_)
              · replace h := h.1 q
                refine pw_iload_n C dX4_findsPart_173 rfl 7 rfl ?_
                refine pw_iload C dX4_findsPart_174 1 rfl ?_
                have hJ : ∀ w0 : Int32, (if (if ((v3 >>> ((σ.1 (b1 + 4) v5.toNatClampNeg) &&& 31)) &&& 1) = 0 then false else true : Bool) = false then (if (if ((v3 >>> ((σ.1 (b1 + 5) v5.toNatClampNeg) &&& 31)) &&& 1) = 0 then false else true : Bool) = false then 0 else ((1 : Int32) <<< ((σ.1 (b1 + 4) v5.toNatClampNeg) &&& 31)) ||| ((1 : Int32) <<< ((σ.1 (b1 + 5) v5.toNatClampNeg) &&& 31)) : Int32) else ((1 : Int32) <<< ((σ.1 (b1 + 4) v5.toNatClampNeg) &&& 31)) ||| ((1 : Int32) <<< ((σ.1 (b1 + 5) v5.toNatClampNeg) &&& 31)) : Int32) = w0 → PW x G 10 197 [(9, .int (gz (if ((v3 >>> ((σ.1 (b1 + 5) v5.toNatClampNeg) &&& 31)) &&& 1) = 0 then false else true : Bool))), (8, .int (gz (if ((v3 >>> ((σ.1 (b1 + 4) v5.toNatClampNeg) &&& 31)) &&& 1) = 0 then false else true : Bool))), (7, .int (σ.1 (b1 + 5) v5.toNatClampNeg)), (6, .int (σ.1 (b1 + 4) v5.toNatClampNeg)), (0, .ref (G.1 + r)), (1, .ref (G.1 + b1)), (2, .int v2), (3, .int v3), (4, .int v4), (5, .int v5)] [.int w0, .int v3] τ4 := by
                  rintro _ rfl
                  refine pw_ior C dX4_findsPart_197 ?_
                  refine pw_istore_n C dX4_findsPart_198 rfl (by decide) rfl ?_
                  refine pw_iinc (v := (v5 + 1)) (j := 9) C dX4_findsPart_199 rfl rfl (by decide) rfl ?_
                  refine pw_goto (tgt := 26) C dX4_findsPart_202 (by decide) ?_
                  exact pw_sub [6, 7, 8, 1, 9, 0] rfl h
                clear h
                refine pw_z_ne (tgt := 184) C dX4_findsPart_176 (by decide) (fun q8 => ?_) (fun q8 => ?_)
                · refine pw_iconst (v := 1) C dX4_findsPart_184 (by decide) ?_
                  refine pw_iload C dX4_findsPart_185 3 rfl ?_
                  refine pw_ishl C dX4_findsPart_187 ?_
                  refine pw_iconst (v := 1) C dX4_findsPart_188 (by decide) ?_
                  refine pw_iload C dX4_findsPart_189 2 rfl ?_
                  refine pw_ishl C dX4_findsPart_191 ?_
                  refine pw_ior C dX4_findsPart_192 ?_
                  refine pw_goto (tgt := 197) C dX4_findsPart_193 (by decide) ?_
                  exact hJ (((1 : Int32) <<< ((σ.1 (b1 + 4) v5.toNatClampNeg) &&& 31)) ||| ((1 : Int32) <<< ((σ.1 (b1 + 5) v5.toNatClampNeg) &&& 31))) (if_neg q8)
                · refine pw_iload C dX4_findsPart_179 0 rfl ?_
                  refine pw_z_eq (tgt := 196) C dX4_findsPart_181 (by decide) (fun q9 => ?_) (fun q9 => ?_)
                  · refine pw_iconst (v := 0) C dX4_findsPart_196 (by decide) ?_
                    exact hJ 0 ((if_pos q8).trans (if_pos q9))
                  · refine pw_iconst (v := 1) C dX4_findsPart_184 (by decide) ?_
                    refine pw_iload C dX4_findsPart_185 3 rfl ?_
                    refine pw_ishl C dX4_findsPart_187 ?_
                    refine pw_iconst (v := 1) C dX4_findsPart_188 (by decide) ?_
                    refine pw_iload C dX4_findsPart_189 2 rfl ?_
                    refine pw_ishl C dX4_findsPart_191 ?_
                    refine pw_ior C dX4_findsPart_192 ?_
                    refine pw_goto (tgt := 197) C dX4_findsPart_193 (by decide) ?_
                    exact hJ (((1 : Int32) <<< ((σ.1 (b1 + 4) v5.toNatClampNeg) &&& 31)) ||| ((1 : Int32) <<< ((σ.1 (b1 + 5) v5.toNatClampNeg) &&& 31))) ((if_pos q8).trans (if_neg q9))
              · replace h := h.2 q
                refine pw_iconst (v := 0) C dX4_findsPart_171 (by decide) ?_
                exact pw_zret (b := false) C hT dX4_findsPart_172 h
        · replace h := h.2 q
          refine pw_iload C dX4_findsPart_90 0 rfl ?_
          refine pw_z_ne (tgt := 129) C dX4_findsPart_92 (by decide) (fun q => ?_) (fun q => ?_)
          · replace h := h.1 q
            refine pw_iload C dX4_findsPart_129 0 rfl ?_
            refine pw_z_eq (tgt := 173) C dX4_findsPart_131 (by decide) (fun q => ?_) (fun q => ?_)
            · replace h := h.1 q
              refine pw_iload_n C dX4_findsPart_173 rfl 7 rfl ?_
              refine pw_iload C dX4_findsPart_174 1 rfl ?_
              have hJ : ∀ w0 : Int32, (if (if ((v3 >>> ((σ.1 (b1 + 4) v5.toNatClampNeg) &&& 31)) &&& 1) = 0 then false else true : Bool) = false then (if (if ((v3 >>> ((σ.1 (b1 + 5) v5.toNatClampNeg) &&& 31)) &&& 1) = 0 then false else true : Bool) = false then 0 else ((1 : Int32) <<< ((σ.1 (b1 + 4) v5.toNatClampNeg) &&& 31)) ||| ((1 : Int32) <<< ((σ.1 (b1 + 5) v5.toNatClampNeg) &&& 31)) : Int32) else ((1 : Int32) <<< ((σ.1 (b1 + 4) v5.toNatClampNeg) &&& 31)) ||| ((1 : Int32) <<< ((σ.1 (b1 + 5) v5.toNatClampNeg) &&& 31)) : Int32) = w0 → PW x G 10 197 [(9, .int (gz (if ((v3 >>> ((σ.1 (b1 + 5) v5.toNatClampNeg) &&& 31)) &&& 1) = 0 then false else true : Bool))), (8, .int (gz (if ((v3 >>> ((σ.1 (b1 + 4) v5.toNatClampNeg) &&& 31)) &&& 1) = 0 then false else true : Bool))), (7, .int (σ.1 (b1 + 5) v5.toNatClampNeg)), (6, .int (σ.1 (b1 + 4) v5.toNatClampNeg)), (0, .ref (G.1 + r)), (1, .ref (G.1 + b1)), (2, .int v2), (3, .int v3), (4, .int v4), (5, .int v5)] [.int w0, .int v3] σ := by
                rintro _ rfl
                refine pw_ior C dX4_findsPart_197 ?_
                refine pw_istore_n C dX4_findsPart_198 rfl (by decide) rfl ?_
                refine pw_iinc (v := (v5 + 1)) (j := 9) C dX4_findsPart_199 rfl rfl (by decide) rfl ?_
                refine pw_goto (tgt := 26) C dX4_findsPart_202 (by decide) ?_
                exact pw_sub [6, 7, 8, 1, 9, 0] rfl h
              clear h
              refine pw_z_ne (tgt := 184) C dX4_findsPart_176 (by decide) (fun q7 => ?_) (fun q7 => ?_)
              · refine pw_iconst (v := 1) C dX4_findsPart_184 (by decide) ?_
                refine pw_iload C dX4_findsPart_185 3 rfl ?_
                refine pw_ishl C dX4_findsPart_187 ?_
                refine pw_iconst (v := 1) C dX4_findsPart_188 (by decide) ?_
                refine pw_iload C dX4_findsPart_189 2 rfl ?_
                refine pw_ishl C dX4_findsPart_191 ?_
                refine pw_ior C dX4_findsPart_192 ?_
                refine pw_goto (tgt := 197) C dX4_findsPart_193 (by decide) ?_
                exact hJ (((1 : Int32) <<< ((σ.1 (b1 + 4) v5.toNatClampNeg) &&& 31)) ||| ((1 : Int32) <<< ((σ.1 (b1 + 5) v5.toNatClampNeg) &&& 31))) (if_neg q7)
              · refine pw_iload C dX4_findsPart_179 0 rfl ?_
                refine pw_z_eq (tgt := 196) C dX4_findsPart_181 (by decide) (fun q8 => ?_) (fun q8 => ?_)
                · refine pw_iconst (v := 0) C dX4_findsPart_196 (by decide) ?_
                  exact hJ 0 ((if_pos q7).trans (if_pos q8))
                · refine pw_iconst (v := 1) C dX4_findsPart_184 (by decide) ?_
                  refine pw_iload C dX4_findsPart_185 3 rfl ?_
                  refine pw_ishl C dX4_findsPart_187 ?_
                  refine pw_iconst (v := 1) C dX4_findsPart_188 (by decide) ?_
                  refine pw_iload C dX4_findsPart_189 2 rfl ?_
                  refine pw_ishl C dX4_findsPart_191 ?_
                  refine pw_ior C dX4_findsPart_192 ?_
                  refine pw_goto (tgt := 197) C dX4_findsPart_193 (by decide) ?_
                  exact hJ (((1 : Int32) <<< ((σ.1 (b1 + 4) v5.toNatClampNeg) &&& 31)) ||| ((1 : Int32) <<< ((σ.1 (b1 + 5) v5.toNatClampNeg) &&& 31))) ((if_pos q7).trans (if_neg q8))
            · replace h := h.2 q
              refine pw_iload C dX4_findsPart_134 1 rfl ?_
              refine pw_z_ne (tgt := 173) C dX4_findsPart_136 (by decide) (fun q => ?_) (fun q => ?_)
              · replace h := h.1 q
                refine pw_iload_n C dX4_findsPart_173 rfl 7 rfl ?_
                refine pw_iload C dX4_findsPart_174 1 rfl ?_
                have hJ : ∀ w0 : Int32, (if (if ((v3 >>> ((σ.1 (b1 + 4) v5.toNatClampNeg) &&& 31)) &&& 1) = 0 then false else true : Bool) = false then (if (if ((v3 >>> ((σ.1 (b1 + 5) v5.toNatClampNeg) &&& 31)) &&& 1) = 0 then false else true : Bool) = false then 0 else ((1 : Int32) <<< ((σ.1 (b1 + 4) v5.toNatClampNeg) &&& 31)) ||| ((1 : Int32) <<< ((σ.1 (b1 + 5) v5.toNatClampNeg) &&& 31)) : Int32) else ((1 : Int32) <<< ((σ.1 (b1 + 4) v5.toNatClampNeg) &&& 31)) ||| ((1 : Int32) <<< ((σ.1 (b1 + 5) v5.toNatClampNeg) &&& 31)) : Int32) = w0 → PW x G 10 197 [(9, .int (gz (if ((v3 >>> ((σ.1 (b1 + 5) v5.toNatClampNeg) &&& 31)) &&& 1) = 0 then false else true : Bool))), (8, .int (gz (if ((v3 >>> ((σ.1 (b1 + 4) v5.toNatClampNeg) &&& 31)) &&& 1) = 0 then false else true : Bool))), (7, .int (σ.1 (b1 + 5) v5.toNatClampNeg)), (6, .int (σ.1 (b1 + 4) v5.toNatClampNeg)), (0, .ref (G.1 + r)), (1, .ref (G.1 + b1)), (2, .int v2), (3, .int v3), (4, .int v4), (5, .int v5)] [.int w0, .int v3] σ := by
                  rintro _ rfl
                  refine pw_ior C dX4_findsPart_197 ?_
                  refine pw_istore_n C dX4_findsPart_198 rfl (by decide) rfl ?_
                  refine pw_iinc (v := (v5 + 1)) (j := 9) C dX4_findsPart_199 rfl rfl (by decide) rfl ?_
                  refine pw_goto (tgt := 26) C dX4_findsPart_202 (by decide) ?_
                  exact pw_sub [6, 7, 8, 1, 9, 0] rfl h
                clear h
                refine pw_z_ne (tgt := 184) C dX4_findsPart_176 (by decide) (fun q8 => ?_) (fun q8 => ?_)
                · refine pw_iconst (v := 1) C dX4_findsPart_184 (by decide) ?_
                  refine pw_iload C dX4_findsPart_185 3 rfl ?_
                  refine pw_ishl C dX4_findsPart_187 ?_
                  refine pw_iconst (v := 1) C dX4_findsPart_188 (by decide) ?_
                  refine pw_iload C dX4_findsPart_189 2 rfl ?_
                  refine pw_ishl C dX4_findsPart_191 ?_
                  refine pw_ior C dX4_findsPart_192 ?_
                  refine pw_goto (tgt := 197) C dX4_findsPart_193 (by decide) ?_
                  exact hJ (((1 : Int32) <<< ((σ.1 (b1 + 4) v5.toNatClampNeg) &&& 31)) ||| ((1 : Int32) <<< ((σ.1 (b1 + 5) v5.toNatClampNeg) &&& 31))) (if_neg q8)
                · refine pw_iload C dX4_findsPart_179 0 rfl ?_
                  refine pw_z_eq (tgt := 196) C dX4_findsPart_181 (by decide) (fun q9 => ?_) (fun q9 => ?_)
                  · refine pw_iconst (v := 0) C dX4_findsPart_196 (by decide) ?_
                    exact hJ 0 ((if_pos q8).trans (if_pos q9))
                  · refine pw_iconst (v := 1) C dX4_findsPart_184 (by decide) ?_
                    refine pw_iload C dX4_findsPart_185 3 rfl ?_
                    refine pw_ishl C dX4_findsPart_187 ?_
                    refine pw_iconst (v := 1) C dX4_findsPart_188 (by decide) ?_
                    refine pw_iload C dX4_findsPart_189 2 rfl ?_
                    refine pw_ishl C dX4_findsPart_191 ?_
                    refine pw_ior C dX4_findsPart_192 ?_
                    refine pw_goto (tgt := 197) C dX4_findsPart_193 (by decide) ?_
                    exact hJ (((1 : Int32) <<< ((σ.1 (b1 + 4) v5.toNatClampNeg) &&& 31)) ||| ((1 : Int32) <<< ((σ.1 (b1 + 5) v5.toNatClampNeg) &&& 31))) ((if_pos q8).trans (if_neg q9))
              · replace h := h.2 q
                refine pw_aload_n C dX4_findsPart_139 rfl 4 rfl ?_
                refine pw_iload_n C dX4_findsPart_140 rfl 7 rfl ?_
                refine pw_iload C dX4_findsPart_141 3 rfl ?_
                refine pw_aload_n C dX4_findsPart_143 rfl 4 rfl ?_
                refine pw_getr C dX4_findsPart_144 gf_RX4_9 (gw_r0 hr) hr.2.1 rfl ?_
                refine pw_iload C dX4_findsPart_147 2 rfl ?_
                obtain ⟨g6, h⟩ := h
                refine pw_iald C dX4_findsPart_149 (gw_r1 hr) hr.2.2 g6 ?_
                refine pw_aload_n C dX4_findsPart_150 rfl 5 rfl ?_
                refine pw_getrN C dX4_findsPart_151 gf_RX4_38 (gw_p0 hb1) hb1.2.1 rfl ?_
                refine pw_iload C dX4_findsPart_154 9 rfl ?_
                refine pw_iald C dX4_findsPart_156 (gw_pn hb1 7 (by decide)) hb1.2.2.2.2.2.2.2.2.1 g1 ?_
                refine pw_imul C dX4_findsPart_157 ?_
                refine pw_aload_n C dX4_findsPart_158 rfl 5 rfl ?_
                refine pw_getrN C dX4_findsPart_159 gf_RX4_32 (gw_p0 hb1) hb1.2.1 rfl ?_
                refine pw_iload C dX4_findsPart_162 9 rfl ?_
                refine pw_iald C dX4_findsPart_164 (gw_pn hb1 6 (by decide)) hb1.2.2.2.2.2.2.2.1 g1 ?_
                obtain ⟨Φ7, hM, h⟩ := h
                refine pw_callV C dX4_findsPart_165 hM gm_X4_joins gl_RX4_41 rfl hR (by decide) (by decide) (by decide) rfl (gw_r0 hr) hr.2.1 rfl (Nat.le_of_ble_eq_true rfl) ?_
                rintro _ τ8 ⟨r9, rfl, hv⟩
                replace h := h r9 τ8 hv
                show PW x G 10 168 [(9, .int (gz (if ((v3 >>> ((σ.1 (b1 + 5) v5.toNatClampNeg) &&& 31)) &&& 1) = 0 then false else true : Bool))), (8, .int (gz (if ((v3 >>> ((σ.1 (b1 + 4) v5.toNatClampNeg) &&& 31)) &&& 1) = 0 then false else true : Bool))), (7, .int (σ.1 (b1 + 5) v5.toNatClampNeg)), (6, .int (σ.1 (b1 + 4) v5.toNatClampNeg)), (0, .ref (G.1 + r)), (1, .ref (G.1 + b1)), (2, .int v2), (3, .int v3), (4, .int v4), (5, .int v5)] [.int (gz r9)] τ8
                refine pw_z_ne (tgt := 173) C dX4_findsPart_168 (by decide) (fun q => ?_) (fun q => ?_)
                · replace h := h.1 q
                  refine pw_iload_n C dX4_findsPart_173 rfl 7 rfl ?_
                  refine pw_iload C dX4_findsPart_174 1 rfl ?_
                  have hJ : ∀ w0 : Int32, (if (if ((v3 >>> ((σ.1 (b1 + 4) v5.toNatClampNeg) &&& 31)) &&& 1) = 0 then false else true : Bool) = false then (if (if ((v3 >>> ((σ.1 (b1 + 5) v5.toNatClampNeg) &&& 31)) &&& 1) = 0 then false else true : Bool) = false then 0 else ((1 : Int32) <<< ((σ.1 (b1 + 4) v5.toNatClampNeg) &&& 31)) ||| ((1 : Int32) <<< ((σ.1 (b1 + 5) v5.toNatClampNeg) &&& 31)) : Int32) else ((1 : Int32) <<< ((σ.1 (b1 + 4) v5.toNatClampNeg) &&& 31)) ||| ((1 : Int32) <<< ((σ.1 (b1 + 5) v5.toNatClampNeg) &&& 31)) : Int32) = w0 → PW x G 10 197 [(9, .int (gz (if ((v3 >>> ((σ.1 (b1 + 5) v5.toNatClampNeg) &&& 31)) &&& 1) = 0 then false else true : Bool))), (8, .int (gz (if ((v3 >>> ((σ.1 (b1 + 4) v5.toNatClampNeg) &&& 31)) &&& 1) = 0 then false else true : Bool))), (7, .int (σ.1 (b1 + 5) v5.toNatClampNeg)), (6, .int (σ.1 (b1 + 4) v5.toNatClampNeg)), (0, .ref (G.1 + r)), (1, .ref (G.1 + b1)), (2, .int v2), (3, .int v3), (4, .int v4), (5, .int v5)] [.int w0, .int v3] τ8 := by
                    rintro _ rfl
                    refine pw_ior C dX4_findsPart_197 ?_
                    refine pw_istore_n C dX4_findsPart_198 rfl (by decide) rfl ?_
                    refine pw_iinc (v := (v5 + 1)) (j := 9) C dX4_findsPart_199 rfl rfl (by decide) rfl ?_
                    refine pw_goto (tgt := 26) C dX4_findsPart_202 (by decide) ?_
                    exact pw_sub [6, 7, 8, 1, 9, 0] rfl h
                  clear h
                  refine pw_z_ne (tgt := 184) C dX4_findsPart_176 (by decide) (fun q9 => ?_) (fun q9 => ?_)
                  · refine pw_iconst (v := 1) C dX4_findsPart_184 (by decide) ?_
                    refine pw_iload C dX4_findsPart_185 3 rfl ?_
                    refine pw_ishl C dX4_findsPart_187 ?_
                    refine pw_iconst (v := 1) C dX4_findsPart_188 (by decide) ?_
                    refine pw_iload C dX4_findsPart_189 2 rfl ?_
                    refine pw_ishl C dX4_findsPart_191 ?_
                    refine pw_ior C dX4_findsPart_192 ?_
                    refine pw_goto (tgt := 197) C dX4_findsPart_193 (by decide) ?_
                    exact hJ (((1 : Int32) <<< ((σ.1 (b1 + 4) v5.toNatClampNeg) &&& 31)) ||| ((1 : Int32) <<< ((σ.1 (b1 + 5) v5.toNatClampNeg) &&& 31))) (if_neg q9)
                  · refine pw_iload C dX4_findsPart_179 0 rfl ?_
                    refine pw_z_eq (tgt := 196) C dX4_findsPart_181 (by decide) (fun q10 => ?_) (fun q10 => ?_)
                    · refine pw_iconst (v := 0) C dX4_findsPart_196 (by decide) ?_
                      exact hJ 0 ((if_pos q9).trans (if_pos q10))
                    · refine pw_iconst (v := 1) C dX4_findsPart_184 (by decide) ?_
                      refine pw_iload C dX4_findsPart_185 3 rfl ?_
                      refine pw_ishl C dX4_findsPart_187 ?_
                      refine pw_iconst (v := 1) C dX4_findsPart_188 (by decide) ?_
                      refine pw_iload C dX4_findsPart_189 2 rfl ?_
                      refine pw_ishl C dX4_findsPart_191 ?_
                      refine pw_ior C dX4_findsPart_192 ?_
                      refine pw_goto (tgt := 197) C dX4_findsPart_193 (by decide) ?_
                      exact hJ (((1 : Int32) <<< ((σ.1 (b1 + 4) v5.toNatClampNeg) &&& 31)) ||| ((1 : Int32) <<< ((σ.1 (b1 + 5) v5.toNatClampNeg) &&& 31))) ((if_pos q9).trans (if_neg q10))
                · replace h := h.2 q
                  refine pw_iconst (v := 0) C dX4_findsPart_171 (by decide) ?_
                  exact pw_zret (b := false) C hT dX4_findsPart_172 h
          · replace h := h.2 q
            refine pw_aload_n C dX4_findsPart_95 rfl 4 rfl ?_
            refine pw_iload_n C dX4_findsPart_96 rfl 7 rfl ?_
            refine pw_iload C dX4_findsPart_97 2 rfl ?_
            refine pw_aload_n C dX4_findsPart_99 rfl 4 rfl ?_
            refine pw_getr C dX4_findsPart_100 gf_RX4_9 (gw_r0 hr) hr.2.1 rfl ?_
            refine pw_iload C dX4_findsPart_103 3 rfl ?_
            obtain ⟨g10, h⟩ := h
            refine pw_iald C dX4_findsPart_105 (gw_r1 hr) hr.2.2 g10 ?_
            refine pw_aload_n C dX4_findsPart_106 rfl 5 rfl ?_
            refine pw_getrN C dX4_findsPart_107 gf_RX4_32 (gw_p0 hb1) hb1.2.1 rfl ?_
            refine pw_iload C dX4_findsPart_110 9 rfl ?_
            refine pw_iald C dX4_findsPart_112 (gw_pn hb1 6 (by decide)) hb1.2.2.2.2.2.2.2.1 g1 ?_
            refine pw_imul C dX4_findsPart_113 ?_
            refine pw_aload_n C dX4_findsPart_114 rfl 5 rfl ?_
            refine pw_getrN C dX4_findsPart_115 gf_RX4_38 (gw_p0 hb1) hb1.2.1 rfl ?_
            refine pw_iload C dX4_findsPart_118 9 rfl ?_
            refine pw_iald C dX4_findsPart_120 (gw_pn hb1 7 (by decide)) hb1.2.2.2.2.2.2.2.2.1 g1 ?_
            obtain ⟨Φ11, hM, h⟩ := h
            refine pw_callV C dX4_findsPart_121 hM gm_X4_joins gl_RX4_41 rfl hR (by decide) (by decide) (by decide) rfl (gw_r0 hr) hr.2.1 rfl (Nat.le_of_ble_eq_true rfl) ?_
            rintro _ τ12 ⟨r13, rfl, hv⟩
            replace h := h r13 τ12 hv
            show PW x G 10 124 [(9, .int (gz (if ((v3 >>> ((σ.1 (b1 + 5) v5.toNatClampNeg) &&& 31)) &&& 1) = 0 then false else true : Bool))), (8, .int (gz (if ((v3 >>> ((σ.1 (b1 + 4) v5.toNatClampNeg) &&& 31)) &&& 1) = 0 then false else true : Bool))), (7, .int (σ.1 (b1 + 5) v5.toNatClampNeg)), (6, .int (σ.1 (b1 + 4) v5.toNatClampNeg)), (0, .ref (G.1 + r)), (1, .ref (G.1 + b1)), (2, .int v2), (3, .int v3), (4, .int v4), (5, .int v5)] [.int (gz r13)] τ12
            refine pw_z_ne (tgt := 129) C dX4_findsPart_124 (by decide) (fun q => ?_) (fun q => ?_)
            · replace h := h.1 q
              refine pw_iload C dX4_findsPart_129 0 rfl ?_
              refine pw_z_eq (tgt := 173) C dX4_findsPart_131 (by decide) (fun q => ?_) (fun q => ?_)
              · replace h := h.1 q
                refine pw_iload_n C dX4_findsPart_173 rfl 7 rfl ?_
                refine pw_iload C dX4_findsPart_174 1 rfl ?_
                have hJ : ∀ w0 : Int32, (if (if ((v3 >>> ((σ.1 (b1 + 4) v5.toNatClampNeg) &&& 31)) &&& 1) = 0 then false else true : Bool) = false then (if (if ((v3 >>> ((σ.1 (b1 + 5) v5.toNatClampNeg) &&& 31)) &&& 1) = 0 then false else true : Bool) = false then 0 else ((1 : Int32) <<< ((σ.1 (b1 + 4) v5.toNatClampNeg) &&& 31)) ||| ((1 : Int32) <<< ((σ.1 (b1 + 5) v5.toNatClampNeg) &&& 31)) : Int32) else ((1 : Int32) <<< ((σ.1 (b1 + 4) v5.toNatClampNeg) &&& 31)) ||| ((1 : Int32) <<< ((σ.1 (b1 + 5) v5.toNatClampNeg) &&& 31)) : Int32) = w0 → PW x G 10 197 [(9, .int (gz (if ((v3 >>> ((σ.1 (b1 + 5) v5.toNatClampNeg) &&& 31)) &&& 1) = 0 then false else true : Bool))), (8, .int (gz (if ((v3 >>> ((σ.1 (b1 + 4) v5.toNatClampNeg) &&& 31)) &&& 1) = 0 then false else true : Bool))), (7, .int (σ.1 (b1 + 5) v5.toNatClampNeg)), (6, .int (σ.1 (b1 + 4) v5.toNatClampNeg)), (0, .ref (G.1 + r)), (1, .ref (G.1 + b1)), (2, .int v2), (3, .int v3), (4, .int v4), (5, .int v5)] [.int w0, .int v3] τ12 := by
                  rintro _ rfl
                  refine pw_ior C dX4_findsPart_197 ?_
                  refine pw_istore_n C dX4_findsPart_198 rfl (by decide) rfl ?_
                  refine pw_iinc (v := (v5 + 1)) (j := 9) C dX4_findsPart_199 rfl rfl (by decide) rfl ?_
                  refine pw_goto (tgt := 26) C dX4_findsPart_202 (by decide) ?_
                  exact pw_sub [6, 7, 8, 1, 9, 0] rfl h
                clear h
                refine pw_z_ne (tgt := 184) C dX4_findsPart_176 (by decide) (fun q8 => ?_) (fun q8 => ?_)
                · refine pw_iconst (v := 1) C dX4_findsPart_184 (by decide) ?_
                  refine pw_iload C dX4_findsPart_185 3 rfl ?_
                  refine pw_ishl C dX4_findsPart_187 ?_
                  refine pw_iconst (v := 1) C dX4_findsPart_188 (by decide) ?_
                  refine pw_iload C dX4_findsPart_189 2 rfl ?_
                  refine pw_ishl C dX4_findsPart_191 ?_
                  refine pw_ior C dX4_findsPart_192 ?_
                  refine pw_goto (tgt := 197) C dX4_findsPart_193 (by decide) ?_
                  exact hJ (((1 : Int32) <<< ((σ.1 (b1 + 4) v5.toNatClampNeg) &&& 31)) ||| ((1 : Int32) <<< ((σ.1 (b1 + 5) v5.toNatClampNeg) &&& 31))) (if_neg q8)
                · refine pw_iload C dX4_findsPart_179 0 rfl ?_
                  refine pw_z_eq (tgt := 196) C dX4_findsPart_181 (by decide) (fun q9 => ?_) (fun q9 => ?_)
                  · refine pw_iconst (v := 0) C dX4_findsPart_196 (by decide) ?_
                    exact hJ 0 ((if_pos q8).trans (if_pos q9))
                  · refine pw_iconst (v := 1) C dX4_findsPart_184 (by decide) ?_
                    refine pw_iload C dX4_findsPart_185 3 rfl ?_
                    refine pw_ishl C dX4_findsPart_187 ?_
                    refine pw_iconst (v := 1) C dX4_findsPart_188 (by decide) ?_
                    refine pw_iload C dX4_findsPart_189 2 rfl ?_
                    refine pw_ishl C dX4_findsPart_191 ?_
                    refine pw_ior C dX4_findsPart_192 ?_
                    refine pw_goto (tgt := 197) C dX4_findsPart_193 (by decide) ?_
                    exact hJ (((1 : Int32) <<< ((σ.1 (b1 + 4) v5.toNatClampNeg) &&& 31)) ||| ((1 : Int32) <<< ((σ.1 (b1 + 5) v5.toNatClampNeg) &&& 31))) ((if_pos q8).trans (if_neg q9))
              · replace h := h.2 q
                refine pw_iload C dX4_findsPart_134 1 rfl ?_
                refine pw_z_ne (tgt := 173) C dX4_findsPart_136 (by decide) (fun q => ?_) (fun q => ?_)
                · replace h := h.1 q
                  refine pw_iload_n C dX4_findsPart_173 rfl 7 rfl ?_
                  refine pw_iload C dX4_findsPart_174 1 rfl ?_
                  have hJ : ∀ w0 : Int32, (if (if ((v3 >>> ((σ.1 (b1 + 4) v5.toNatClampNeg) &&& 31)) &&& 1) = 0 then false else true : Bool) = false then (if (if ((v3 >>> ((σ.1 (b1 + 5) v5.toNatClampNeg) &&& 31)) &&& 1) = 0 then false else true : Bool) = false then 0 else ((1 : Int32) <<< ((σ.1 (b1 + 4) v5.toNatClampNeg) &&& 31)) ||| ((1 : Int32) <<< ((σ.1 (b1 + 5) v5.toNatClampNeg) &&& 31)) : Int32) else ((1 : Int32) <<< ((σ.1 (b1 + 4) v5.toNatClampNeg) &&& 31)) ||| ((1 : Int32) <<< ((σ.1 (b1 + 5) v5.toNatClampNeg) &&& 31)) : Int32) = w0 → PW x G 10 197 [(9, .int (gz (if ((v3 >>> ((σ.1 (b1 + 5) v5.toNatClampNeg) &&& 31)) &&& 1) = 0 then false else true : Bool))), (8, .int (gz (if ((v3 >>> ((σ.1 (b1 + 4) v5.toNatClampNeg) &&& 31)) &&& 1) = 0 then false else true : Bool))), (7, .int (σ.1 (b1 + 5) v5.toNatClampNeg)), (6, .int (σ.1 (b1 + 4) v5.toNatClampNeg)), (0, .ref (G.1 + r)), (1, .ref (G.1 + b1)), (2, .int v2), (3, .int v3), (4, .int v4), (5, .int v5)] [.int w0, .int v3] τ12 := by
                    rintro _ rfl
                    refine pw_ior C dX4_findsPart_197 ?_
                    refine pw_istore_n C dX4_findsPart_198 rfl (by decide) rfl ?_
                    refine pw_iinc (v := (v5 + 1)) (j := 9) C dX4_findsPart_199 rfl rfl (by decide) rfl ?_
                    refine pw_goto (tgt := 26) C dX4_findsPart_202 (by decide) ?_
                    exact pw_sub [6, 7, 8, 1, 9, 0] rfl h
                  clear h
                  refine pw_z_ne (tgt := 184) C dX4_findsPart_176 (by decide) (fun q9 => ?_) (fun q9 => ?_)
                  · refine pw_iconst (v := 1) C dX4_findsPart_184 (by decide) ?_
                    refine pw_iload C dX4_findsPart_185 3 rfl ?_
                    refine pw_ishl C dX4_findsPart_187 ?_
                    refine pw_iconst (v := 1) C dX4_findsPart_188 (by decide) ?_
                    refine pw_iload C dX4_findsPart_189 2 rfl ?_
                    refine pw_ishl C dX4_findsPart_191 ?_
                    refine pw_ior C dX4_findsPart_192 ?_
                    refine pw_goto (tgt := 197) C dX4_findsPart_193 (by decide) ?_
                    exact hJ (((1 : Int32) <<< ((σ.1 (b1 + 4) v5.toNatClampNeg) &&& 31)) ||| ((1 : Int32) <<< ((σ.1 (b1 + 5) v5.toNatClampNeg) &&& 31))) (if_neg q9)
                  · refine pw_iload C dX4_findsPart_179 0 rfl ?_
                    refine pw_z_eq (tgt := 196) C dX4_findsPart_181 (by decide) (fun q10 => ?_) (fun q10 => ?_)
                    · refine pw_iconst (v := 0) C dX4_findsPart_196 (by decide) ?_
                      exact hJ 0 ((if_pos q9).trans (if_pos q10))
                    · refine pw_iconst (v := 1) C dX4_findsPart_184 (by decide) ?_
                      refine pw_iload C dX4_findsPart_185 3 rfl ?_
                      refine pw_ishl C dX4_findsPart_187 ?_
                      refine pw_iconst (v := 1) C dX4_findsPart_188 (by decide) ?_
                      refine pw_iload C dX4_findsPart_189 2 rfl ?_
                      refine pw_ishl C dX4_findsPart_191 ?_
                      refine pw_ior C dX4_findsPart_192 ?_
                      refine pw_goto (tgt := 197) C dX4_findsPart_193 (by decide) ?_
                      exact hJ (((1 : Int32) <<< ((σ.1 (b1 + 4) v5.toNatClampNeg) &&& 31)) ||| ((1 : Int32) <<< ((σ.1 (b1 + 5) v5.toNatClampNeg) &&& 31))) ((if_pos q9).trans (if_neg q10))
                · replace h := h.2 q
                  refine pw_aload_n C dX4_findsPart_139 rfl 4 rfl ?_
                  refine pw_iload_n C dX4_findsPart_140 rfl 7 rfl ?_
                  refine pw_iload C dX4_findsPart_141 3 rfl ?_
                  refine pw_aload_n C dX4_findsPart_143 rfl 4 rfl ?_
                  refine pw_getr C dX4_findsPart_144 gf_RX4_9 (gw_r0 hr) hr.2.1 rfl ?_
                  refine pw_iload C dX4_findsPart_147 2 rfl ?_
                  obtain ⟨g14, h⟩ := h
                  refine pw_iald C dX4_findsPart_149 (gw_r1 hr) hr.2.2 g14 ?_
                  refine pw_aload_n C dX4_findsPart_150 rfl 5 rfl ?_
                  refine pw_getrN C dX4_findsPart_151 gf_RX4_38 (gw_p0 hb1) hb1.2.1 rfl ?_
                  refine pw_iload C dX4_findsPart_154 9 rfl ?_
                  refine pw_iald C dX4_findsPart_156 (gw_pn hb1 7 (by decide)) hb1.2.2.2.2.2.2.2.2.1 g1 ?_
                  refine pw_imul C dX4_findsPart_157 ?_
                  refine pw_aload_n C dX4_findsPart_158 rfl 5 rfl ?_
                  refine pw_getrN C dX4_findsPart_159 gf_RX4_32 (gw_p0 hb1) hb1.2.1 rfl ?_
                  refine pw_iload C dX4_findsPart_162 9 rfl ?_
                  refine pw_iald C dX4_findsPart_164 (gw_pn hb1 6 (by decide)) hb1.2.2.2.2.2.2.2.1 g1 ?_
                  obtain ⟨Φ15, hM, h⟩ := h
                  refine pw_callV C dX4_findsPart_165 hM gm_X4_joins gl_RX4_41 rfl hR (by decide) (by decide) (by decide) rfl (gw_r0 hr) hr.2.1 rfl (Nat.le_of_ble_eq_true rfl) ?_
                  rintro _ τ16 ⟨r17, rfl, hv⟩
                  replace h := h r17 τ16 hv
                  show PW x G 10 168 [(9, .int (gz (if ((v3 >>> ((σ.1 (b1 + 5) v5.toNatClampNeg) &&& 31)) &&& 1) = 0 then false else true : Bool))), (8, .int (gz (if ((v3 >>> ((σ.1 (b1 + 4) v5.toNatClampNeg) &&& 31)) &&& 1) = 0 then false else true : Bool))), (7, .int (σ.1 (b1 + 5) v5.toNatClampNeg)), (6, .int (σ.1 (b1 + 4) v5.toNatClampNeg)), (0, .ref (G.1 + r)), (1, .ref (G.1 + b1)), (2, .int v2), (3, .int v3), (4, .int v4), (5, .int v5)] [.int (gz r17)] τ16
                  refine pw_z_ne (tgt := 173) C dX4_findsPart_168 (by decide) (fun q => ?_) (fun q => ?_)
                  · replace h := h.1 q
                    refine pw_iload_n C dX4_findsPart_173 rfl 7 rfl ?_
                    refine pw_iload C dX4_findsPart_174 1 rfl ?_
                    have hJ : ∀ w0 : Int32, (if (if ((v3 >>> ((σ.1 (b1 + 4) v5.toNatClampNeg) &&& 31)) &&& 1) = 0 then false else true : Bool) = false then (if (if ((v3 >>> ((σ.1 (b1 + 5) v5.toNatClampNeg) &&& 31)) &&& 1) = 0 then false else true : Bool) = false then 0 else ((1 : Int32) <<< ((σ.1 (b1 + 4) v5.toNatClampNeg) &&& 31)) ||| ((1 : Int32) <<< ((σ.1 (b1 + 5) v5.toNatClampNeg) &&& 31)) : Int32) else ((1 : Int32) <<< ((σ.1 (b1 + 4) v5.toNatClampNeg) &&& 31)) ||| ((1 : Int32) <<< ((σ.1 (b1 + 5) v5.toNatClampNeg) &&& 31)) : Int32) = w0 → PW x G 10 197 [(9, .int (gz (if ((v3 >>> ((σ.1 (b1 + 5) v5.toNatClampNeg) &&& 31)) &&& 1) = 0 then false else true : Bool))), (8, .int (gz (if ((v3 >>> ((σ.1 (b1 + 4) v5.toNatClampNeg) &&& 31)) &&& 1) = 0 then false else true : Bool))), (7, .int (σ.1 (b1 + 5) v5.toNatClampNeg)), (6, .int (σ.1 (b1 + 4) v5.toNatClampNeg)), (0, .ref (G.1 + r)), (1, .ref (G.1 + b1)), (2, .int v2), (3, .int v3), (4, .int v4), (5, .int v5)] [.int w0, .int v3] τ16 := by
                      rintro _ rfl
                      refine pw_ior C dX4_findsPart_197 ?_
                      refine pw_istore_n C dX4_findsPart_198 rfl (by decide) rfl ?_
                      refine pw_iinc (v := (v5 + 1)) (j := 9) C dX4_findsPart_199 rfl rfl (by decide) rfl ?_
                      refine pw_goto (tgt := 26) C dX4_findsPart_202 (by decide) ?_
                      exact pw_sub [6, 7, 8, 1, 9, 0] rfl h
                    clear h
                    refine pw_z_ne (tgt := 184) C dX4_findsPart_176 (by decide) (fun q10 => ?_) (fun q10 => ?_)
                    · refine pw_iconst (v := 1) C dX4_findsPart_184 (by decide) ?_
                      refine pw_iload C dX4_findsPart_185 3 rfl ?_
                      refine pw_ishl C dX4_findsPart_187 ?_
                      refine pw_iconst (v := 1) C dX4_findsPart_188 (by decide) ?_
                      refine pw_iload C dX4_findsPart_189 2 rfl ?_
                      refine pw_ishl C dX4_findsPart_191 ?_
                      refine pw_ior C dX4_findsPart_192 ?_
                      refine pw_goto (tgt := 197) C dX4_findsPart_193 (by decide) ?_
                      exact hJ (((1 : Int32) <<< ((σ.1 (b1 + 4) v5.toNatClampNeg) &&& 31)) ||| ((1 : Int32) <<< ((σ.1 (b1 + 5) v5.toNatClampNeg) &&& 31))) (if_neg q10)
                    · refine pw_iload C dX4_findsPart_179 0 rfl ?_
                      refine pw_z_eq (tgt := 196) C dX4_findsPart_181 (by decide) (fun q11 => ?_) (fun q11 => ?_)
                      · refine pw_iconst (v := 0) C dX4_findsPart_196 (by decide) ?_
                        exact hJ 0 ((if_pos q10).trans (if_pos q11))
                      · refine pw_iconst (v := 1) C dX4_findsPart_184 (by decide) ?_
                        refine pw_iload C dX4_findsPart_185 3 rfl ?_
                        refine pw_ishl C dX4_findsPart_187 ?_
                        refine pw_iconst (v := 1) C dX4_findsPart_188 (by decide) ?_
                        refine pw_iload C dX4_findsPart_189 2 rfl ?_
                        refine pw_ishl C dX4_findsPart_191 ?_
                        refine pw_ior C dX4_findsPart_192 ?_
                        refine pw_goto (tgt := 197) C dX4_findsPart_193 (by decide) ?_
                        exact hJ (((1 : Int32) <<< ((σ.1 (b1 + 4) v5.toNatClampNeg) &&& 31)) ||| ((1 : Int32) <<< ((σ.1 (b1 + 5) v5.toNatClampNeg) &&& 31))) ((if_pos q10).trans (if_neg q11))
                  · replace h := h.2 q
                    refine pw_iconst (v := 0) C dX4_findsPart_171 (by decide) ?_
                    exact pw_zret (b := false) C hT dX4_findsPart_172 h
            · replace h := h.2 q
              refine pw_iconst (v := 0) C dX4_findsPart_127 (by decide) ?_
              exact pw_zret (b := false) C hT dX4_findsPart_128 h
      clear h
      refine pw_if_eq (tgt := 82) C dX4_findsPart_75 (by decide) (fun q3 => ?_) (fun q3 => ?_)
      · refine pw_iconst (v := 0) C dX4_findsPart_82 (by decide) ?_
        exact hJ false (if_pos q3)
      · refine pw_iconst (v := 1) C dX4_findsPart_78 (by decide) ?_
        refine pw_goto (tgt := 83) C dX4_findsPart_79 (by decide) ?_
        exact hJ true (if_neg q3)
    clear h
    refine pw_if_eq (tgt := 66) C dX4_findsPart_59 (by decide) (fun q2 => ?_) (fun q2 => ?_)
    · refine pw_iconst (v := 0) C dX4_findsPart_66 (by decide) ?_
      exact hJ false (if_pos q2)
    · refine pw_iconst (v := 1) C dX4_findsPart_62 (by decide) ?_
      refine pw_goto (tgt := 67) C dX4_findsPart_63 (by decide) ?_
      exact hJ true (if_neg q2)
set_option maxRecDepth 4000 in
theorem sg_X4_joins_0 {x : gw_X} {G : gw_G} {Φ : Bool → gw_S → Prop} (C : XC x G RX4 cX4_joins 7 (some .boolean)) (hR : gw_ok x 0) (hT : RT x G (fz Φ)) (r : Nat) (v1 : Int32) (v2 : Int32) (v3 : Int32) (v4 : Int32) (hr : gw_rates r) (σ : gw_S)
    (h : (1 ≤ v4 → PW x G 7 11 [(0, .ref (G.1 + r)), (1, .int v1), (2, .int v2), (3, .int v3), (4, .int v4), (5, .int 1)] [] σ) ∧ (¬ (1 ≤ v4) → Φ false σ)) : PW x G 7 0 [(0, .ref (G.1 + r)), (1, .int v1), (2, .int v2), (3, .int v3), (4, .int v4)] [] σ := by
  refine pw_iload C dX4_joins_0 4 rfl ?_
  refine pw_iconst (v := 1) C dX4_joins_2 (by decide) ?_
  refine pw_icmp_ge (tgt := 8) C dX4_joins_3 (by decide) (fun q => ?_) (fun q => ?_)
  · replace h := h.1 q
    refine pw_iconst (v := 1) C dX4_joins_8 (by decide) ?_
    refine pw_istore C dX4_joins_9 (by decide) rfl ?_
    exact pw_sub [1, 2, 3, 4, 5, 0] rfl h
  · replace h := h.2 q
    refine pw_iconst (v := 0) C dX4_joins_6 (by decide) ?_
    exact pw_zret (b := false) C hT dX4_joins_7 h
set_option maxRecDepth 4000 in
theorem sg_X4_joins_11 {x : gw_X} {G : gw_G} {Φ : Bool → gw_S → Prop} (C : XC x G RX4 cX4_joins 7 (some .boolean)) (hR : gw_ok x 0) (hT : RT x G (fz Φ)) (r : Nat) (hr : gw_rates r) (v1 : Int32) (v2 : Int32) (v3 : Int32) (v4 : Int32) (v5 : Int32) (σ : gw_S)
    (h : (v4 ≤ v5 → PW x G 7 37 [(0, .ref (G.1 + r)), (1, .int v1), (2, .int v2), (3, .int v3), (4, .int v4), (5, .int v5), (6, .int 0)] [] σ) ∧ (¬ (v4 ≤ v5) → ¬ v4 = 0 ∧ ((((v3 * v5) - (v3 * v5) / v4 * v4) = 0 → PW x G 7 37 [(0, .ref (G.1 + r)), (1, .int v1), (2, .int v2), (3, .int v3), (4, .int v4), (5, .int v5), (6, .int 0)] [] σ) ∧ (¬ (((v3 * v5) - (v3 * v5) / v4 * v4) = 0) → PW x G 7 11 [(0, .ref (G.1 + r)), (1, .int v1), (2, .int v2), (3, .int v3), (4, .int v4), (5, .int (v5 + 1))] [] σ)))) : PW x G 7 11 [(0, .ref (G.1 + r)), (1, .int v1), (2, .int v2), (3, .int v3), (4, .int v4), (5, .int v5)] [] σ := by
  refine pw_iload C dX4_joins_11 5 rfl ?_
  refine pw_iload C dX4_joins_13 4 rfl ?_
  refine pw_icmp_ge (tgt := 34) C dX4_joins_15 (by decide) (fun q => ?_) (fun q => ?_)
  · replace h := h.1 q
    refine pw_iconst (v := 0) C dX4_joins_34 (by decide) ?_
    refine pw_istore C dX4_joins_35 (by decide) rfl ?_
    exact pw_sub [1, 2, 3, 4, 5, 6, 0] rfl h
  · replace h := h.2 q
    refine pw_iload_n C dX4_joins_18 rfl 3 rfl ?_
    refine pw_iload C dX4_joins_19 5 rfl ?_
    refine pw_imul C dX4_joins_21 ?_
    refine pw_iload C dX4_joins_22 4 rfl ?_
    obtain ⟨g1, h⟩ := h
    refine pw_irem C dX4_joins_24 g1 ?_
    refine pw_if_eq (tgt := 34) C dX4_joins_25 (by decide) (fun q => ?_) (fun q => ?_)
    · replace h := h.1 q
      refine pw_iconst (v := 0) C dX4_joins_34 (by decide) ?_
      refine pw_istore C dX4_joins_35 (by decide) rfl ?_
      exact pw_sub [1, 2, 3, 4, 5, 6, 0] rfl h
    · replace h := h.2 q
      refine pw_iinc (v := (v5 + 1)) (j := 5) C dX4_joins_28 rfl rfl (by decide) rfl ?_
      refine pw_goto (tgt := 11) C dX4_joins_31 (by decide) ?_
      exact pw_sub [1, 2, 3, 4, 5, 0] rfl h
set_option maxRecDepth 4000 in
theorem sg_X4_joins_37 {x : gw_X} {G : gw_G} {Φ : Bool → gw_S → Prop} (C : XC x G RX4 cX4_joins 7 (some .boolean)) (hR : gw_ok x 0) (hT : RT x G (fz Φ)) (r : Nat) (hr : gw_rates r) (v1 : Int32) (v2 : Int32) (v3 : Int32) (v4 : Int32) (v5 : Int32) (v6 : Int32) (σ : gw_S)
    (h : ((σ.1 r 1) ≤ v6 → ¬ v4 = 0 ∧ (vp_in v2 8 ∧ (∀ τ3 : gw_S, τ3 = gw_u σ (r + 1) v2.toNatClampNeg ((v3 * v5) / v4) → (Φ (if 60 < (τ3.1 (r + 1) v2.toNatClampNeg) then false else true : Bool) τ3)))) ∧ (¬ ((σ.1 r 1) ≤ v6) → vp_in v6 8 ∧ (∀ τ5 : gw_S, τ5 = gw_u σ (r + 1) v6.toNatClampNeg ((σ.1 (r + 1) v6.toNatClampNeg) * (if ((v1 >>> (v6 &&& 31)) &&& 1) = 0 then 1 else v5 : Int32)) → (((τ5.1 (r + 1) v6.toNatClampNeg) ≤ 60 → PW x G 7 37 [(0, .ref (G.1 + r)), (1, .int v1), (2, .int v2), (3, .int v3), (4, .int v4), (5, .int v5), (6, .int (v6 + 1))] [] τ5) ∧ (¬ ((τ5.1 (r + 1) v6.toNatClampNeg) ≤ 60) → Φ false τ5))))) : PW x G 7 37 [(0, .ref (G.1 + r)), (1, .int v1), (2, .int v2), (3, .int v3), (4, .int v4), (5, .int v5), (6, .int v6)] [] σ := by
  refine pw_iload C dX4_joins_37 6 rfl ?_
  refine pw_aload_n C dX4_joins_39 rfl 0 rfl ?_
  refine pw_geti C dX4_joins_40 gf_RX4_21 (gw_r0 hr) hr.2.1 rfl ?_
  refine pw_icmp_ge (tgt := 91) C dX4_joins_43 (by decide) (fun q => ?_) (fun q => ?_)
  · replace h := h.1 q
    refine pw_aload_n C dX4_joins_91 rfl 0 rfl ?_
    refine pw_getr C dX4_joins_92 gf_RX4_9 (gw_r0 hr) hr.2.1 rfl ?_
    refine pw_iload_n C dX4_joins_95 rfl 2 rfl ?_
    refine pw_iload_n C dX4_joins_96 rfl 3 rfl ?_
    refine pw_iload C dX4_joins_97 5 rfl ?_
    refine pw_imul C dX4_joins_99 ?_
    refine pw_iload C dX4_joins_100 4 rfl ?_
    obtain ⟨g1, h⟩ := h
    refine pw_idiv C dX4_joins_102 g1 ?_
    obtain ⟨g2, h⟩ := h
    refine pw_iast C dX4_joins_103 (gw_r1 hr) hr.2.2 g2 ?_
    generalize hτ3 : gw_u σ (r + 1) v2.toNatClampNeg ((v3 * v5) / v4) = τ3
    replace h := h τ3 hτ3.symm
    show PW x G 7 104 [(0, .ref (G.1 + r)), (1, .int v1), (2, .int v2), (3, .int v3), (4, .int v4), (5, .int v5), (6, .int v6)] [] τ3
    refine pw_aload_n C dX4_joins_104 rfl 0 rfl ?_
    refine pw_getr C dX4_joins_105 gf_RX4_9 (gw_r0 hr) hr.2.1 rfl ?_
    refine pw_iload_n C dX4_joins_108 rfl 2 rfl ?_
    refine pw_iald C dX4_joins_109 (gw_r1 hr) hr.2.2 g2 ?_
    refine pw_bipush (v := 60) C dX4_joins_110 (by decide) ?_
    have hJ : ∀ w0 : Bool, (if 60 < (τ3.1 (r + 1) v2.toNatClampNeg) then false else true : Bool) = w0 → PW x G 7 120 [(0, .ref (G.1 + r)), (1, .int v1), (2, .int v2), (3, .int v3), (4, .int v4), (5, .int v5), (6, .int v6)] [.int (gz w0)] τ3 := by
      rintro _ rfl
      exact pw_zret (b := (if 60 < (τ3.1 (r + 1) v2.toNatClampNeg) then false else true : Bool)) C hT dX4_joins_120 h
    clear h
    refine pw_icmp_gt (tgt := 119) C dX4_joins_112 (by decide) (fun q2 => ?_) (fun q2 => ?_)
    · refine pw_iconst (v := 0) C dX4_joins_119 (by decide) ?_
      exact hJ false (if_pos q2)
    · refine pw_iconst (v := 1) C dX4_joins_115 (by decide) ?_
      refine pw_goto (tgt := 120) C dX4_joins_116 (by decide) ?_
      exact hJ true (if_neg q2)
  · replace h := h.2 q
    refine pw_aload_n C dX4_joins_46 rfl 0 rfl ?_
    refine pw_getr C dX4_joins_47 gf_RX4_9 (gw_r0 hr) hr.2.1 rfl ?_
    refine pw_iload C dX4_joins_50 6 rfl ?_
    refine pw_dup2 C dX4_joins_52 rfl rfl ?_
    obtain ⟨g4, h⟩ := h
    refine pw_iald C dX4_joins_53 (gw_r1 hr) hr.2.2 g4 ?_
    refine pw_iload_n C dX4_joins_54 rfl 1 rfl ?_
    refine pw_iload C dX4_joins_55 6 rfl ?_
    refine pw_ishr C dX4_joins_57 ?_
    refine pw_iconst (v := 1) C dX4_joins_58 (by decide) ?_
    refine pw_iand C dX4_joins_59 ?_
    have hJ : ∀ w0 : Int32, (if ((v1 >>> (v6 &&& 31)) &&& 1) = 0 then 1 else v5 : Int32) = w0 → PW x G 7 69 [(0, .ref (G.1 + r)), (1, .int v1), (2, .int v2), (3, .int v3), (4, .int v4), (5, .int v5), (6, .int v6)] [.int w0, .int (σ.1 (r + 1) v6.toNatClampNeg), .int v6, .ref (G.1 + (r + 1))] σ := by
      rintro _ rfl
      refine pw_imul C dX4_joins_69 ?_
      refine pw_iast C dX4_joins_70 (gw_r1 hr) hr.2.2 g4 ?_
      generalize hτ5 : gw_u σ (r + 1) v6.toNatClampNeg ((σ.1 (r + 1) v6.toNatClampNeg) * (if ((v1 >>> (v6 &&& 31)) &&& 1) = 0 then 1 else v5 : Int32)) = τ5
      replace h := h τ5 hτ5.symm
      show PW x G 7 71 [(0, .ref (G.1 + r)), (1, .int v1), (2, .int v2), (3, .int v3), (4, .int v4), (5, .int v5), (6, .int v6)] [] τ5
      refine pw_aload_n C dX4_joins_71 rfl 0 rfl ?_
      refine pw_getr C dX4_joins_72 gf_RX4_9 (gw_r0 hr) hr.2.1 rfl ?_
      refine pw_iload C dX4_joins_75 6 rfl ?_
      refine pw_iald C dX4_joins_77 (gw_r1 hr) hr.2.2 g4 ?_
      refine pw_bipush (v := 60) C dX4_joins_78 (by decide) ?_
      refine pw_icmp_le (tgt := 85) C dX4_joins_80 (by decide) (fun q => ?_) (fun q => ?_)
      · replace h := h.1 q
        refine pw_iinc (v := (v6 + 1)) (j := 6) C dX4_joins_85 rfl rfl (by decide) rfl ?_
        refine pw_goto (tgt := 37) C dX4_joins_88 (by decide) ?_
        exact pw_sub [1, 2, 3, 4, 5, 6, 0] rfl h
      · replace h := h.2 q
        refine pw_iconst (v := 0) C dX4_joins_83 (by decide) ?_
        exact pw_zret (b := false) C hT dX4_joins_84 h
    clear h
    refine pw_if_eq (tgt := 68) C dX4_joins_60 (by decide) (fun q2 => ?_) (fun q2 => ?_)
    · refine pw_iconst (v := 1) C dX4_joins_68 (by decide) ?_
      exact hJ 1 (if_pos q2)
    · refine pw_iload C dX4_joins_63 5 rfl ?_
      refine pw_goto (tgt := 69) C dX4_joins_65 (by decide) ?_
      exact hJ v5 (if_neg q2)
set_option maxRecDepth 4000 in
theorem sg_X5_add_0 {x : gw_X} {G : gw_G} {Φ : Int32 → gw_S → Prop} (C : XC x G RX5 cX5_add 2 (some .int)) (hR : gw_ok x 0) (hT : RT x G (fi Φ)) (v1 : Int32) (σ : gw_S)
    (h : (120 ≤ (σ.1 1 1) → Φ (σ.1 1 1) σ) ∧ (¬ (120 ≤ (σ.1 1 1)) → vp_nar .char v1 = v1 ∧ (vp_in (σ.1 1 1) 120 ∧ (∀ τ3 : gw_S, τ3 = gw_u σ 2 ((σ.1 1 1).toNatClampNeg) v1 → (∀ τ4 : gw_S, τ4 = gw_u τ3 1 1 ((τ3.1 1 1) + 1) → (Φ (τ4.1 1 1) τ4)))))) : PW x G 2 0 [(0, .ref (G.1 + 1)), (1, .int v1)] [] σ := by
  refine pw_aload_n C dX5_add_0 rfl 0 rfl ?_
  refine pw_geti C dX5_add_1 gf_RX5_15 gk_1.1 gk_1.2 rfl ?_
  refine pw_bipush (v := 120) C dX5_add_4 (by decide) ?_
  refine pw_icmp_ge (tgt := 29) C dX5_add_6 (by decide) (fun q => ?_) (fun q => ?_)
  · replace h := h.1 q
    refine pw_aload_n C dX5_add_29 rfl 0 rfl ?_
    refine pw_geti C dX5_add_30 gf_RX5_15 gk_1.1 gk_1.2 rfl ?_
    exact pw_iret C hT dX5_add_33 h
  · replace h := h.2 q
    refine pw_aload_n C dX5_add_9 rfl 0 rfl ?_
    refine pw_getr C dX5_add_10 gf_RX5_9 gk_1.1 gk_1.2 rfl ?_
    refine pw_aload_n C dX5_add_13 rfl 0 rfl ?_
    refine pw_geti C dX5_add_14 gf_RX5_15 gk_1.1 gk_1.2 rfl ?_
    refine pw_iload_n C dX5_add_17 rfl 1 rfl ?_
    obtain ⟨g1, h⟩ := h
    obtain ⟨g2, h⟩ := h
    refine pw_cast C dX5_add_18 gk_2.1 gk_2.2 g2 g1 ?_
    generalize hτ3 : gw_u σ 2 ((σ.1 1 1).toNatClampNeg) v1 = τ3
    replace h := h τ3 hτ3.symm
    show PW x G 2 19 [(0, .ref (G.1 + 1)), (1, .int v1)] [] τ3
    refine pw_aload_n C dX5_add_19 rfl 0 rfl ?_
    refine pw_dup C dX5_add_20 rfl ?_
    refine pw_geti C dX5_add_21 gf_RX5_15 gk_1.1 gk_1.2 rfl ?_
    refine pw_iconst (v := 1) C dX5_add_24 (by decide) ?_
    refine pw_iadd C dX5_add_25 ?_
    refine pw_puti C dX5_add_26 gf_RX5_15 rfl rfl rfl gk_1.1 gk_1.2 rfl ?_
    generalize hτ4 : gw_u τ3 1 1 ((τ3.1 1 1) + 1) = τ4
    replace h := h τ4 hτ4.symm
    show PW x G 2 29 [(0, .ref (G.1 + 1)), (1, .int v1)] [] τ4
    refine pw_aload_n C dX5_add_29 rfl 0 rfl ?_
    refine pw_geti C dX5_add_30 gf_RX5_15 gk_1.1 gk_1.2 rfl ?_
    exact pw_iret C hT dX5_add_33 h
set_option maxRecDepth 4000 in
theorem sg_X5_at_0 {x : gw_X} {G : gw_G} {Φ : Int32 → gw_S → Prop} (C : XC x G RX5 cX5_at 2 (some .char)) (hR : gw_ok x 0) (hT : RT x G (fi Φ)) (v1 : Int32) (σ : gw_S)
    (h : ((v1 < 0 → True) ∧ (¬ (v1 < 0) → ((v1 < (σ.1 1 1) → vp_in v1 120 ∧ (True)) ∧ (¬ (v1 < (σ.1 1 1)) → True)))) ∧ (narrow .char (.int (if v1 < 0 then 0 else (if v1 < (σ.1 1 1) then σ.1 2 v1.toNatClampNeg else 0 : Int32) : Int32)) = .int (if v1 < 0 then 0 else (if v1 < (σ.1 1 1) then σ.1 2 v1.toNatClampNeg else 0 : Int32) : Int32) ∧ Φ (if v1 < 0 then 0 else (if v1 < (σ.1 1 1) then σ.1 2 v1.toNatClampNeg else 0 : Int32) : Int32) σ)) : PW x G 2 0 [(0, .ref (G.1 + 1)), (1, .int v1)] [] σ := by
  refine pw_iload_n C dX5_at_0 rfl 1 rfl ?_
  obtain ⟨hs, h⟩ := h
  have hJ : ∀ w0 : Int32, (if v1 < 0 then 0 else (if v1 < (σ.1 1 1) then σ.1 2 v1.toNatClampNeg else 0 : Int32) : Int32) = w0 → PW x G 2 22 [(0, .ref (G.1 + 1)), (1, .int v1)] [.int w0] σ := by
    rintro _ rfl
    exact pw_cret C hT dX5_at_22 h.1 h.2
  clear h
  refine pw_if_lt (tgt := 12) C dX5_at_1 (by decide) (fun q1 => ?_) (fun q1 => ?_)
  · replace hs := hs.1 q1
    refine pw_iconst (v := 0) C dX5_at_12 (by decide) ?_
    refine pw_goto (tgt := 22) C dX5_at_13 (by decide) ?_
    exact hJ 0 (if_pos q1)
  · replace hs := hs.2 q1
    refine pw_iload_n C dX5_at_4 rfl 1 rfl ?_
    refine pw_aload_n C dX5_at_5 rfl 0 rfl ?_
    refine pw_geti C dX5_at_6 gf_RX5_15 gk_1.1 gk_1.2 rfl ?_
    refine pw_icmp_lt (tgt := 16) C dX5_at_9 (by decide) (fun q2 => ?_) (fun q2 => ?_)
    · replace hs := hs.1 q2
      refine pw_aload_n C dX5_at_16 rfl 0 rfl ?_
      refine pw_getr C dX5_at_17 gf_RX5_9 gk_1.1 gk_1.2 rfl ?_
      refine pw_iload_n C dX5_at_20 rfl 1 rfl ?_
      obtain ⟨g1, hs⟩ := hs
      refine pw_cald C dX5_at_21 gk_2.1 gk_2.2 g1 ?_
      exact hJ (σ.1 2 v1.toNatClampNeg) ((if_neg q1).trans (if_pos q2))
    · replace hs := hs.2 q2
      refine pw_iconst (v := 0) C dX5_at_12 (by decide) ?_
      refine pw_goto (tgt := 22) C dX5_at_13 (by decide) ?_
      exact hJ 0 ((if_neg q1).trans (if_neg q2))
set_option maxRecDepth 4000 in
theorem sg_X5_digit_0 {x : gw_X} {G : gw_G} {Φ : Int32 → gw_S → Prop} (C : XC x G RX5 cX5_digit 2 (some .int)) (hR : gw_ok x 1) (hT : RT x G (fi Φ)) (v1 : Int32) (σ : gw_S)
    (h : ∃ Φ1 : Int32 → gw_S → Prop, gw_M (xl x) G yX5_at cX5_at 2 (some .char) 0 [.ref (G.1 + 1), .int v1] σ (fi Φ1) ∧ ∀ (r3 : Int32) (τ2 : gw_S), Φ1 r3 τ2 → (Φ (r3 - 48) τ2)) : PW x G 2 0 [(0, .ref (G.1 + 1)), (1, .int v1)] [] σ := by
  refine pw_aload_n C dX5_digit_0 rfl 0 rfl ?_
  refine pw_iload_n C dX5_digit_1 rfl 1 rfl ?_
  obtain ⟨Φ1, hM, h⟩ := h
  refine pw_callV C dX5_digit_2 hM gm_X5_at gl_RX5_19 rfl hR (by decide) (by decide) (by decide) rfl gk_1.1 gk_1.2 rfl (Nat.le_of_ble_eq_true rfl) ?_
  rintro _ τ2 ⟨r3, rfl, hv⟩
  replace h := h r3 τ2 hv
  show PW x G 2 5 [(0, .ref (G.1 + 1)), (1, .int v1)] [.int r3] τ2
  refine pw_bipush (v := 48) C dX5_digit_5 (by decide) ?_
  refine pw_isub C dX5_digit_7 ?_
  exact pw_iret C hT dX5_digit_8 h
set_option maxRecDepth 4000 in
theorem sg_X5_firstError_0 {x : gw_X} {G : gw_G} {Φ : Int32 → gw_S → Prop} (C : XC x G RX5 cX5_firstError 3 (some .int)) (hR : gw_ok x 2) (hT : RT x G (fi Φ))  (σ : gw_S)
    (h : ∃ Φ1 : Int32 → gw_S → Prop, gw_M (xl x) G yX5_at cX5_at 2 (some .char) 0 [.ref (G.1 + 1), .int 0] σ (fi Φ1) ∧ ∀ (r3 : Int32) (τ2 : gw_S), Φ1 r3 τ2 → ((r3 = 77 → PW x G 3 14 [(0, .ref (G.1 + 1)), (1, .int 1)] [] τ2) ∧ (¬ (r3 = 77) → Φ 0 τ2))) : PW x G 3 0 [(0, .ref (G.1 + 1))] [] σ := by
  refine pw_aload_n C dX5_firstError_0 rfl 0 rfl ?_
  refine pw_iconst (v := 0) C dX5_firstError_1 (by decide) ?_
  obtain ⟨Φ1, hM, h⟩ := h
  refine pw_callV C dX5_firstError_2 hM gm_X5_at gl_RX5_19 rfl hR (by decide) (by decide) (by decide) rfl gk_1.1 gk_1.2 rfl (Nat.le_of_ble_eq_true rfl) ?_
  rintro _ τ2 ⟨r3, rfl, hv⟩
  replace h := h r3 τ2 hv
  show PW x G 3 5 [(0, .ref (G.1 + 1))] [.int r3] τ2
  refine pw_bipush (v := 77) C dX5_firstError_5 (by decide) ?_
  refine pw_icmp_eq (tgt := 12) C dX5_firstError_7 (by decide) (fun q => ?_) (fun q => ?_)
  · replace h := h.1 q
    refine pw_iconst (v := 1) C dX5_firstError_12 (by decide) ?_
    refine pw_istore_n C dX5_firstError_13 rfl (by decide) rfl ?_
    exact pw_sub [1, 0] rfl h
  · replace h := h.2 q
    refine pw_iconst (v := 0) C dX5_firstError_10 (by decide) ?_
    exact pw_iret C hT dX5_firstError_11 h
set_option maxRecDepth 4000 in
theorem sg_X5_firstError_14 {x : gw_X} {G : gw_G} {Φ : Int32 → gw_S → Prop} (C : XC x G RX5 cX5_firstError 3 (some .int)) (hR : gw_ok x 2) (hT : RT x G (fi Φ)) (v1 : Int32) (σ : gw_S)
    (h : ((σ.1 1 1) ≤ v1 → Φ (-1) σ) ∧ (¬ ((σ.1 1 1) ≤ v1) → ∃ Φ1 : Int32 → gw_S → Prop, gw_M (xl x) G yX5_errorOfCommand cX5_errorOfCommand 4 (some .int) 1 [.ref (G.1 + 1), .int v1] σ (fi Φ1) ∧ ∀ (r3 : Int32) (τ2 : gw_S), Φ1 r3 τ2 → ((r3 = (-1) → ∃ Φ4 : Int32 → gw_S → Prop, gw_M (xl x) G yX5_at cX5_at 2 (some .char) 0 [.ref (G.1 + 1), .int v1] τ2 (fi Φ4) ∧ ∀ (r6 : Int32) (τ5 : gw_S), Φ4 r6 τ5 → (∃ Φ7 : Int32 → gw_S → Prop, gw_M (xl x) G yX5_digitsOf cX5_digitsOf 1 (some .int) 0 [.int r6] τ5 (fi Φ7) ∧ ∀ (r9 : Int32) (τ8 : gw_S), Φ7 r9 τ8 → (PW x G 3 14 [(0, .ref (G.1 + 1)), (1, .int (v1 + (1 + r9)))] [] τ8))) ∧ (¬ (r3 = (-1)) → Φ r3 τ2)))) : PW x G 3 14 [(0, .ref (G.1 + 1)), (1, .int v1)] [] σ := by
  refine pw_iload_n C dX5_firstError_14 rfl 1 rfl ?_
  refine pw_aload_n C dX5_firstError_15 rfl 0 rfl ?_
  refine pw_geti C dX5_firstError_16 gf_RX5_15 gk_1.1 gk_1.2 rfl ?_
  refine pw_icmp_ge (tgt := 51) C dX5_firstError_19 (by decide) (fun q => ?_) (fun q => ?_)
  · replace h := h.1 q
    refine pw_iconst (v := (-1)) C dX5_firstError_51 (by decide) ?_
    exact pw_iret C hT dX5_firstError_52 h
  · replace h := h.2 q
    refine pw_aload_n C dX5_firstError_22 rfl 0 rfl ?_
    refine pw_iload_n C dX5_firstError_23 rfl 1 rfl ?_
    obtain ⟨Φ1, hM, h⟩ := h
    refine pw_callV C dX5_firstError_24 hM gm_X5_errorOfCommand gl_RX5_23 rfl hR (by decide) (by decide) (by decide) rfl gk_1.1 gk_1.2 rfl (Nat.le_of_ble_eq_true rfl) ?_
    rintro _ τ2 ⟨r3, rfl, hv⟩
    replace h := h r3 τ2 hv
    show PW x G 3 27 [(0, .ref (G.1 + 1)), (1, .int v1)] [.int r3] τ2
    refine pw_istore_n C dX5_firstError_27 rfl (by decide) rfl ?_
    refine pw_iload_n C dX5_firstError_28 rfl 0 rfl ?_
    refine pw_iconst (v := (-1)) C dX5_firstError_29 (by decide) ?_
    refine pw_icmp_eq (tgt := 35) C dX5_firstError_30 (by decide) (fun q => ?_) (fun q => ?_)
    · replace h := h.1 q
      refine pw_iload_n C dX5_firstError_35 rfl 2 rfl ?_
      refine pw_iconst (v := 1) C dX5_firstError_36 (by decide) ?_
      refine pw_aload_n C dX5_firstError_37 rfl 1 rfl ?_
      refine pw_iload_n C dX5_firstError_38 rfl 2 rfl ?_
      obtain ⟨Φ4, hM, h⟩ := h
      refine pw_callV C dX5_firstError_39 hM gm_X5_at gl_RX5_19 rfl hR (by decide) (by decide) (by decide) rfl gk_1.1 gk_1.2 rfl (Nat.le_of_ble_eq_true rfl) ?_
      rintro _ τ5 ⟨r6, rfl, hv⟩
      replace h := h r6 τ5 hv
      show PW x G 3 42 [(2, .int r3), (0, .ref (G.1 + 1)), (1, .int v1)] [.int r6, .int 1, .int v1] τ5
      obtain ⟨Φ7, hM, h⟩ := h
      refine pw_callS C dX5_firstError_42 hM gm_X5_digitsOf gl_RX5_27 rfl hR (by decide) (by decide) rfl (Nat.le_of_ble_eq_true rfl) ?_
      rintro _ τ8 ⟨r9, rfl, hv⟩
      replace h := h r9 τ8 hv
      show PW x G 3 45 [(2, .int r3), (0, .ref (G.1 + 1)), (1, .int v1)] [.int r9, .int 1, .int v1] τ8
      refine pw_iadd C dX5_firstError_45 ?_
      refine pw_iadd C dX5_firstError_46 ?_
      refine pw_istore_n C dX5_firstError_47 rfl (by decide) rfl ?_
      refine pw_goto (tgt := 14) C dX5_firstError_48 (by decide) ?_
      exact pw_sub [2, 0] rfl h
    · replace h := h.2 q
      refine pw_iload_n C dX5_firstError_33 rfl 0 rfl ?_
      exact pw_iret C hT dX5_firstError_34 h
set_option maxRecDepth 4000 in
theorem sg_X5_errorOfCommand_0 {x : gw_X} {G : gw_G} {Φ : Int32 → gw_S → Prop} (C : XC x G RX5 cX5_errorOfCommand 4 (some .int)) (hR : gw_ok x 1) (hT : RT x G (fi Φ)) (v1 : Int32) (σ : gw_S)
    (h : ∃ Φ1 : Int32 → gw_S → Prop, gw_M (xl x) G yX5_at cX5_at 2 (some .char) 0 [.ref (G.1 + 1), .int v1] σ (fi Φ1) ∧ ∀ (r3 : Int32) (τ2 : gw_S), Φ1 r3 τ2 → (∃ Φ4 : Int32 → gw_S → Prop, gw_M (xl x) G yX5_digitsOf cX5_digitsOf 1 (some .int) 0 [.int r3] τ2 (fi Φ4) ∧ ∀ (r6 : Int32) (τ5 : gw_S), Φ4 r6 τ5 → ((¬ (r6 = 0) → PW x G 4 17 [(0, .ref (G.1 + 1)), (1, .int v1), (2, .int r6), (3, .int 1)] [] τ5) ∧ (r6 = 0 → Φ v1 τ5)))) : PW x G 4 0 [(0, .ref (G.1 + 1)), (1, .int v1)] [] σ := by
  refine pw_aload_n C dX5_errorOfCommand_0 rfl 0 rfl ?_
  refine pw_iload_n C dX5_errorOfCommand_1 rfl 1 rfl ?_
  obtain ⟨Φ1, hM, h⟩ := h
  refine pw_callV C dX5_errorOfCommand_2 hM gm_X5_at gl_RX5_19 rfl hR (by decide) (by decide) (by decide) rfl gk_1.1 gk_1.2 rfl (Nat.le_of_ble_eq_true rfl) ?_
  rintro _ τ2 ⟨r3, rfl, hv⟩
  replace h := h r3 τ2 hv
  show PW x G 4 5 [(0, .ref (G.1 + 1)), (1, .int v1)] [.int r3] τ2
  obtain ⟨Φ4, hM, h⟩ := h
  refine pw_callS C dX5_errorOfCommand_5 hM gm_X5_digitsOf gl_RX5_27 rfl hR (by decide) (by decide) rfl (Nat.le_of_ble_eq_true rfl) ?_
  rintro _ τ5 ⟨r6, rfl, hv⟩
  replace h := h r6 τ5 hv
  show PW x G 4 8 [(0, .ref (G.1 + 1)), (1, .int v1)] [.int r6] τ5
  refine pw_istore_n C dX5_errorOfCommand_8 rfl (by decide) rfl ?_
  refine pw_iload_n C dX5_errorOfCommand_9 rfl 0 rfl ?_
  refine pw_if_ne (tgt := 15) C dX5_errorOfCommand_10 (by decide) (fun q => ?_) (fun q => ?_)
  · replace h := h.1 q
    refine pw_iconst (v := 1) C dX5_errorOfCommand_15 (by decide) ?_
    refine pw_istore_n C dX5_errorOfCommand_16 rfl (by decide) rfl ?_
    exact pw_sub [2, 3, 1, 0] rfl h
  · replace h := h.2 q
    refine pw_iload_n C dX5_errorOfCommand_13 rfl 2 rfl ?_
    exact pw_iret C hT dX5_errorOfCommand_14 h
set_option maxRecDepth 4000 in
theorem sg_X5_errorOfCommand_17 {x : gw_X} {G : gw_G} {Φ : Int32 → gw_S → Prop} (C : XC x G RX5 cX5_errorOfCommand 4 (some .int)) (hR : gw_ok x 1) (hT : RT x G (fi Φ)) (v1 : Int32) (v2 : Int32) (v3 : Int32) (σ : gw_S)
    (h : (v2 < v3 → Φ (-1) σ) ∧ (¬ (v2 < v3) → ((v1 + v3) < (σ.1 1 1) → ∃ Φ1 : Int32 → gw_S → Prop, gw_M (xl x) G yX5_at cX5_at 2 (some .char) 0 [.ref (G.1 + 1), .int (v1 + v3)] σ (fi Φ1) ∧ ∀ (r3 : Int32) (τ2 : gw_S), Φ1 r3 τ2 → (∃ Φ4 : Int32 → gw_S → Prop, gw_M (xl x) G yX5_at cX5_at 2 (some .char) 0 [.ref (G.1 + 1), .int v1] τ2 (fi Φ4) ∧ ∀ (r6 : Int32) (τ5 : gw_S), Φ4 r6 τ5 → (∃ Φ7 : Int32 → gw_S → Prop, gw_M (xl x) G yX5_lowest cX5_lowest 2 (some .char) 0 [.int r6, .int v3] τ5 (fi Φ7) ∧ ∀ (r9 : Int32) (τ8 : gw_S), Φ7 r9 τ8 → ((r3 < r9 → Φ (v1 + v3) τ8) ∧ (¬ (r3 < r9) → ∃ Φ10 : Int32 → gw_S → Prop, gw_M (xl x) G yX5_at cX5_at 2 (some .char) 0 [.ref (G.1 + 1), .int (v1 + v3)] τ8 (fi Φ10) ∧ ∀ (r12 : Int32) (τ11 : gw_S), Φ10 r12 τ11 → (∃ Φ13 : Int32 → gw_S → Prop, gw_M (xl x) G yX5_at cX5_at 2 (some .char) 0 [.ref (G.1 + 1), .int v1] τ11 (fi Φ13) ∧ ∀ (r15 : Int32) (τ14 : gw_S), Φ13 r15 τ14 → (∃ Φ16 : Int32 → gw_S → Prop, gw_M (xl x) G yX5_at cX5_at 2 (some .char) 0 [.ref (G.1 + 1), .int ((v1 + v3) - 1)] τ14 (fi Φ16) ∧ ∀ (r18 : Int32) (τ17 : gw_S), Φ16 r18 τ17 → (∃ Φ19 : Int32 → gw_S → Prop, gw_M (xl x) G yX5_highest cX5_highest 3 (some .char) 0 [.int r15, .int v3, .int r18] τ17 (fi Φ19) ∧ ∀ (r21 : Int32) (τ20 : gw_S), Φ19 r21 τ20 → ((r12 ≤ r21 → PW x G 4 17 [(0, .ref (G.1 + 1)), (1, .int v1), (2, .int v2), (3, .int (v3 + 1))] [] τ20) ∧ (¬ (r12 ≤ r21) → Φ (v1 + v3) τ20)))))))))) ∧ (¬ ((v1 + v3) < (σ.1 1 1)) → Φ (σ.1 1 1) σ))) : PW x G 4 17 [(0, .ref (G.1 + 1)), (1, .int v1), (2, .int v2), (3, .int v3)] [] σ := by
  refine pw_iload_n C dX5_errorOfCommand_17 rfl 3 rfl ?_
  refine pw_iload_n C dX5_errorOfCommand_18 rfl 2 rfl ?_
  refine pw_icmp_gt (tgt := 94) C dX5_errorOfCommand_19 (by decide) (fun q => ?_) (fun q => ?_)
  · replace h := h.1 q
    refine pw_iconst (v := (-1)) C dX5_errorOfCommand_94 (by decide) ?_
    exact pw_iret C hT dX5_errorOfCommand_95 h
  · replace h := h.2 q
    refine pw_iload_n C dX5_errorOfCommand_22 rfl 1 rfl ?_
    refine pw_iload_n C dX5_errorOfCommand_23 rfl 3 rfl ?_
    refine pw_iadd C dX5_errorOfCommand_24 ?_
    refine pw_aload_n C dX5_errorOfCommand_25 rfl 0 rfl ?_
    refine pw_geti C dX5_errorOfCommand_26 gf_RX5_15 gk_1.1 gk_1.2 rfl ?_
    refine pw_icmp_lt (tgt := 37) C dX5_errorOfCommand_29 (by decide) (fun q => ?_) (fun q => ?_)
    · replace h := h.1 q
      refine pw_aload_n C dX5_errorOfCommand_37 rfl 0 rfl ?_
      refine pw_iload_n C dX5_errorOfCommand_38 rfl 1 rfl ?_
      refine pw_iload_n C dX5_errorOfCommand_39 rfl 3 rfl ?_
      refine pw_iadd C dX5_errorOfCommand_40 ?_
      obtain ⟨Φ1, hM, h⟩ := h
      refine pw_callV C dX5_errorOfCommand_41 hM gm_X5_at gl_RX5_19 rfl hR (by decide) (by decide) (by decide) rfl gk_1.1 gk_1.2 rfl (Nat.le_of_ble_eq_true rfl) ?_
      rintro _ τ2 ⟨r3, rfl, hv⟩
      replace h := h r3 τ2 hv
      show PW x G 4 44 [(0, .ref (G.1 + 1)), (1, .int v1), (2, .int v2), (3, .int v3)] [.int r3] τ2
      refine pw_aload_n C dX5_errorOfCommand_44 rfl 0 rfl ?_
      refine pw_iload_n C dX5_errorOfCommand_45 rfl 1 rfl ?_
      obtain ⟨Φ4, hM, h⟩ := h
      refine pw_callV C dX5_errorOfCommand_46 hM gm_X5_at gl_RX5_19 rfl hR (by decide) (by decide) (by decide) rfl gk_1.1 gk_1.2 rfl (Nat.le_of_ble_eq_true rfl) ?_
      rintro _ τ5 ⟨r6, rfl, hv⟩
      replace h := h r6 τ5 hv
      show PW x G 4 49 [(0, .ref (G.1 + 1)), (1, .int v1), (2, .int v2), (3, .int v3)] [.int r6, .int r3] τ5
      refine pw_iload_n C dX5_errorOfCommand_49 rfl 3 rfl ?_
      obtain ⟨Φ7, hM, h⟩ := h
      refine pw_callS C dX5_errorOfCommand_50 hM gm_X5_lowest gl_RX5_31 rfl hR (by decide) (by decide) rfl (Nat.le_of_ble_eq_true rfl) ?_
      rintro _ τ8 ⟨r9, rfl, hv⟩
      replace h := h r9 τ8 hv
      show PW x G 4 53 [(0, .ref (G.1 + 1)), (1, .int v1), (2, .int v2), (3, .int v3)] [.int r9, .int r3] τ8
      refine pw_icmp_lt (tgt := 84) C dX5_errorOfCommand_53 (by decide) (fun q => ?_) (fun q => ?_)
      · replace h := h.1 q
        refine pw_iload_n C dX5_errorOfCommand_84 rfl 1 rfl ?_
        refine pw_iload_n C dX5_errorOfCommand_85 rfl 3 rfl ?_
        refine pw_iadd C dX5_errorOfCommand_86 ?_
        exact pw_iret C hT dX5_errorOfCommand_87 h
      · replace h := h.2 q
        refine pw_aload_n C dX5_errorOfCommand_56 rfl 0 rfl ?_
        refine pw_iload_n C dX5_errorOfCommand_57 rfl 1 rfl ?_
        refine pw_iload_n C dX5_errorOfCommand_58 rfl 3 rfl ?_
        refine pw_iadd C dX5_errorOfCommand_59 ?_
        obtain ⟨Φ10, hM, h⟩ := h
        refine pw_callV C dX5_errorOfCommand_60 hM gm_X5_at gl_RX5_19 rfl hR (by decide) (by decide) (by decide) rfl gk_1.1 gk_1.2 rfl (Nat.le_of_ble_eq_true rfl) ?_
        rintro _ τ11 ⟨r12, rfl, hv⟩
        replace h := h r12 τ11 hv
        show PW x G 4 63 [(0, .ref (G.1 + 1)), (1, .int v1), (2, .int v2), (3, .int v3)] [.int r12] τ11
        refine pw_aload_n C dX5_errorOfCommand_63 rfl 0 rfl ?_
        refine pw_iload_n C dX5_errorOfCommand_64 rfl 1 rfl ?_
        obtain ⟨Φ13, hM, h⟩ := h
        refine pw_callV C dX5_errorOfCommand_65 hM gm_X5_at gl_RX5_19 rfl hR (by decide) (by decide) (by decide) rfl gk_1.1 gk_1.2 rfl (Nat.le_of_ble_eq_true rfl) ?_
        rintro _ τ14 ⟨r15, rfl, hv⟩
        replace h := h r15 τ14 hv
        show PW x G 4 68 [(0, .ref (G.1 + 1)), (1, .int v1), (2, .int v2), (3, .int v3)] [.int r15, .int r12] τ14
        refine pw_iload_n C dX5_errorOfCommand_68 rfl 3 rfl ?_
        refine pw_aload_n C dX5_errorOfCommand_69 rfl 0 rfl ?_
        refine pw_iload_n C dX5_errorOfCommand_70 rfl 1 rfl ?_
        refine pw_iload_n C dX5_errorOfCommand_71 rfl 3 rfl ?_
        refine pw_iadd C dX5_errorOfCommand_72 ?_
        refine pw_iconst (v := 1) C dX5_errorOfCommand_73 (by decide) ?_
        refine pw_isub C dX5_errorOfCommand_74 ?_
        obtain ⟨Φ16, hM, h⟩ := h
        refine pw_callV C dX5_errorOfCommand_75 hM gm_X5_at gl_RX5_19 rfl hR (by decide) (by decide) (by decide) rfl gk_1.1 gk_1.2 rfl (Nat.le_of_ble_eq_true rfl) ?_
        rintro _ τ17 ⟨r18, rfl, hv⟩
        replace h := h r18 τ17 hv
        show PW x G 4 78 [(0, .ref (G.1 + 1)), (1, .int v1), (2, .int v2), (3, .int v3)] [.int r18, .int v3, .int r15, .int r12] τ17
        obtain ⟨Φ19, hM, h⟩ := h
        refine pw_callS C dX5_errorOfCommand_78 hM gm_X5_highest gl_RX5_35 rfl hR (by decide) (by decide) rfl (Nat.le_of_ble_eq_true rfl) ?_
        rintro _ τ20 ⟨r21, rfl, hv⟩
        replace h := h r21 τ20 hv
        show PW x G 4 81 [(0, .ref (G.1 + 1)), (1, .int v1), (2, .int v2), (3, .int v3)] [.int r21, .int r12] τ20
        refine pw_icmp_le (tgt := 88) C dX5_errorOfCommand_81 (by decide) (fun q => ?_) (fun q => ?_)
        · replace h := h.1 q
          refine pw_iinc (v := (v3 + 1)) (j := 3) C dX5_errorOfCommand_88 rfl rfl (by decide) rfl ?_
          refine pw_goto (tgt := 17) C dX5_errorOfCommand_91 (by decide) ?_
          exact pw_sub [1, 2, 3, 0] rfl h
        · replace h := h.2 q
          refine pw_iload_n C dX5_errorOfCommand_84 rfl 1 rfl ?_
          refine pw_iload_n C dX5_errorOfCommand_85 rfl 3 rfl ?_
          refine pw_iadd C dX5_errorOfCommand_86 ?_
          exact pw_iret C hT dX5_errorOfCommand_87 h
    · replace h := h.2 q
      refine pw_aload_n C dX5_errorOfCommand_32 rfl 0 rfl ?_
      refine pw_geti C dX5_errorOfCommand_33 gf_RX5_15 gk_1.1 gk_1.2 rfl ?_
      exact pw_iret C hT dX5_errorOfCommand_36 h
set_option maxRecDepth 4000 in
theorem sg_X5_digitsOf_0 {x : gw_X} {G : gw_G} {Φ : Int32 → gw_S → Prop} (C : XC x G RX5 cX5_digitsOf 1 (some .int)) (hR : gw_ok x 0) (hT : RT x G (fi Φ)) (v0 : Int32) (σ : gw_S)
    (h : (v0 = 99 → Φ 2 σ) ∧ (v0 = 102 → Φ 1 σ) ∧ (v0 = 109 → Φ 2 σ) ∧ (v0 = 119 → Φ 6 σ) ∧ (¬ v0 = 99 → ¬ v0 = 102 → ¬ v0 = 109 → ¬ v0 = 119 → Φ 0 σ)) : PW x G 1 0 [(0, .int v0)] [] σ := by
  refine pw_iload_n C dX5_digitsOf_0 rfl 0 rfl ?_
  by_cases q0 : v0 = 99
  · replace h := h.1 q0
    refine pw_lsw (tgt := 49) (off := 48) C dX5_digitsOf_1 (by decide) (by rw [q0]; decide) (by decide) ?_
    refine pw_iconst (v := 2) C dX5_digitsOf_49 (by decide) ?_
    exact pw_iret C hT dX5_digitsOf_50 h
  by_cases q1 : v0 = 102
  · replace h := h.2.1 q1
    refine pw_lsw (tgt := 51) (off := 50) C dX5_digitsOf_1 (by decide) (by rw [q1]; decide) (by decide) ?_
    refine pw_iconst (v := 1) C dX5_digitsOf_51 (by decide) ?_
    exact pw_iret C hT dX5_digitsOf_52 h
  by_cases q2 : v0 = 109
  · replace h := h.2.2.1 q2
    refine pw_lsw (tgt := 44) (off := 43) C dX5_digitsOf_1 (by decide) (by rw [q2]; decide) (by decide) ?_
    refine pw_iconst (v := 2) C dX5_digitsOf_44 (by decide) ?_
    exact pw_iret C hT dX5_digitsOf_45 h
  by_cases q3 : v0 = 119
  · replace h := h.2.2.2.1 q3
    refine pw_lsw (tgt := 46) (off := 45) C dX5_digitsOf_1 (by decide) (by rw [q3]; decide) (by decide) ?_
    refine pw_bipush (v := 6) C dX5_digitsOf_46 (by decide) ?_
    exact pw_iret C hT dX5_digitsOf_48 h
  replace h := h.2.2.2.2 q0 q1 q2 q3
  refine pw_lsw (tgt := 53) (off := 52) C dX5_digitsOf_1 (by decide) (by rw [lv_osw q0 (by decide)]; rw [lv_osw q1 (by decide)]; rw [lv_osw q2 (by decide)]; rw [lv_osw q3 (by decide)]; rfl) (by decide) ?_
  refine pw_iconst (v := 0) C dX5_digitsOf_53 (by decide) ?_
  exact pw_iret C hT dX5_digitsOf_54 h
set_option maxRecDepth 4000 in
theorem sg_X5_lowest_0 {x : gw_X} {G : gw_G} {Φ : Int32 → gw_S → Prop} (C : XC x G RX5 cX5_lowest 2 (some .char)) (hR : gw_ok x 0) (hT : RT x G (fi Φ)) (v0 : Int32) (v1 : Int32) (σ : gw_S)
    (h : narrow .char (.int (if v0 = 119 then (if v1 = 3 then 49 else (if v1 = 4 then 49 else 48 : Int32) : Int32) else 48 : Int32)) = .int (if v0 = 119 then (if v1 = 3 then 49 else (if v1 = 4 then 49 else 48 : Int32) : Int32) else 48 : Int32) ∧ Φ (if v0 = 119 then (if v1 = 3 then 49 else (if v1 = 4 then 49 else 48 : Int32) : Int32) else 48 : Int32) σ) : PW x G 2 0 [(0, .int v0), (1, .int v1)] [] σ := by
  refine pw_iload_n C dX5_lowest_0 rfl 0 rfl ?_
  refine pw_bipush (v := 119) C dX5_lowest_1 (by decide) ?_
  have hJ : ∀ w0 : Int32, (if v0 = 119 then (if v1 = 3 then 49 else (if v1 = 4 then 49 else 48 : Int32) : Int32) else 48 : Int32) = w0 → PW x G 2 23 [(0, .int v0), (1, .int v1)] [.int w0] σ := by
    rintro _ rfl
    exact pw_cret C hT dX5_lowest_23 h.1 h.2
  clear h
  refine pw_icmp_ne (tgt := 21) C dX5_lowest_3 (by decide) (fun q1 => ?_) (fun q1 => ?_)
  · refine pw_bipush (v := 48) C dX5_lowest_21 (by decide) ?_
    exact hJ 48 (if_neg q1)
  · refine pw_iload_n C dX5_lowest_6 rfl 1 rfl ?_
    refine pw_iconst (v := 3) C dX5_lowest_7 (by decide) ?_
    refine pw_icmp_eq (tgt := 16) C dX5_lowest_8 (by decide) (fun q2 => ?_) (fun q2 => ?_)
    · refine pw_bipush (v := 49) C dX5_lowest_16 (by decide) ?_
      refine pw_goto (tgt := 23) C dX5_lowest_18 (by decide) ?_
      exact hJ 49 ((if_pos q1).trans (if_pos q2))
    · refine pw_iload_n C dX5_lowest_11 rfl 1 rfl ?_
      refine pw_iconst (v := 4) C dX5_lowest_12 (by decide) ?_
      refine pw_icmp_ne (tgt := 21) C dX5_lowest_13 (by decide) (fun q3 => ?_) (fun q3 => ?_)
      · refine pw_bipush (v := 48) C dX5_lowest_21 (by decide) ?_
        exact hJ 48 ((if_pos q1).trans ((if_neg q2).trans (if_neg q3)))
      · refine pw_bipush (v := 49) C dX5_lowest_16 (by decide) ?_
        refine pw_goto (tgt := 23) C dX5_lowest_18 (by decide) ?_
        exact hJ 49 ((if_pos q1).trans ((if_neg q2).trans (if_pos q3)))
set_option maxRecDepth 4000 in
theorem sg_X5_highest_0 {x : gw_X} {G : gw_G} {Φ : Int32 → gw_S → Prop} (C : XC x G RX5 cX5_highest 3 (some .char)) (hR : gw_ok x 0) (hT : RT x G (fi Φ)) (v0 : Int32) (v1 : Int32) (v2 : Int32) (σ : gw_S)
    (h : (v0 = 99 → narrow .char (.int (if v1 = 1 then 49 else (if v2 = 48 then 57 else 51 : Int32) : Int32)) = .int (if v1 = 1 then 49 else (if v2 = 48 then 57 else 51 : Int32) : Int32) ∧ Φ (if v1 = 1 then 49 else (if v2 = 48 then 57 else 51 : Int32) : Int32) σ) ∧ (v0 = 109 → Φ 51 σ) ∧ (v0 = 119 → narrow .char (.int (if 2 < v1 then (if 4 < v1 then 57 else 54 : Int32) else 55 : Int32)) = .int (if 2 < v1 then (if 4 < v1 then 57 else 54 : Int32) else 55 : Int32) ∧ Φ (if 2 < v1 then (if 4 < v1 then 57 else 54 : Int32) else 55 : Int32) σ) ∧ (¬ v0 = 99 → ¬ v0 = 109 → ¬ v0 = 119 → Φ 55 σ)) : PW x G 3 0 [(0, .int v0), (1, .int v1), (2, .int v2)] [] σ := by
  refine pw_iload_n C dX5_highest_0 rfl 0 rfl ?_
  by_cases q0 : v0 = 99
  · replace h := h.1 q0
    refine pw_lsw (tgt := 62) (off := 61) C dX5_highest_1 (by decide) (by rw [q0]; decide) (by decide) ?_
    refine pw_iload_n C dX5_highest_62 rfl 1 rfl ?_
    refine pw_iconst (v := 1) C dX5_highest_63 (by decide) ?_
    have hJ : ∀ w0 : Int32, (if v1 = 1 then 49 else (if v2 = 48 then 57 else 51 : Int32) : Int32) = w0 → PW x G 3 85 [(0, .int v0), (1, .int v1), (2, .int v2)] [.int w0] σ := by
      rintro _ rfl
      exact pw_cret C hT dX5_highest_85 h.1 h.2
    clear h
    refine pw_icmp_ne (tgt := 72) C dX5_highest_64 (by decide) (fun q2 => ?_) (fun q2 => ?_)
    · refine pw_iload_n C dX5_highest_72 rfl 2 rfl ?_
      refine pw_bipush (v := 48) C dX5_highest_73 (by decide) ?_
      refine pw_icmp_ne (tgt := 83) C dX5_highest_75 (by decide) (fun q3 => ?_) (fun q3 => ?_)
      · refine pw_bipush (v := 51) C dX5_highest_83 (by decide) ?_
        exact hJ 51 ((if_neg q2).trans (if_neg q3))
      · refine pw_bipush (v := 57) C dX5_highest_78 (by decide) ?_
        refine pw_goto (tgt := 85) C dX5_highest_80 (by decide) ?_
        exact hJ 57 ((if_neg q2).trans (if_pos q3))
    · refine pw_bipush (v := 49) C dX5_highest_67 (by decide) ?_
      refine pw_goto (tgt := 85) C dX5_highest_69 (by decide) ?_
      exact hJ 49 (if_pos q2)
  by_cases q1 : v0 = 109
  · replace h := h.2.1 q1
    refine pw_lsw (tgt := 36) (off := 35) C dX5_highest_1 (by decide) (by rw [q1]; decide) (by decide) ?_
    refine pw_bipush (v := 51) C dX5_highest_36 (by decide) ?_
    exact pw_cret C hT dX5_highest_38 rfl h
  by_cases q2 : v0 = 119
  · replace h := h.2.2.1 q2
    refine pw_lsw (tgt := 39) (off := 38) C dX5_highest_1 (by decide) (by rw [q2]; decide) (by decide) ?_
    refine pw_iload_n C dX5_highest_39 rfl 1 rfl ?_
    refine pw_iconst (v := 2) C dX5_highest_40 (by decide) ?_
    have hJ : ∀ w0 : Int32, (if 2 < v1 then (if 4 < v1 then 57 else 54 : Int32) else 55 : Int32) = w0 → PW x G 3 61 [(0, .int v0), (1, .int v1), (2, .int v2)] [.int w0] σ := by
      rintro _ rfl
      exact pw_cret C hT dX5_highest_61 h.1 h.2
    clear h
    refine pw_icmp_gt (tgt := 49) C dX5_highest_41 (by decide) (fun q2 => ?_) (fun q2 => ?_)
    · refine pw_iload_n C dX5_highest_49 rfl 1 rfl ?_
      refine pw_iconst (v := 4) C dX5_highest_50 (by decide) ?_
      refine pw_icmp_gt (tgt := 59) C dX5_highest_51 (by decide) (fun q3 => ?_) (fun q3 => ?_)
      · refine pw_bipush (v := 57) C dX5_highest_59 (by decide) ?_
        exact hJ 57 ((if_pos q2).trans (if_pos q3))
      · refine pw_bipush (v := 54) C dX5_highest_54 (by decide) ?_
        refine pw_goto (tgt := 61) C dX5_highest_56 (by decide) ?_
        exact hJ 54 ((if_pos q2).trans (if_neg q3))
    · refine pw_bipush (v := 55) C dX5_highest_44 (by decide) ?_
      refine pw_goto (tgt := 61) C dX5_highest_46 (by decide) ?_
      exact hJ 55 (if_neg q2)
  replace h := h.2.2.2 q0 q1 q2
  refine pw_lsw (tgt := 86) (off := 85) C dX5_highest_1 (by decide) (by rw [lv_osw q0 (by decide)]; rw [lv_osw q1 (by decide)]; rw [lv_osw q2 (by decide)]; rfl) (by decide) ?_
  refine pw_bipush (v := 55) C dX5_highest_86 (by decide) ?_
  exact pw_cret C hT dX5_highest_88 rfl h
set_option maxRecDepth 4000 in
theorem sg_X6_fewestMarks_0 {x : gw_X} {G : gw_G} {Φ : Int32 → gw_S → Prop} (C : XC x G RX6 cX6_fewestMarks 6 (some .int)) (hR : gw_ok x 1) (hT : RT x G (fi Φ)) (b1 : Nat) (v2 : Int32) (v3 : Int32) (hb1 : gw_plan b1) (σ : gw_S)
    (h : PW x G 6 3 [(0, .ref (G.1 + 169)), (1, .ref (G.1 + b1)), (2, .int v2), (3, .int v3), (4, .int 0)] [] σ) : PW x G 6 0 [(0, .ref (G.1 + 169)), (1, .ref (G.1 + b1)), (2, .int v2), (3, .int v3)] [] σ := by
  refine pw_iconst (v := 0) C dX6_fewestMarks_0 (by decide) ?_
  refine pw_istore C dX6_fewestMarks_1 (by decide) rfl ?_
  exact pw_sub [1, 2, 3, 4, 0] rfl h
set_option maxRecDepth 4000 in
theorem sg_X6_fewestMarks_3 {x : gw_X} {G : gw_G} {Φ : Int32 → gw_S → Prop} (C : XC x G RX6 cX6_fewestMarks 6 (some .int)) (hR : gw_ok x 1) (hT : RT x G (fi Φ)) (b1 : Nat) (hb1 : gw_plan b1) (v2 : Int32) (v3 : Int32) (v4 : Int32) (σ : gw_S)
    (h : (8 ≤ v4 → PW x G 6 27 [(0, .ref (G.1 + 169)), (1, .ref (G.1 + b1)), (2, .int v2), (3, .int v3), (4, .int 0)] [] σ) ∧ (¬ (8 ≤ v4) → vp_in v4 8 ∧ (∀ τ2 : gw_S, τ2 = gw_u σ 170 v4.toNatClampNeg (-1) → (PW x G 6 3 [(0, .ref (G.1 + 169)), (1, .ref (G.1 + b1)), (2, .int v2), (3, .int v3), (4, .int (v4 + 1))] [] τ2)))) : PW x G 6 3 [(0, .ref (G.1 + 169)), (1, .ref (G.1 + b1)), (2, .int v2), (3, .int v3), (4, .int v4)] [] σ := by
  refine pw_iload C dX6_fewestMarks_3 4 rfl ?_
  refine pw_bipush (v := 8) C dX6_fewestMarks_5 (by decide) ?_
  refine pw_icmp_ge (tgt := 24) C dX6_fewestMarks_7 (by decide) (fun q => ?_) (fun q => ?_)
  · replace h := h.1 q
    refine pw_iconst (v := 0) C dX6_fewestMarks_24 (by decide) ?_
    refine pw_istore C dX6_fewestMarks_25 (by decide) rfl ?_
    exact pw_sub [1, 2, 3, 4, 0] rfl h
  · replace h := h.2 q
    refine pw_aload_n C dX6_fewestMarks_10 rfl 0 rfl ?_
    refine pw_getr C dX6_fewestMarks_11 gf_RX6_9 gk_169.1 gk_169.2 rfl ?_
    refine pw_iload C dX6_fewestMarks_14 4 rfl ?_
    refine pw_iconst (v := (-1)) C dX6_fewestMarks_16 (by decide) ?_
    obtain ⟨g1, h⟩ := h
    refine pw_iast C dX6_fewestMarks_17 gk_170.1 gk_170.2 g1 ?_
    generalize hτ2 : gw_u σ 170 v4.toNatClampNeg (-1) = τ2
    replace h := h τ2 hτ2.symm
    show PW x G 6 18 [(0, .ref (G.1 + 169)), (1, .ref (G.1 + b1)), (2, .int v2), (3, .int v3), (4, .int v4)] [] τ2
    refine pw_iinc (v := (v4 + 1)) (j := 4) C dX6_fewestMarks_18 rfl rfl (by decide) rfl ?_
    refine pw_goto (tgt := 3) C dX6_fewestMarks_21 (by decide) ?_
    exact pw_sub [1, 2, 3, 4, 0] rfl h
set_option maxRecDepth 4000 in
theorem sg_X6_fewestMarks_27 {x : gw_X} {G : gw_G} {Φ : Int32 → gw_S → Prop} (C : XC x G RX6 cX6_fewestMarks 6 (some .int)) (hR : gw_ok x 1) (hT : RT x G (fi Φ)) (b1 : Nat) (hb1 : gw_plan b1) (v2 : Int32) (v3 : Int32) (v4 : Int32) (σ : gw_S)
    (h : ((σ.1 b1 4) ≤ v4 → PW x G 6 74 [(0, .ref (G.1 + 169)), (1, .ref (G.1 + b1)), (2, .int v2), (3, .int v3), (4, .int 1)] [] σ) ∧ (¬ ((σ.1 b1 4) ≤ v4) → vp_in v4 14 ∧ ((¬ ((σ.1 (b1 + 4) v4.toNatClampNeg) = v2) → PW x G 6 27 [(0, .ref (G.1 + 169)), (1, .ref (G.1 + b1)), (2, .int v2), (3, .int v3), (4, .int (v4 + 1))] [] σ) ∧ ((σ.1 (b1 + 4) v4.toNatClampNeg) = v2 → ∃ Φ2 : gw_S → Prop, gw_M (xl x) G yX6_shorten cX6_shorten 3 none 0 [.ref (G.1 + 169), .int (σ.1 (b1 + 5) v4.toNatClampNeg), .int (σ.1 (b1 + 8) v4.toNatClampNeg)] σ (fv Φ2) ∧ ∀ (τ3 : gw_S), Φ2 τ3 → (PW x G 6 27 [(0, .ref (G.1 + 169)), (1, .ref (G.1 + b1)), (2, .int v2), (3, .int v3), (4, .int (v4 + 1))] [] τ3))))) : PW x G 6 27 [(0, .ref (G.1 + 169)), (1, .ref (G.1 + b1)), (2, .int v2), (3, .int v3), (4, .int v4)] [] σ := by
  refine pw_iload C dX6_fewestMarks_27 4 rfl ?_
  refine pw_aload_n C dX6_fewestMarks_29 rfl 1 rfl ?_
  refine pw_getiN C dX6_fewestMarks_30 gf_RX6_15 (gw_p0 hb1) hb1.2.1 rfl ?_
  refine pw_icmp_ge (tgt := 71) C dX6_fewestMarks_33 (by decide) (fun q => ?_) (fun q => ?_)
  · replace h := h.1 q
    refine pw_iconst (v := 1) C dX6_fewestMarks_71 (by decide) ?_
    refine pw_istore C dX6_fewestMarks_72 (by decide) rfl ?_
    exact pw_sub [1, 2, 3, 4, 0] rfl h
  · replace h := h.2 q
    refine pw_aload_n C dX6_fewestMarks_36 rfl 1 rfl ?_
    refine pw_getrN C dX6_fewestMarks_37 gf_RX6_21 (gw_p0 hb1) hb1.2.1 rfl ?_
    refine pw_iload C dX6_fewestMarks_40 4 rfl ?_
    obtain ⟨g1, h⟩ := h
    refine pw_iald C dX6_fewestMarks_42 (gw_pn hb1 4 (by decide)) hb1.2.2.2.2.2.1 g1 ?_
    refine pw_iload_n C dX6_fewestMarks_43 rfl 2 rfl ?_
    refine pw_icmp_ne (tgt := 65) C dX6_fewestMarks_44 (by decide) (fun q => ?_) (fun q => ?_)
    · replace h := h.1 q
      refine pw_iinc (v := (v4 + 1)) (j := 4) C dX6_fewestMarks_65 rfl rfl (by decide) rfl ?_
      refine pw_goto (tgt := 27) C dX6_fewestMarks_68 (by decide) ?_
      exact pw_sub [1, 2, 3, 4, 0] rfl h
    · replace h := h.2 q
      refine pw_aload_n C dX6_fewestMarks_47 rfl 0 rfl ?_
      refine pw_aload_n C dX6_fewestMarks_48 rfl 1 rfl ?_
      refine pw_getrN C dX6_fewestMarks_49 gf_RX6_24 (gw_p0 hb1) hb1.2.1 rfl ?_
      refine pw_iload C dX6_fewestMarks_52 4 rfl ?_
      refine pw_iald C dX6_fewestMarks_54 (gw_pn hb1 5 (by decide)) hb1.2.2.2.2.2.2.1 g1 ?_
      refine pw_aload_n C dX6_fewestMarks_55 rfl 1 rfl ?_
      refine pw_getrN C dX6_fewestMarks_56 gf_RX6_27 (gw_p0 hb1) hb1.2.1 rfl ?_
      refine pw_iload C dX6_fewestMarks_59 4 rfl ?_
      refine pw_iald C dX6_fewestMarks_61 (gw_pn hb1 8 (by decide)) hb1.2.2.2.2.2.2.2.2.2 g1 ?_
      obtain ⟨Φ2, hM, h⟩ := h
      refine pw_callV C dX6_fewestMarks_62 hM gm_X6_shorten gl_RX6_30 rfl hR (by decide) (by decide) (by decide) rfl gk_169.1 gk_169.2 rfl (Nat.le_of_ble_eq_true rfl) ?_
      rintro _ τ3 ⟨rfl, hv⟩
      replace h := h τ3 hv
      show PW x G 6 65 [(0, .ref (G.1 + 169)), (1, .ref (G.1 + b1)), (2, .int v2), (3, .int v3), (4, .int v4)] [] τ3
      refine pw_iinc (v := (v4 + 1)) (j := 4) C dX6_fewestMarks_65 rfl rfl (by decide) rfl ?_
      refine pw_goto (tgt := 27) C dX6_fewestMarks_68 (by decide) ?_
      exact pw_sub [1, 2, 3, 4, 0] rfl h
set_option maxRecDepth 4000 in
theorem sg_X6_fewestMarks_74 {x : gw_X} {G : gw_G} {Φ : Int32 → gw_S → Prop} (C : XC x G RX6 cX6_fewestMarks 6 (some .int)) (hR : gw_ok x 1) (hT : RT x G (fi Φ)) (b1 : Nat) (hb1 : gw_plan b1) (v2 : Int32) (v3 : Int32) (v4 : Int32) (σ : gw_S)
    (h : ((σ.1 b1 0) ≤ v4 → vp_in v3 8 ∧ (Φ (σ.1 170 v3.toNatClampNeg) σ)) ∧ (¬ ((σ.1 b1 0) ≤ v4) → PW x G 6 86 [(0, .ref (G.1 + 169)), (1, .ref (G.1 + b1)), (2, .int v2), (3, .int v3), (4, .int v4), (5, .int 0)] [] σ)) : PW x G 6 74 [(0, .ref (G.1 + 169)), (1, .ref (G.1 + b1)), (2, .int v2), (3, .int v3), (4, .int v4)] [] σ := by
  refine pw_iload C dX6_fewestMarks_74 4 rfl ?_
  refine pw_aload_n C dX6_fewestMarks_76 rfl 1 rfl ?_
  refine pw_getiN C dX6_fewestMarks_77 gf_RX6_34 (gw_p0 hb1) hb1.2.1 rfl ?_
  refine pw_icmp_ge (tgt := 154) C dX6_fewestMarks_80 (by decide) (fun q => ?_) (fun q => ?_)
  · replace h := h.1 q
    refine pw_aload_n C dX6_fewestMarks_154 rfl 0 rfl ?_
    refine pw_getr C dX6_fewestMarks_155 gf_RX6_9 gk_169.1 gk_169.2 rfl ?_
    refine pw_iload_n C dX6_fewestMarks_158 rfl 3 rfl ?_
    obtain ⟨g1, h⟩ := h
    refine pw_iald C dX6_fewestMarks_159 gk_170.1 gk_170.2 g1 ?_
    exact pw_iret C hT dX6_fewestMarks_160 h
  · replace h := h.2 q
    refine pw_iconst (v := 0) C dX6_fewestMarks_83 (by decide) ?_
    refine pw_istore C dX6_fewestMarks_84 (by decide) rfl ?_
    exact pw_sub [1, 2, 3, 4, 5, 0] rfl h
set_option maxRecDepth 4000 in
theorem sg_X6_fewestMarks_86 {x : gw_X} {G : gw_G} {Φ : Int32 → gw_S → Prop} (C : XC x G RX6 cX6_fewestMarks 6 (some .int)) (hR : gw_ok x 1) (hT : RT x G (fi Φ)) (b1 : Nat) (hb1 : gw_plan b1) (v2 : Int32) (v3 : Int32) (v4 : Int32) (v5 : Int32) (σ : gw_S)
    (h : ((σ.1 b1 4) ≤ v5 → PW x G 6 74 [(0, .ref (G.1 + 169)), (1, .ref (G.1 + b1)), (2, .int v2), (3, .int v3), (4, .int (v4 + 1))] [] σ) ∧ (¬ ((σ.1 b1 4) ≤ v5) → vp_in v5 14 ∧ (vp_in (σ.1 (b1 + 4) v5.toNatClampNeg) 8 ∧ (((σ.1 170 ((σ.1 (b1 + 4) v5.toNatClampNeg).toNatClampNeg)) = (-1) → PW x G 6 86 [(0, .ref (G.1 + 169)), (1, .ref (G.1 + b1)), (2, .int v2), (3, .int v3), (4, .int v4), (5, .int (v5 + 1))] [] σ) ∧ (¬ ((σ.1 170 ((σ.1 (b1 + 4) v5.toNatClampNeg).toNatClampNeg)) = (-1)) → ∃ Φ3 : gw_S → Prop, gw_M (xl x) G yX6_shorten cX6_shorten 3 none 0 [.ref (G.1 + 169), .int (σ.1 (b1 + 5) v5.toNatClampNeg), .int ((σ.1 170 ((σ.1 (b1 + 4) v5.toNatClampNeg).toNatClampNeg)) + (σ.1 (b1 + 8) v5.toNatClampNeg))] σ (fv Φ3) ∧ ∀ (τ4 : gw_S), Φ3 τ4 → (PW x G 6 86 [(0, .ref (G.1 + 169)), (1, .ref (G.1 + b1)), (2, .int v2), (3, .int v3), (4, .int v4), (5, .int (v5 + 1))] [] τ4)))))) : PW x G 6 86 [(0, .ref (G.1 + 169)), (1, .ref (G.1 + b1)), (2, .int v2), (3, .int v3), (4, .int v4), (5, .int v5)] [] σ := by
  refine pw_iload C dX6_fewestMarks_86 5 rfl ?_
  refine pw_aload_n C dX6_fewestMarks_88 rfl 1 rfl ?_
  refine pw_getiN C dX6_fewestMarks_89 gf_RX6_15 (gw_p0 hb1) hb1.2.1 rfl ?_
  refine pw_icmp_ge (tgt := 148) C dX6_fewestMarks_92 (by decide) (fun q => ?_) (fun q => ?_)
  · replace h := h.1 q
    refine pw_iinc (v := (v4 + 1)) (j := 4) C dX6_fewestMarks_148 rfl rfl (by decide) rfl ?_
    refine pw_goto (tgt := 74) C dX6_fewestMarks_151 (by decide) ?_
    exact pw_sub [1, 2, 3, 4, 0] rfl h
  · replace h := h.2 q
    refine pw_aload_n C dX6_fewestMarks_95 rfl 0 rfl ?_
    refine pw_getr C dX6_fewestMarks_96 gf_RX6_9 gk_169.1 gk_169.2 rfl ?_
    refine pw_aload_n C dX6_fewestMarks_99 rfl 1 rfl ?_
    refine pw_getrN C dX6_fewestMarks_100 gf_RX6_21 (gw_p0 hb1) hb1.2.1 rfl ?_
    refine pw_iload C dX6_fewestMarks_103 5 rfl ?_
    obtain ⟨g1, h⟩ := h
    refine pw_iald C dX6_fewestMarks_105 (gw_pn hb1 4 (by decide)) hb1.2.2.2.2.2.1 g1 ?_
    obtain ⟨g2, h⟩ := h
    refine pw_iald C dX6_fewestMarks_106 gk_170.1 gk_170.2 g2 ?_
    refine pw_iconst (v := (-1)) C dX6_fewestMarks_107 (by decide) ?_
    refine pw_icmp_eq (tgt := 142) C dX6_fewestMarks_108 (by decide) (fun q => ?_) (fun q => ?_)
    · replace h := h.1 q
      refine pw_iinc (v := (v5 + 1)) (j := 5) C dX6_fewestMarks_142 rfl rfl (by decide) rfl ?_
      refine pw_goto (tgt := 86) C dX6_fewestMarks_145 (by decide) ?_
      exact pw_sub [1, 2, 3, 4, 5, 0] rfl h
    · replace h := h.2 q
      refine pw_aload_n C dX6_fewestMarks_111 rfl 0 rfl ?_
      refine pw_aload_n C dX6_fewestMarks_112 rfl 1 rfl ?_
      refine pw_getrN C dX6_fewestMarks_113 gf_RX6_24 (gw_p0 hb1) hb1.2.1 rfl ?_
      refine pw_iload C dX6_fewestMarks_116 5 rfl ?_
      refine pw_iald C dX6_fewestMarks_118 (gw_pn hb1 5 (by decide)) hb1.2.2.2.2.2.2.1 g1 ?_
      refine pw_aload_n C dX6_fewestMarks_119 rfl 0 rfl ?_
      refine pw_getr C dX6_fewestMarks_120 gf_RX6_9 gk_169.1 gk_169.2 rfl ?_
      refine pw_aload_n C dX6_fewestMarks_123 rfl 1 rfl ?_
      refine pw_getrN C dX6_fewestMarks_124 gf_RX6_21 (gw_p0 hb1) hb1.2.1 rfl ?_
      refine pw_iload C dX6_fewestMarks_127 5 rfl ?_
      refine pw_iald C dX6_fewestMarks_129 (gw_pn hb1 4 (by decide)) hb1.2.2.2.2.2.1 g1 ?_
      refine pw_iald C dX6_fewestMarks_130 gk_170.1 gk_170.2 g2 ?_
      refine pw_aload_n C dX6_fewestMarks_131 rfl 1 rfl ?_
      refine pw_getrN C dX6_fewestMarks_132 gf_RX6_27 (gw_p0 hb1) hb1.2.1 rfl ?_
      refine pw_iload C dX6_fewestMarks_135 5 rfl ?_
      refine pw_iald C dX6_fewestMarks_137 (gw_pn hb1 8 (by decide)) hb1.2.2.2.2.2.2.2.2.2 g1 ?_
      refine pw_iadd C dX6_fewestMarks_138 ?_
      obtain ⟨Φ3, hM, h⟩ := h
      refine pw_callV C dX6_fewestMarks_139 hM gm_X6_shorten gl_RX6_30 rfl hR (by decide) (by decide) (by decide) rfl gk_169.1 gk_169.2 rfl (Nat.le_of_ble_eq_true rfl) ?_
      rintro _ τ4 ⟨rfl, hv⟩
      replace h := h τ4 hv
      show PW x G 6 142 [(0, .ref (G.1 + 169)), (1, .ref (G.1 + b1)), (2, .int v2), (3, .int v3), (4, .int v4), (5, .int v5)] [] τ4
      refine pw_iinc (v := (v5 + 1)) (j := 5) C dX6_fewestMarks_142 rfl rfl (by decide) rfl ?_
      refine pw_goto (tgt := 86) C dX6_fewestMarks_145 (by decide) ?_
      exact pw_sub [1, 2, 3, 4, 5, 0] rfl h
set_option maxRecDepth 4000 in
theorem sg_X6_shorten_0 {x : gw_X} {G : gw_G} {Φ : gw_S → Prop} (C : XC x G RX6 cX6_shorten 3 none) (hR : gw_ok x 0) (hT : RT x G (fv Φ)) (v1 : Int32) (v2 : Int32) (σ : gw_S)
    (h : vp_in v1 8 ∧ (((σ.1 170 v1.toNatClampNeg) = (-1) → ∀ τ2 : gw_S, τ2 = gw_u σ 170 v1.toNatClampNeg v2 → (Φ τ2)) ∧ (¬ ((σ.1 170 v1.toNatClampNeg) = (-1)) → ((σ.1 170 v1.toNatClampNeg) ≤ v2 → Φ σ) ∧ (¬ ((σ.1 170 v1.toNatClampNeg) ≤ v2) → ∀ τ3 : gw_S, τ3 = gw_u σ 170 v1.toNatClampNeg v2 → (Φ τ3))))) : PW x G 3 0 [(0, .ref (G.1 + 169)), (1, .int v1), (2, .int v2)] [] σ := by
  refine pw_aload_n C dX6_shorten_0 rfl 0 rfl ?_
  refine pw_getr C dX6_shorten_1 gf_RX6_9 gk_169.1 gk_169.2 rfl ?_
  refine pw_iload_n C dX6_shorten_4 rfl 1 rfl ?_
  obtain ⟨g1, h⟩ := h
  refine pw_iald C dX6_shorten_5 gk_170.1 gk_170.2 g1 ?_
  refine pw_iconst (v := (-1)) C dX6_shorten_6 (by decide) ?_
  refine pw_icmp_eq (tgt := 20) C dX6_shorten_7 (by decide) (fun q => ?_) (fun q => ?_)
  · replace h := h.1 q
    refine pw_aload_n C dX6_shorten_20 rfl 0 rfl ?_
    refine pw_getr C dX6_shorten_21 gf_RX6_9 gk_169.1 gk_169.2 rfl ?_
    refine pw_iload_n C dX6_shorten_24 rfl 1 rfl ?_
    refine pw_iload_n C dX6_shorten_25 rfl 2 rfl ?_
    refine pw_iast C dX6_shorten_26 gk_170.1 gk_170.2 g1 ?_
    generalize hτ2 : gw_u σ 170 v1.toNatClampNeg v2 = τ2
    replace h := h τ2 hτ2.symm
    show PW x G 3 27 [(0, .ref (G.1 + 169)), (1, .int v1), (2, .int v2)] [] τ2
    exact pw_vret C hT dX6_shorten_27 h
  · replace h := h.2 q
    refine pw_aload_n C dX6_shorten_10 rfl 0 rfl ?_
    refine pw_getr C dX6_shorten_11 gf_RX6_9 gk_169.1 gk_169.2 rfl ?_
    refine pw_iload_n C dX6_shorten_14 rfl 1 rfl ?_
    refine pw_iald C dX6_shorten_15 gk_170.1 gk_170.2 g1 ?_
    refine pw_iload_n C dX6_shorten_16 rfl 2 rfl ?_
    refine pw_icmp_le (tgt := 27) C dX6_shorten_17 (by decide) (fun q => ?_) (fun q => ?_)
    · replace h := h.1 q
      exact pw_vret C hT dX6_shorten_27 h
    · replace h := h.2 q
      refine pw_aload_n C dX6_shorten_20 rfl 0 rfl ?_
      refine pw_getr C dX6_shorten_21 gf_RX6_9 gk_169.1 gk_169.2 rfl ?_
      refine pw_iload_n C dX6_shorten_24 rfl 1 rfl ?_
      refine pw_iload_n C dX6_shorten_25 rfl 2 rfl ?_
      refine pw_iast C dX6_shorten_26 gk_170.1 gk_170.2 g1 ?_
      generalize hτ3 : gw_u σ 170 v1.toNatClampNeg v2 = τ3
      replace h := h τ3 hτ3.symm
      show PW x G 3 27 [(0, .ref (G.1 + 169)), (1, .int v1), (2, .int v2)] [] τ3
      exact pw_vret C hT dX6_shorten_27 h
