set_option maxRecDepth 4000 in
theorem sg_X3_become_0 {x : gw_X} {G : gw_G} {Φ : gw_S → Prop} (C : XC x G RX3 cX3_become 2 none) (hR : gw_ok x 1) (hT : RT x G (fv Φ)) (b : Nat) (b1 : Nat) (hb : gw_plan b) (hb1 : gw_plan b1) (σ : gw_S)
    (h : ∀ τ1 : gw_S, τ1 = gw_u σ b 0 (σ.1 b1 0) → (∀ τ2 : gw_S, τ2 = gw_r τ1 (b + 1) (va_cpy (τ1.1 (b1 + 1)) (τ1.1 (b + 1)) (0 : Int32).toNatClampNeg (0 : Int32).toNatClampNeg (8 : Int32).toNatClampNeg) → (∀ τ3 : gw_S, τ3 = gw_r τ2 (b + 2) (va_cpy (τ2.1 (b1 + 2)) (τ2.1 (b + 2)) (0 : Int32).toNatClampNeg (0 : Int32).toNatClampNeg (8 : Int32).toNatClampNeg) → (∀ τ4 : gw_S, τ4 = gw_r τ3 (b + 3) (va_cpy (τ3.1 (b1 + 3)) (τ3.1 (b + 3)) (0 : Int32).toNatClampNeg (0 : Int32).toNatClampNeg (8 : Int32).toNatClampNeg) → (∀ τ5 : gw_S, τ5 = gw_u τ4 b 4 (τ4.1 b1 4) → (∀ τ6 : gw_S, τ6 = gw_r τ5 (b + 4) (va_cpy (τ5.1 (b1 + 4)) (τ5.1 (b + 4)) (0 : Int32).toNatClampNeg (0 : Int32).toNatClampNeg (14 : Int32).toNatClampNeg) → (∀ τ7 : gw_S, τ7 = gw_r τ6 (b + 5) (va_cpy (τ6.1 (b1 + 5)) (τ6.1 (b + 5)) (0 : Int32).toNatClampNeg (0 : Int32).toNatClampNeg (14 : Int32).toNatClampNeg) → (∀ τ8 : gw_S, τ8 = gw_r τ7 (b + 6) (va_cpy (τ7.1 (b1 + 6)) (τ7.1 (b + 6)) (0 : Int32).toNatClampNeg (0 : Int32).toNatClampNeg (14 : Int32).toNatClampNeg) → (∀ τ9 : gw_S, τ9 = gw_r τ8 (b + 7) (va_cpy (τ8.1 (b1 + 7)) (τ8.1 (b + 7)) (0 : Int32).toNatClampNeg (0 : Int32).toNatClampNeg (14 : Int32).toNatClampNeg) → (∀ τ10 : gw_S, τ10 = gw_r τ9 (b + 8) (va_cpy (τ9.1 (b1 + 8)) (τ9.1 (b + 8)) (0 : Int32).toNatClampNeg (0 : Int32).toNatClampNeg (14 : Int32).toNatClampNeg) → (Φ τ10))))))))))) : PW x G 2 0 [(0, .ref (G.1 + b)), (1, .ref (G.1 + b1))] [] σ := by
  refine pw_aload_n C dX3_become_0 rfl 1 rfl ?_
  refine pw_ifnonnull (tgt := 5) C dX3_become_1 (by decide) ?_
  refine pw_aload_n C dX3_become_5 rfl 0 rfl ?_
  refine pw_aload_n C dX3_become_6 rfl 1 rfl ?_
  refine pw_geti C dX3_become_7 gf_RX3_36 (gw_p0 hb1) hb1.2.1 rfl ?_
  refine pw_puti C dX3_become_10 gf_RX3_36 rfl rfl rfl (gw_p0 hb) hb.2.1 rfl ?_
  generalize hτ1 : gw_u σ b 0 (σ.1 b1 0) = τ1
  replace h := h τ1 hτ1.symm
  show PW x G 2 13 [(0, .ref (G.1 + b)), (1, .ref (G.1 + b1))] [] τ1
  refine pw_aload_n C dX3_become_13 rfl 1 rfl ?_
  refine pw_getr C dX3_become_14 gf_RX3_9 (gw_p0 hb1) hb1.2.1 rfl ?_
  refine pw_iconst (v := 0) C dX3_become_17 (by decide) ?_
  refine pw_aload_n C dX3_become_18 rfl 0 rfl ?_
  refine pw_getr C dX3_become_19 gf_RX3_9 (gw_p0 hb) hb.2.1 rfl ?_
  refine pw_iconst (v := 0) C dX3_become_22 (by decide) ?_
  refine pw_bipush (v := 8) C dX3_become_23 (by decide) ?_
  refine pw_copyi C dX3_become_25 gl_RX3_43 gq_acn gq_acs gq_sys (gw_pn hb1 1 (by decide)) hb1.2.2.1 (gw_pn hb 1 (by decide)) hb.2.2.1 (by decide) (by decide) (by decide) (by decide) (by decide) (Nat.le_trans (by decide) hR.1) (Nat.le_trans (Nat.le_of_ble_eq_true rfl) (Nat.le_trans (Nat.mul_le_mul_left 30 (by decide : 1 ≤ 1)) hR.2.1)) ?_
  generalize hτ2 : gw_r τ1 (b + 1) (va_cpy (τ1.1 (b1 + 1)) (τ1.1 (b + 1)) (0 : Int32).toNatClampNeg (0 : Int32).toNatClampNeg (8 : Int32).toNatClampNeg) = τ2
  replace h := h τ2 hτ2.symm
  show PW x G 2 28 [(0, .ref (G.1 + b)), (1, .ref (G.1 + b1))] [] τ2
  refine pw_aload_n C dX3_become_28 rfl 1 rfl ?_
  refine pw_getr C dX3_become_29 gf_RX3_15 (gw_p0 hb1) hb1.2.1 rfl ?_
  refine pw_iconst (v := 0) C dX3_become_32 (by decide) ?_
  refine pw_aload_n C dX3_become_33 rfl 0 rfl ?_
  refine pw_getr C dX3_become_34 gf_RX3_15 (gw_p0 hb) hb.2.1 rfl ?_
  refine pw_iconst (v := 0) C dX3_become_37 (by decide) ?_
  refine pw_bipush (v := 8) C dX3_become_38 (by decide) ?_
  refine pw_copyi C dX3_become_40 gl_RX3_43 gq_acn gq_acs gq_sys (gw_pn hb1 2 (by decide)) hb1.2.2.2.1 (gw_pn hb 2 (by decide)) hb.2.2.2.1 (by decide) (by decide) (by decide) (by decide) (by decide) (Nat.le_trans (by decide) hR.1) (Nat.le_trans (Nat.le_of_ble_eq_true rfl) (Nat.le_trans (Nat.mul_le_mul_left 30 (by decide : 1 ≤ 1)) hR.2.1)) ?_
  generalize hτ3 : gw_r τ2 (b + 2) (va_cpy (τ2.1 (b1 + 2)) (τ2.1 (b + 2)) (0 : Int32).toNatClampNeg (0 : Int32).toNatClampNeg (8 : Int32).toNatClampNeg) = τ3
  replace h := h τ3 hτ3.symm
  show PW x G 2 43 [(0, .ref (G.1 + b)), (1, .ref (G.1 + b1))] [] τ3
  refine pw_aload_n C dX3_become_43 rfl 1 rfl ?_
  refine pw_getr C dX3_become_44 gf_RX3_18 (gw_p0 hb1) hb1.2.1 rfl ?_
  refine pw_iconst (v := 0) C dX3_become_47 (by decide) ?_
  refine pw_aload_n C dX3_become_48 rfl 0 rfl ?_
  refine pw_getr C dX3_become_49 gf_RX3_18 (gw_p0 hb) hb.2.1 rfl ?_
  refine pw_iconst (v := 0) C dX3_become_52 (by decide) ?_
  refine pw_bipush (v := 8) C dX3_become_53 (by decide) ?_
  refine pw_copyi C dX3_become_55 gl_RX3_43 gq_acn gq_acs gq_sys (gw_pn hb1 3 (by decide)) hb1.2.2.2.2.1 (gw_pn hb 3 (by decide)) hb.2.2.2.2.1 (by decide) (by decide) (by decide) (by decide) (by decide) (Nat.le_trans (by decide) hR.1) (Nat.le_trans (Nat.le_of_ble_eq_true rfl) (Nat.le_trans (Nat.mul_le_mul_left 30 (by decide : 1 ≤ 1)) hR.2.1)) ?_
  generalize hτ4 : gw_r τ3 (b + 3) (va_cpy (τ3.1 (b1 + 3)) (τ3.1 (b + 3)) (0 : Int32).toNatClampNeg (0 : Int32).toNatClampNeg (8 : Int32).toNatClampNeg) = τ4
  replace h := h τ4 hτ4.symm
  show PW x G 2 58 [(0, .ref (G.1 + b)), (1, .ref (G.1 + b1))] [] τ4
  refine pw_aload_n C dX3_become_58 rfl 0 rfl ?_
  refine pw_aload_n C dX3_become_59 rfl 1 rfl ?_
  refine pw_geti C dX3_become_60 gf_RX3_40 (gw_p0 hb1) hb1.2.1 rfl ?_
  refine pw_puti C dX3_become_63 gf_RX3_40 rfl rfl rfl (gw_p0 hb) hb.2.1 rfl ?_
  generalize hτ5 : gw_u τ4 b 4 (τ4.1 b1 4) = τ5
  replace h := h τ5 hτ5.symm
  show PW x G 2 66 [(0, .ref (G.1 + b)), (1, .ref (G.1 + b1))] [] τ5
  refine pw_aload_n C dX3_become_66 rfl 1 rfl ?_
  refine pw_getr C dX3_become_67 gf_RX3_21 (gw_p0 hb1) hb1.2.1 rfl ?_
  refine pw_iconst (v := 0) C dX3_become_70 (by decide) ?_
  refine pw_aload_n C dX3_become_71 rfl 0 rfl ?_
  refine pw_getr C dX3_become_72 gf_RX3_21 (gw_p0 hb) hb.2.1 rfl ?_
  refine pw_iconst (v := 0) C dX3_become_75 (by decide) ?_
  refine pw_bipush (v := 14) C dX3_become_76 (by decide) ?_
  refine pw_copyi C dX3_become_78 gl_RX3_43 gq_acn gq_acs gq_sys (gw_pn hb1 4 (by decide)) hb1.2.2.2.2.2.1 (gw_pn hb 4 (by decide)) hb.2.2.2.2.2.1 (by decide) (by decide) (by decide) (by decide) (by decide) (Nat.le_trans (by decide) hR.1) (Nat.le_trans (Nat.le_of_ble_eq_true rfl) (Nat.le_trans (Nat.mul_le_mul_left 30 (by decide : 1 ≤ 1)) hR.2.1)) ?_
  generalize hτ6 : gw_r τ5 (b + 4) (va_cpy (τ5.1 (b1 + 4)) (τ5.1 (b + 4)) (0 : Int32).toNatClampNeg (0 : Int32).toNatClampNeg (14 : Int32).toNatClampNeg) = τ6
  replace h := h τ6 hτ6.symm
  show PW x G 2 81 [(0, .ref (G.1 + b)), (1, .ref (G.1 + b1))] [] τ6
  refine pw_aload_n C dX3_become_81 rfl 1 rfl ?_
  refine pw_getr C dX3_become_82 gf_RX3_24 (gw_p0 hb1) hb1.2.1 rfl ?_
  refine pw_iconst (v := 0) C dX3_become_85 (by decide) ?_
  refine pw_aload_n C dX3_become_86 rfl 0 rfl ?_
  refine pw_getr C dX3_become_87 gf_RX3_24 (gw_p0 hb) hb.2.1 rfl ?_
  refine pw_iconst (v := 0) C dX3_become_90 (by decide) ?_
  refine pw_bipush (v := 14) C dX3_become_91 (by decide) ?_
  refine pw_copyi C dX3_become_93 gl_RX3_43 gq_acn gq_acs gq_sys (gw_pn hb1 5 (by decide)) hb1.2.2.2.2.2.2.1 (gw_pn hb 5 (by decide)) hb.2.2.2.2.2.2.1 (by decide) (by decide) (by decide) (by decide) (by decide) (Nat.le_trans (by decide) hR.1) (Nat.le_trans (Nat.le_of_ble_eq_true rfl) (Nat.le_trans (Nat.mul_le_mul_left 30 (by decide : 1 ≤ 1)) hR.2.1)) ?_
  generalize hτ7 : gw_r τ6 (b + 5) (va_cpy (τ6.1 (b1 + 5)) (τ6.1 (b + 5)) (0 : Int32).toNatClampNeg (0 : Int32).toNatClampNeg (14 : Int32).toNatClampNeg) = τ7
  replace h := h τ7 hτ7.symm
  show PW x G 2 96 [(0, .ref (G.1 + b)), (1, .ref (G.1 + b1))] [] τ7
  refine pw_aload_n C dX3_become_96 rfl 1 rfl ?_
  refine pw_getr C dX3_become_97 gf_RX3_27 (gw_p0 hb1) hb1.2.1 rfl ?_
  refine pw_iconst (v := 0) C dX3_become_100 (by decide) ?_
  refine pw_aload_n C dX3_become_101 rfl 0 rfl ?_
  refine pw_getr C dX3_become_102 gf_RX3_27 (gw_p0 hb) hb.2.1 rfl ?_
  refine pw_iconst (v := 0) C dX3_become_105 (by decide) ?_
  refine pw_bipush (v := 14) C dX3_become_106 (by decide) ?_
  refine pw_copyi C dX3_become_108 gl_RX3_43 gq_acn gq_acs gq_sys (gw_pn hb1 6 (by decide)) hb1.2.2.2.2.2.2.2.1 (gw_pn hb 6 (by decide)) hb.2.2.2.2.2.2.2.1 (by decide) (by decide) (by decide) (by decide) (by decide) (Nat.le_trans (by decide) hR.1) (Nat.le_trans (Nat.le_of_ble_eq_true rfl) (Nat.le_trans (Nat.mul_le_mul_left 30 (by decide : 1 ≤ 1)) hR.2.1)) ?_
  generalize hτ8 : gw_r τ7 (b + 6) (va_cpy (τ7.1 (b1 + 6)) (τ7.1 (b + 6)) (0 : Int32).toNatClampNeg (0 : Int32).toNatClampNeg (14 : Int32).toNatClampNeg) = τ8
  replace h := h τ8 hτ8.symm
  show PW x G 2 111 [(0, .ref (G.1 + b)), (1, .ref (G.1 + b1))] [] τ8
  refine pw_aload_n C dX3_become_111 rfl 1 rfl ?_
  refine pw_getr C dX3_become_112 gf_RX3_30 (gw_p0 hb1) hb1.2.1 rfl ?_
  refine pw_iconst (v := 0) C dX3_become_115 (by decide) ?_
  refine pw_aload_n C dX3_become_116 rfl 0 rfl ?_
  refine pw_getr C dX3_become_117 gf_RX3_30 (gw_p0 hb) hb.2.1 rfl ?_
  refine pw_iconst (v := 0) C dX3_become_120 (by decide) ?_
  refine pw_bipush (v := 14) C dX3_become_121 (by decide) ?_
  refine pw_copyi C dX3_become_123 gl_RX3_43 gq_acn gq_acs gq_sys (gw_pn hb1 7 (by decide)) hb1.2.2.2.2.2.2.2.2.1 (gw_pn hb 7 (by decide)) hb.2.2.2.2.2.2.2.2.1 (by decide) (by decide) (by decide) (by decide) (by decide) (Nat.le_trans (by decide) hR.1) (Nat.le_trans (Nat.le_of_ble_eq_true rfl) (Nat.le_trans (Nat.mul_le_mul_left 30 (by decide : 1 ≤ 1)) hR.2.1)) ?_
  generalize hτ9 : gw_r τ8 (b + 7) (va_cpy (τ8.1 (b1 + 7)) (τ8.1 (b + 7)) (0 : Int32).toNatClampNeg (0 : Int32).toNatClampNeg (14 : Int32).toNatClampNeg) = τ9
  replace h := h τ9 hτ9.symm
  show PW x G 2 126 [(0, .ref (G.1 + b)), (1, .ref (G.1 + b1))] [] τ9
  refine pw_aload_n C dX3_become_126 rfl 1 rfl ?_
  refine pw_getr C dX3_become_127 gf_RX3_33 (gw_p0 hb1) hb1.2.1 rfl ?_
  refine pw_iconst (v := 0) C dX3_become_130 (by decide) ?_
  refine pw_aload_n C dX3_become_131 rfl 0 rfl ?_
  refine pw_getr C dX3_become_132 gf_RX3_33 (gw_p0 hb) hb.2.1 rfl ?_
  refine pw_iconst (v := 0) C dX3_become_135 (by decide) ?_
  refine pw_bipush (v := 14) C dX3_become_136 (by decide) ?_
  refine pw_copyi C dX3_become_138 gl_RX3_43 gq_acn gq_acs gq_sys (gw_pn hb1 8 (by decide)) hb1.2.2.2.2.2.2.2.2.2 (gw_pn hb 8 (by decide)) hb.2.2.2.2.2.2.2.2.2 (by decide) (by decide) (by decide) (by decide) (by decide) (Nat.le_trans (by decide) hR.1) (Nat.le_trans (Nat.le_of_ble_eq_true rfl) (Nat.le_trans (Nat.mul_le_mul_left 30 (by decide : 1 ≤ 1)) hR.2.1)) ?_
  generalize hτ10 : gw_r τ9 (b + 8) (va_cpy (τ9.1 (b1 + 8)) (τ9.1 (b + 8)) (0 : Int32).toNatClampNeg (0 : Int32).toNatClampNeg (14 : Int32).toNatClampNeg) = τ10
  replace h := h τ10 hτ10.symm
  show PW x G 2 141 [(0, .ref (G.1 + b)), (1, .ref (G.1 + b1))] [] τ10
  exact pw_vret C hT dX3_become_141 h
set_option maxRecDepth 4000 in
theorem sg_X3_newModuleFault_0 {x : gw_X} {G : gw_G} {Φ : Nat → gw_S → Prop} (C : XC x G RX3 cX3_newModuleFault 3 (some (.object "RateWires$Fault"))) (hR : gw_ok x 0) (hT : RT x G (fe G Φ)) (b : Nat) (v1 : Int32) (v2 : Int32) (hb : gw_plan b) (σ : gw_S)
    (h : (v1 < 0 → Φ 2 σ) ∧ (¬ (v1 < 0) → (3 < v1 → Φ 2 σ) ∧ (¬ (3 < v1) → (v2 < 0 → Φ 2 σ) ∧ (¬ (v2 < 0) → (v2 ≤ 3 → Φ (if (σ.1 b 0) < 8 then 0 else 3 : Nat) σ) ∧ (¬ (v2 ≤ 3) → Φ 2 σ))))) : PW x G 3 0 [(0, .ref (G.1 + b)), (1, .int v1), (2, .int v2)] [] σ := by
  refine pw_iload_n C dX3_newModuleFault_0 rfl 1 rfl ?_
  refine pw_if_lt (tgt := 18) C dX3_newModuleFault_1 (by decide) (fun q => ?_) (fun q => ?_)
  · replace h := h.1 q
    refine pw_gets (i := 2) C dX3_newModuleFault_18 (by decide) gl_RX3_65 ?_
    exact pw_eret C hT dX3_newModuleFault_21 (by decide) h
  · replace h := h.2 q
    refine pw_iload_n C dX3_newModuleFault_4 rfl 1 rfl ?_
    refine pw_iconst (v := 3) C dX3_newModuleFault_5 (by decide) ?_
    refine pw_icmp_gt (tgt := 18) C dX3_newModuleFault_6 (by decide) (fun q => ?_) (fun q => ?_)
    · replace h := h.1 q
      refine pw_gets (i := 2) C dX3_newModuleFault_18 (by decide) gl_RX3_65 ?_
      exact pw_eret C hT dX3_newModuleFault_21 (by decide) h
    · replace h := h.2 q
      refine pw_iload_n C dX3_newModuleFault_9 rfl 2 rfl ?_
      refine pw_if_lt (tgt := 18) C dX3_newModuleFault_10 (by decide) (fun q => ?_) (fun q => ?_)
      · replace h := h.1 q
        refine pw_gets (i := 2) C dX3_newModuleFault_18 (by decide) gl_RX3_65 ?_
        exact pw_eret C hT dX3_newModuleFault_21 (by decide) h
      · replace h := h.2 q
        refine pw_iload_n C dX3_newModuleFault_13 rfl 2 rfl ?_
        refine pw_iconst (v := 3) C dX3_newModuleFault_14 (by decide) ?_
        refine pw_icmp_le (tgt := 22) C dX3_newModuleFault_15 (by decide) (fun q => ?_) (fun q => ?_)
        · replace h := h.1 q
          refine pw_aload_n C dX3_newModuleFault_22 rfl 0 rfl ?_
          refine pw_geti C dX3_newModuleFault_23 gf_RX3_36 (gw_p0 hb) hb.2.1 rfl ?_
          refine pw_bipush (v := 8) C dX3_newModuleFault_26 (by decide) ?_
          have hJ : ∀ w0 : Nat, (if (σ.1 b 0) < 8 then 0 else 3 : Nat) = w0 → PW x G 3 40 [(0, .ref (G.1 + b)), (1, .int v1), (2, .int v2)] [.ref (G.2.2.2 w0)] σ := by
            rintro _ rfl
            exact pw_eret C hT dX3_newModuleFault_40 (by repeat' first | decide | split) h
          clear h
          refine pw_icmp_lt (tgt := 37) C dX3_newModuleFault_28 (by decide) (fun q5 => ?_) (fun q5 => ?_)
          · refine pw_gets (i := 0) C dX3_newModuleFault_37 (by decide) gl_RX3_53 ?_
            exact hJ 0 (if_pos q5)
          · refine pw_gets (i := 3) C dX3_newModuleFault_31 (by decide) gl_RX3_68 ?_
            refine pw_goto (tgt := 40) C dX3_newModuleFault_34 (by decide) ?_
            exact hJ 3 (if_neg q5)
        · replace h := h.2 q
          refine pw_gets (i := 2) C dX3_newModuleFault_18 (by decide) gl_RX3_65 ?_
          exact pw_eret C hT dX3_newModuleFault_21 (by decide) h
set_option maxRecDepth 4000 in
theorem sg_X3_newWireFault_0 {x : gw_X} {G : gw_G} {Φ : Nat → gw_S → Prop} (C : XC x G RX3 cX3_newWireFault 6 (some (.object "RateWires$Fault"))) (hR : gw_ok x 2) (hT : RT x G (fe G Φ)) (b : Nat) (v1 : Int32) (v2 : Int32) (v3 : Int32) (v4 : Int32) (v5 : Int32) (hb : gw_plan b) (σ : gw_S)
    (h : ((if v1 < 0 then false else (if (σ.1 b 0) ≤ v1 then false else true : Bool) : Bool) = false → Φ 1 σ) ∧ (¬ ((if v1 < 0 then false else (if (σ.1 b 0) ≤ v1 then false else true : Bool) : Bool) = false) → (¬ ((if v2 < 0 then false else (if (σ.1 b 0) ≤ v2 then false else true : Bool) : Bool) = false) → (v3 < 1 → Φ 2 σ) ∧ (¬ (v3 < 1) → (6 < v3 → Φ 2 σ) ∧ (¬ (6 < v3) → (v4 < 1 → Φ 2 σ) ∧ (¬ (v4 < 1) → (6 < v4 → Φ 2 σ) ∧ (¬ (6 < v4) → (v5 < 0 → Φ 2 σ) ∧ (¬ (v5 < 0) → (v5 ≤ 99 → vp_in v1 8 ∧ (vp_in v2 8 ∧ ((¬ ((σ.1 (b + 2) v1.toNatClampNeg) = (σ.1 (b + 1) v2.toNatClampNeg)) → Φ 3 σ) ∧ ((σ.1 (b + 2) v1.toNatClampNeg) = (σ.1 (b + 1) v2.toNatClampNeg) → ((σ.1 b 4) < 14 → (¬ (v5 = 0) → Φ 0 σ) ∧ (v5 = 0 → ∃ Φ3 : Bool → gw_S → Prop, gw_M (xl x) G yX3_closesDeadLoop cX3_closesDeadLoop 3 (some .boolean) 1 [.ref (G.1 + b), .int v1, .int v2] σ (fz Φ3) ∧ ∀ (r5 : Bool) (τ4 : gw_S), Φ3 r5 τ4 → (Φ (if r5 = false then 0 else 3 : Nat) τ4))) ∧ (¬ ((σ.1 b 4) < 14) → Φ 3 σ))))) ∧ (¬ (v5 ≤ 99) → Φ 2 σ))))))) ∧ ((if v2 < 0 then false else (if (σ.1 b 0) ≤ v2 then false else true : Bool) : Bool) = false → Φ 1 σ))) : PW x G 6 0 [(0, .ref (G.1 + b)), (1, .int v1), (2, .int v2), (3, .int v3), (4, .int v4), (5, .int v5)] [] σ := by
  refine pw_aload_n C dX3_newWireFault_0 rfl 0 rfl ?_
  refine pw_iload_n C dX3_newWireFault_1 rfl 1 rfl ?_
  refine pw_callV C dX3_newWireFault_2 (k_X3_hasModule b v1 hb σ ) gm_X3_hasModule gl_RX3_49 rfl hR (by decide) (by decide) (by decide) rfl (gw_p0 hb) hb.2.1 rfl (Nat.le_of_ble_eq_true rfl) ?_
  rintro _ _ ⟨_, rfl, rfl, rfl⟩
  show PW x G 6 5 [(0, .ref (G.1 + b)), (1, .int v1), (2, .int v2), (3, .int v3), (4, .int v4), (5, .int v5)] [.int (gz (if v1 < 0 then false else (if (σ.1 b 0) ≤ v1 then false else true : Bool) : Bool))] σ
  refine pw_z_eq (tgt := 16) C dX3_newWireFault_5 (by decide) (fun q => ?_) (fun q => ?_)
  · replace h := h.1 q
    refine pw_gets (i := 1) C dX3_newWireFault_16 (by decide) gl_RX3_59 ?_
    exact pw_eret C hT dX3_newWireFault_19 (by decide) h
  · replace h := h.2 q
    refine pw_aload_n C dX3_newWireFault_8 rfl 0 rfl ?_
    refine pw_iload_n C dX3_newWireFault_9 rfl 2 rfl ?_
    refine pw_callV C dX3_newWireFault_10 (k_X3_hasModule b v2 hb σ ) gm_X3_hasModule gl_RX3_49 rfl hR (by decide) (by decide) (by decide) rfl (gw_p0 hb) hb.2.1 rfl (Nat.le_of_ble_eq_true rfl) ?_
    rintro _ _ ⟨_, rfl, rfl, rfl⟩
    show PW x G 6 13 [(0, .ref (G.1 + b)), (1, .int v1), (2, .int v2), (3, .int v3), (4, .int v4), (5, .int v5)] [.int (gz (if v2 < 0 then false else (if (σ.1 b 0) ≤ v2 then false else true : Bool) : Bool))] σ
    refine pw_z_ne (tgt := 20) C dX3_newWireFault_13 (by decide) (fun q => ?_) (fun q => ?_)
    · replace h := h.1 q
      refine pw_iload_n C dX3_newWireFault_20 rfl 3 rfl ?_
      refine pw_iconst (v := 1) C dX3_newWireFault_21 (by decide) ?_
      refine pw_icmp_lt (tgt := 56) C dX3_newWireFault_22 (by decide) (fun q => ?_) (fun q => ?_)
      · replace h := h.1 q
        refine pw_gets (i := 2) C dX3_newWireFault_56 (by decide) gl_RX3_65 ?_
        exact pw_eret C hT dX3_newWireFault_59 (by decide) h
      · replace h := h.2 q
        refine pw_iload_n C dX3_newWireFault_25 rfl 3 rfl ?_
        refine pw_bipush (v := 6) C dX3_newWireFault_26 (by decide) ?_
        refine pw_icmp_gt (tgt := 56) C dX3_newWireFault_28 (by decide) (fun q => ?_) (fun q => ?_)
        · replace h := h.1 q
          refine pw_gets (i := 2) C dX3_newWireFault_56 (by decide) gl_RX3_65 ?_
          exact pw_eret C hT dX3_newWireFault_59 (by decide) h
        · replace h := h.2 q
          refine pw_iload C dX3_newWireFault_31 4 rfl ?_
          refine pw_iconst (v := 1) C dX3_newWireFault_33 (by decide) ?_
          refine pw_icmp_lt (tgt := 56) C dX3_newWireFault_34 (by decide) (fun q => ?_) (fun q => ?_)
          · replace h := h.1 q
            refine pw_gets (i := 2) C dX3_newWireFault_56 (by decide) gl_RX3_65 ?_
            exact pw_eret C hT dX3_newWireFault_59 (by decide) h
          · replace h := h.2 q
            refine pw_iload C dX3_newWireFault_37 4 rfl ?_
            refine pw_bipush (v := 6) C dX3_newWireFault_39 (by decide) ?_
            refine pw_icmp_gt (tgt := 56) C dX3_newWireFault_41 (by decide) (fun q => ?_) (fun q => ?_)
            · replace h := h.1 q
              refine pw_gets (i := 2) C dX3_newWireFault_56 (by decide) gl_RX3_65 ?_
              exact pw_eret C hT dX3_newWireFault_59 (by decide) h
            · replace h := h.2 q
              refine pw_iload C dX3_newWireFault_44 5 rfl ?_
              refine pw_if_lt (tgt := 56) C dX3_newWireFault_46 (by decide) (fun q => ?_) (fun q => ?_)
              · replace h := h.1 q
                refine pw_gets (i := 2) C dX3_newWireFault_56 (by decide) gl_RX3_65 ?_
                exact pw_eret C hT dX3_newWireFault_59 (by decide) h
              · replace h := h.2 q
                refine pw_iload C dX3_newWireFault_49 5 rfl ?_
                refine pw_bipush (v := 99) C dX3_newWireFault_51 (by decide) ?_
                refine pw_icmp_le (tgt := 60) C dX3_newWireFault_53 (by decide) (fun q => ?_) (fun q => ?_)
                · replace h := h.1 q
                  refine pw_aload_n C dX3_newWireFault_60 rfl 0 rfl ?_
                  refine pw_getr C dX3_newWireFault_61 gf_RX3_15 (gw_p0 hb) hb.2.1 rfl ?_
                  refine pw_iload_n C dX3_newWireFault_64 rfl 1 rfl ?_
                  obtain ⟨g1, h⟩ := h
                  refine pw_iald C dX3_newWireFault_65 (gw_pn hb 2 (by decide)) hb.2.2.2.1 g1 ?_
                  refine pw_aload_n C dX3_newWireFault_66 rfl 0 rfl ?_
                  refine pw_getr C dX3_newWireFault_67 gf_RX3_9 (gw_p0 hb) hb.2.1 rfl ?_
                  refine pw_iload_n C dX3_newWireFault_70 rfl 2 rfl ?_
                  obtain ⟨g2, h⟩ := h
                  refine pw_iald C dX3_newWireFault_71 (gw_pn hb 1 (by decide)) hb.2.2.1 g2 ?_
                  refine pw_icmp_ne (tgt := 84) C dX3_newWireFault_72 (by decide) (fun q => ?_) (fun q => ?_)
                  · replace h := h.1 q
                    refine pw_gets (i := 3) C dX3_newWireFault_84 (by decide) gl_RX3_68 ?_
                    exact pw_eret C hT dX3_newWireFault_87 (by decide) h
                  · replace h := h.2 q
                    refine pw_aload_n C dX3_newWireFault_75 rfl 0 rfl ?_
                    refine pw_geti C dX3_newWireFault_76 gf_RX3_40 (gw_p0 hb) hb.2.1 rfl ?_
                    refine pw_bipush (v := 14) C dX3_newWireFault_79 (by decide) ?_
                    refine pw_icmp_lt (tgt := 88) C dX3_newWireFault_81 (by decide) (fun q => ?_) (fun q => ?_)
                    · replace h := h.1 q
                      refine pw_iload C dX3_newWireFault_88 5 rfl ?_
                      refine pw_if_ne (tgt := 108) C dX3_newWireFault_90 (by decide) (fun q => ?_) (fun q => ?_)
                      · replace h := h.1 q
                        refine pw_gets (i := 0) C dX3_newWireFault_108 (by decide) gl_RX3_53 ?_
                        exact pw_eret C hT dX3_newWireFault_111 (by decide) h
                      · replace h := h.2 q
                        refine pw_aload_n C dX3_newWireFault_93 rfl 0 rfl ?_
                        refine pw_iload_n C dX3_newWireFault_94 rfl 1 rfl ?_
                        refine pw_iload_n C dX3_newWireFault_95 rfl 2 rfl ?_
                        obtain ⟨Φ3, hM, h⟩ := h
                        refine pw_callV C dX3_newWireFault_96 hM gm_X3_closesDeadLoop gl_RX3_71 rfl hR (by decide) (by decide) (by decide) rfl (gw_p0 hb) hb.2.1 rfl (Nat.le_of_ble_eq_true rfl) ?_
                        rintro _ τ4 ⟨r5, rfl, hv⟩
                        replace h := h r5 τ4 hv
                        show PW x G 6 99 [(0, .ref (G.1 + b)), (1, .int v1), (2, .int v2), (3, .int v3), (4, .int v4), (5, .int v5)] [.int (gz r5)] τ4
                        have hJ : ∀ w0 : Nat, (if r5 = false then 0 else 3 : Nat) = w0 → PW x G 6 111 [(0, .ref (G.1 + b)), (1, .int v1), (2, .int v2), (3, .int v3), (4, .int v4), (5, .int v5)] [.ref (G.2.2.2 w0)] τ4 := by
                          rintro _ rfl
                          exact pw_eret C hT dX3_newWireFault_111 (by repeat' first | decide | split) h
                        clear h
                        refine pw_z_eq (tgt := 108) C dX3_newWireFault_99 (by decide) (fun q12 => ?_) (fun q12 => ?_)
                        · refine pw_gets (i := 0) C dX3_newWireFault_108 (by decide) gl_RX3_53 ?_
                          exact hJ 0 (if_pos q12)
                        · refine pw_gets (i := 3) C dX3_newWireFault_102 (by decide) gl_RX3_68 ?_
                          refine pw_goto (tgt := 111) C dX3_newWireFault_105 (by decide) ?_
                          exact hJ 3 (if_neg q12)
                    · replace h := h.2 q
                      refine pw_gets (i := 3) C dX3_newWireFault_84 (by decide) gl_RX3_68 ?_
                      exact pw_eret C hT dX3_newWireFault_87 (by decide) h
                · replace h := h.2 q
                  refine pw_gets (i := 2) C dX3_newWireFault_56 (by decide) gl_RX3_65 ?_
                  exact pw_eret C hT dX3_newWireFault_59 (by decide) h
    · replace h := h.2 q
      refine pw_gets (i := 1) C dX3_newWireFault_16 (by decide) gl_RX3_59 ?_
      exact pw_eret C hT dX3_newWireFault_19 (by decide) h
set_option maxRecDepth 4000 in
theorem sg_X3_newMarksFault_0 {x : gw_X} {G : gw_G} {Φ : Nat → gw_S → Prop} (C : XC x G RX3 cX3_newMarksFault 3 (some (.object "RateWires$Fault"))) (hR : gw_ok x 2) (hT : RT x G (fe G Φ)) (b : Nat) (v1 : Int32) (v2 : Int32) (hb : gw_plan b) (σ : gw_S)
    (h : (¬ ((if v1 < 0 then false else (if (σ.1 b 4) ≤ v1 then false else true : Bool) : Bool) = false) → (v2 < 0 → Φ 2 σ) ∧ (¬ (v2 < 0) → (v2 ≤ 99 → (¬ (v2 = 0) → Φ 0 σ) ∧ (v2 = 0 → vp_in v1 14 ∧ (∃ Φ2 : Bool → gw_S → Prop, gw_M (xl x) G yX3_closesDeadLoop cX3_closesDeadLoop 3 (some .boolean) 1 [.ref (G.1 + b), .int (σ.1 (b + 4) v1.toNatClampNeg), .int (σ.1 (b + 5) v1.toNatClampNeg)] σ (fz Φ2) ∧ ∀ (r4 : Bool) (τ3 : gw_S), Φ2 r4 τ3 → (Φ (if r4 = false then 0 else 3 : Nat) τ3)))) ∧ (¬ (v2 ≤ 99) → Φ 2 σ))) ∧ ((if v1 < 0 then false else (if (σ.1 b 4) ≤ v1 then false else true : Bool) : Bool) = false → Φ 1 σ)) : PW x G 3 0 [(0, .ref (G.1 + b)), (1, .int v1), (2, .int v2)] [] σ := by
  refine pw_aload_n C dX3_newMarksFault_0 rfl 0 rfl ?_
  refine pw_iload_n C dX3_newMarksFault_1 rfl 1 rfl ?_
  refine pw_callV C dX3_newMarksFault_2 (k_X3_hasWire b v1 hb σ ) gm_X3_hasWire gl_RX3_62 rfl hR (by decide) (by decide) (by decide) rfl (gw_p0 hb) hb.2.1 rfl (Nat.le_of_ble_eq_true rfl) ?_
  rintro _ _ ⟨_, rfl, rfl, rfl⟩
  show PW x G 3 5 [(0, .ref (G.1 + b)), (1, .int v1), (2, .int v2)] [.int (gz (if v1 < 0 then false else (if (σ.1 b 4) ≤ v1 then false else true : Bool) : Bool))] σ
  refine pw_z_ne (tgt := 12) C dX3_newMarksFault_5 (by decide) (fun q => ?_) (fun q => ?_)
  · replace h := h.1 q
    refine pw_iload_n C dX3_newMarksFault_12 rfl 2 rfl ?_
    refine pw_if_lt (tgt := 22) C dX3_newMarksFault_13 (by decide) (fun q => ?_) (fun q => ?_)
    · replace h := h.1 q
      refine pw_gets (i := 2) C dX3_newMarksFault_22 (by decide) gl_RX3_65 ?_
      exact pw_eret C hT dX3_newMarksFault_25 (by decide) h
    · replace h := h.2 q
      refine pw_iload_n C dX3_newMarksFault_16 rfl 2 rfl ?_
      refine pw_bipush (v := 99) C dX3_newMarksFault_17 (by decide) ?_
      refine pw_icmp_le (tgt := 26) C dX3_newMarksFault_19 (by decide) (fun q => ?_) (fun q => ?_)
      · replace h := h.1 q
        refine pw_iload_n C dX3_newMarksFault_26 rfl 2 rfl ?_
        refine pw_if_ne (tgt := 55) C dX3_newMarksFault_27 (by decide) (fun q => ?_) (fun q => ?_)
        · replace h := h.1 q
          refine pw_gets (i := 0) C dX3_newMarksFault_55 (by decide) gl_RX3_53 ?_
          exact pw_eret C hT dX3_newMarksFault_58 (by decide) h
        · replace h := h.2 q
          refine pw_aload_n C dX3_newMarksFault_30 rfl 0 rfl ?_
          refine pw_aload_n C dX3_newMarksFault_31 rfl 0 rfl ?_
          refine pw_getr C dX3_newMarksFault_32 gf_RX3_21 (gw_p0 hb) hb.2.1 rfl ?_
          refine pw_iload_n C dX3_newMarksFault_35 rfl 1 rfl ?_
          obtain ⟨g1, h⟩ := h
          refine pw_iald C dX3_newMarksFault_36 (gw_pn hb 4 (by decide)) hb.2.2.2.2.2.1 g1 ?_
          refine pw_aload_n C dX3_newMarksFault_37 rfl 0 rfl ?_
          refine pw_getr C dX3_newMarksFault_38 gf_RX3_24 (gw_p0 hb) hb.2.1 rfl ?_
          refine pw_iload_n C dX3_newMarksFault_41 rfl 1 rfl ?_
          refine pw_iald C dX3_newMarksFault_42 (gw_pn hb 5 (by decide)) hb.2.2.2.2.2.2.1 g1 ?_
          obtain ⟨Φ2, hM, h⟩ := h
          refine pw_callV C dX3_newMarksFault_43 hM gm_X3_closesDeadLoop gl_RX3_71 rfl hR (by decide) (by decide) (by decide) rfl (gw_p0 hb) hb.2.1 rfl (Nat.le_of_ble_eq_true rfl) ?_
          rintro _ τ3 ⟨r4, rfl, hv⟩
          replace h := h r4 τ3 hv
          show PW x G 3 46 [(0, .ref (G.1 + b)), (1, .int v1), (2, .int v2)] [.int (gz r4)] τ3
          have hJ : ∀ w0 : Nat, (if r4 = false then 0 else 3 : Nat) = w0 → PW x G 3 58 [(0, .ref (G.1 + b)), (1, .int v1), (2, .int v2)] [.ref (G.2.2.2 w0)] τ3 := by
            rintro _ rfl
            exact pw_eret C hT dX3_newMarksFault_58 (by repeat' first | decide | split) h
          clear h
          refine pw_z_eq (tgt := 55) C dX3_newMarksFault_46 (by decide) (fun q5 => ?_) (fun q5 => ?_)
          · refine pw_gets (i := 0) C dX3_newMarksFault_55 (by decide) gl_RX3_53 ?_
            exact hJ 0 (if_pos q5)
          · refine pw_gets (i := 3) C dX3_newMarksFault_49 (by decide) gl_RX3_68 ?_
            refine pw_goto (tgt := 58) C dX3_newMarksFault_52 (by decide) ?_
            exact hJ 3 (if_neg q5)
      · replace h := h.2 q
        refine pw_gets (i := 2) C dX3_newMarksFault_22 (by decide) gl_RX3_65 ?_
        exact pw_eret C hT dX3_newMarksFault_25 (by decide) h
  · replace h := h.2 q
    refine pw_gets (i := 1) C dX3_newMarksFault_8 (by decide) gl_RX3_59 ?_
    exact pw_eret C hT dX3_newMarksFault_11 (by decide) h
set_option maxRecDepth 4000 in
theorem sg_X3_workFault_0 {x : gw_X} {G : gw_G} {Φ : Nat → gw_S → Prop} (C : XC x G RX3 cX3_workFault 2 (some (.object "RateWires$Fault"))) (hR : gw_ok x 2) (hT : RT x G (fe G Φ)) (b : Nat) (v1 : Int32) (hb : gw_plan b) (σ : gw_S)
    (h : (¬ ((if v1 < 0 then false else (if (σ.1 b 0) ≤ v1 then false else true : Bool) : Bool) = false) → ∃ Φ1 : Bool → gw_S → Prop, gw_M (xl x) G yX3_canWork cX3_canWork 3 (some .boolean) 1 [.ref (G.1 + b), .int v1] σ (fz Φ1) ∧ ∀ (r3 : Bool) (τ2 : gw_S), Φ1 r3 τ2 → (Φ (if r3 = false then 3 else 0 : Nat) τ2)) ∧ ((if v1 < 0 then false else (if (σ.1 b 0) ≤ v1 then false else true : Bool) : Bool) = false → Φ 1 σ)) : PW x G 2 0 [(0, .ref (G.1 + b)), (1, .int v1)] [] σ := by
  refine pw_aload_n C dX3_workFault_0 rfl 0 rfl ?_
  refine pw_iload_n C dX3_workFault_1 rfl 1 rfl ?_
  refine pw_callV C dX3_workFault_2 (k_X3_hasModule b v1 hb σ ) gm_X3_hasModule gl_RX3_49 rfl hR (by decide) (by decide) (by decide) rfl (gw_p0 hb) hb.2.1 rfl (Nat.le_of_ble_eq_true rfl) ?_
  rintro _ _ ⟨_, rfl, rfl, rfl⟩
  show PW x G 2 5 [(0, .ref (G.1 + b)), (1, .int v1)] [.int (gz (if v1 < 0 then false else (if (σ.1 b 0) ≤ v1 then false else true : Bool) : Bool))] σ
  refine pw_z_ne (tgt := 12) C dX3_workFault_5 (by decide) (fun q => ?_) (fun q => ?_)
  · replace h := h.1 q
    refine pw_aload_n C dX3_workFault_12 rfl 0 rfl ?_
    refine pw_iload_n C dX3_workFault_13 rfl 1 rfl ?_
    obtain ⟨Φ1, hM, h⟩ := h
    refine pw_callV C dX3_workFault_14 hM gm_X3_canWork gl_RX3_75 rfl hR (by decide) (by decide) (by decide) rfl (gw_p0 hb) hb.2.1 rfl (Nat.le_of_ble_eq_true rfl) ?_
    rintro _ τ2 ⟨r3, rfl, hv⟩
    replace h := h r3 τ2 hv
    show PW x G 2 17 [(0, .ref (G.1 + b)), (1, .int v1)] [.int (gz r3)] τ2
    have hJ : ∀ w0 : Nat, (if r3 = false then 3 else 0 : Nat) = w0 → PW x G 2 29 [(0, .ref (G.1 + b)), (1, .int v1)] [.ref (G.2.2.2 w0)] τ2 := by
      rintro _ rfl
      exact pw_eret C hT dX3_workFault_29 (by repeat' first | decide | split) h
    clear h
    refine pw_z_eq (tgt := 26) C dX3_workFault_17 (by decide) (fun q2 => ?_) (fun q2 => ?_)
    · refine pw_gets (i := 3) C dX3_workFault_26 (by decide) gl_RX3_68 ?_
      exact hJ 3 (if_pos q2)
    · refine pw_gets (i := 0) C dX3_workFault_20 (by decide) gl_RX3_53 ?_
      refine pw_goto (tgt := 29) C dX3_workFault_23 (by decide) ?_
      exact hJ 0 (if_neg q2)
  · replace h := h.2 q
    refine pw_gets (i := 1) C dX3_workFault_8 (by decide) gl_RX3_59 ?_
    exact pw_eret C hT dX3_workFault_11 (by decide) h
set_option maxRecDepth 4000 in
theorem sg_X3_newModule_0 {x : gw_X} {G : gw_G} {Φ : Int32 → gw_S → Prop} (C : XC x G RX3 cX3_newModule 3 (some .int)) (hR : gw_ok x 0) (hT : RT x G (fi Φ)) (b : Nat) (v1 : Int32) (v2 : Int32) (hb : gw_plan b) (σ : gw_S)
    (h : vp_in (σ.1 b 0) 8 ∧ (∀ τ2 : gw_S, τ2 = gw_u σ (b + 1) ((σ.1 b 0).toNatClampNeg) v1 → (vp_in (τ2.1 b 0) 8 ∧ (∀ τ4 : gw_S, τ4 = gw_u τ2 (b + 2) ((τ2.1 b 0).toNatClampNeg) v2 → (vp_in (τ4.1 b 0) 8 ∧ (∀ τ6 : gw_S, τ6 = gw_u τ4 (b + 3) ((τ4.1 b 0).toNatClampNeg) 0 → (∀ τ7 : gw_S, τ7 = gw_u τ6 b 0 ((τ6.1 b 0) + 1) → (Φ ((τ7.1 b 0) - 1) τ7)))))))) : PW x G 3 0 [(0, .ref (G.1 + b)), (1, .int v1), (2, .int v2)] [] σ := by
  refine pw_aload_n C dX3_newModule_0 rfl 0 rfl ?_
  refine pw_getr C dX3_newModule_1 gf_RX3_9 (gw_p0 hb) hb.2.1 rfl ?_
  refine pw_aload_n C dX3_newModule_4 rfl 0 rfl ?_
  refine pw_geti C dX3_newModule_5 gf_RX3_36 (gw_p0 hb) hb.2.1 rfl ?_
  refine pw_iload_n C dX3_newModule_8 rfl 1 rfl ?_
  obtain ⟨g1, h⟩ := h
  refine pw_iast C dX3_newModule_9 (gw_pn hb 1 (by decide)) hb.2.2.1 g1 ?_
  generalize hτ2 : gw_u σ (b + 1) ((σ.1 b 0).toNatClampNeg) v1 = τ2
  replace h := h τ2 hτ2.symm
  show PW x G 3 10 [(0, .ref (G.1 + b)), (1, .int v1), (2, .int v2)] [] τ2
  refine pw_aload_n C dX3_newModule_10 rfl 0 rfl ?_
  refine pw_getr C dX3_newModule_11 gf_RX3_15 (gw_p0 hb) hb.2.1 rfl ?_
  refine pw_aload_n C dX3_newModule_14 rfl 0 rfl ?_
  refine pw_geti C dX3_newModule_15 gf_RX3_36 (gw_p0 hb) hb.2.1 rfl ?_
  refine pw_iload_n C dX3_newModule_18 rfl 2 rfl ?_
  obtain ⟨g3, h⟩ := h
  refine pw_iast C dX3_newModule_19 (gw_pn hb 2 (by decide)) hb.2.2.2.1 g3 ?_
  generalize hτ4 : gw_u τ2 (b + 2) ((τ2.1 b 0).toNatClampNeg) v2 = τ4
  replace h := h τ4 hτ4.symm
  show PW x G 3 20 [(0, .ref (G.1 + b)), (1, .int v1), (2, .int v2)] [] τ4
  refine pw_aload_n C dX3_newModule_20 rfl 0 rfl ?_
  refine pw_getr C dX3_newModule_21 gf_RX3_18 (gw_p0 hb) hb.2.1 rfl ?_
  refine pw_aload_n C dX3_newModule_24 rfl 0 rfl ?_
  refine pw_geti C dX3_newModule_25 gf_RX3_36 (gw_p0 hb) hb.2.1 rfl ?_
  refine pw_iconst (v := 0) C dX3_newModule_28 (by decide) ?_
  obtain ⟨g5, h⟩ := h
  refine pw_iast C dX3_newModule_29 (gw_pn hb 3 (by decide)) hb.2.2.2.2.1 g5 ?_
  generalize hτ6 : gw_u τ4 (b + 3) ((τ4.1 b 0).toNatClampNeg) 0 = τ6
  replace h := h τ6 hτ6.symm
  show PW x G 3 30 [(0, .ref (G.1 + b)), (1, .int v1), (2, .int v2)] [] τ6
  refine pw_aload_n C dX3_newModule_30 rfl 0 rfl ?_
  refine pw_dup C dX3_newModule_31 rfl ?_
  refine pw_geti C dX3_newModule_32 gf_RX3_36 (gw_p0 hb) hb.2.1 rfl ?_
  refine pw_iconst (v := 1) C dX3_newModule_35 (by decide) ?_
  refine pw_iadd C dX3_newModule_36 ?_
  refine pw_puti C dX3_newModule_37 gf_RX3_36 rfl rfl rfl (gw_p0 hb) hb.2.1 rfl ?_
  generalize hτ7 : gw_u τ6 b 0 ((τ6.1 b 0) + 1) = τ7
  replace h := h τ7 hτ7.symm
  show PW x G 3 40 [(0, .ref (G.1 + b)), (1, .int v1), (2, .int v2)] [] τ7
  refine pw_aload_n C dX3_newModule_40 rfl 0 rfl ?_
  refine pw_geti C dX3_newModule_41 gf_RX3_36 (gw_p0 hb) hb.2.1 rfl ?_
  refine pw_iconst (v := 1) C dX3_newModule_44 (by decide) ?_
  refine pw_isub C dX3_newModule_45 ?_
  exact pw_iret C hT dX3_newModule_46 h
set_option maxRecDepth 4000 in
theorem sg_X3_newWire_0 {x : gw_X} {G : gw_G} {Φ : Int32 → gw_S → Prop} (C : XC x G RX3 cX3_newWire 6 (some .int)) (hR : gw_ok x 0) (hT : RT x G (fi Φ)) (b : Nat) (v1 : Int32) (v2 : Int32) (v3 : Int32) (v4 : Int32) (v5 : Int32) (hb : gw_plan b) (σ : gw_S)
    (h : vp_in (σ.1 b 4) 14 ∧ (∀ τ2 : gw_S, τ2 = gw_u σ (b + 4) ((σ.1 b 4).toNatClampNeg) v1 → (vp_in (τ2.1 b 4) 14 ∧ (∀ τ4 : gw_S, τ4 = gw_u τ2 (b + 5) ((τ2.1 b 4).toNatClampNeg) v2 → (vp_in (τ4.1 b 4) 14 ∧ (∀ τ6 : gw_S, τ6 = gw_u τ4 (b + 6) ((τ4.1 b 4).toNatClampNeg) v3 → (vp_in (τ6.1 b 4) 14 ∧ (∀ τ8 : gw_S, τ8 = gw_u τ6 (b + 7) ((τ6.1 b 4).toNatClampNeg) v4 → (vp_in (τ8.1 b 4) 14 ∧ (∀ τ10 : gw_S, τ10 = gw_u τ8 (b + 8) ((τ8.1 b 4).toNatClampNeg) v5 → (∀ τ11 : gw_S, τ11 = gw_u τ10 b 4 ((τ10.1 b 4) + 1) → (Φ ((τ11.1 b 4) - 1) τ11)))))))))))) : PW x G 6 0 [(0, .ref (G.1 + b)), (1, .int v1), (2, .int v2), (3, .int v3), (4, .int v4), (5, .int v5)] [] σ := by
  refine pw_aload_n C dX3_newWire_0 rfl 0 rfl ?_
  refine pw_getr C dX3_newWire_1 gf_RX3_21 (gw_p0 hb) hb.2.1 rfl ?_
  refine pw_aload_n C dX3_newWire_4 rfl 0 rfl ?_
  refine pw_geti C dX3_newWire_5 gf_RX3_40 (gw_p0 hb) hb.2.1 rfl ?_
  refine pw_iload_n C dX3_newWire_8 rfl 1 rfl ?_
  obtain ⟨g1, h⟩ := h
  refine pw_iast C dX3_newWire_9 (gw_pn hb 4 (by decide)) hb.2.2.2.2.2.1 g1 ?_
  generalize hτ2 : gw_u σ (b + 4) ((σ.1 b 4).toNatClampNeg) v1 = τ2
  replace h := h τ2 hτ2.symm
  show PW x G 6 10 [(0, .ref (G.1 + b)), (1, .int v1), (2, .int v2), (3, .int v3), (4, .int v4), (5, .int v5)] [] τ2
  refine pw_aload_n C dX3_newWire_10 rfl 0 rfl ?_
  refine pw_getr C dX3_newWire_11 gf_RX3_24 (gw_p0 hb) hb.2.1 rfl ?_
  refine pw_aload_n C dX3_newWire_14 rfl 0 rfl ?_
  refine pw_geti C dX3_newWire_15 gf_RX3_40 (gw_p0 hb) hb.2.1 rfl ?_
  refine pw_iload_n C dX3_newWire_18 rfl 2 rfl ?_
  obtain ⟨g3, h⟩ := h
  refine pw_iast C dX3_newWire_19 (gw_pn hb 5 (by decide)) hb.2.2.2.2.2.2.1 g3 ?_
  generalize hτ4 : gw_u τ2 (b + 5) ((τ2.1 b 4).toNatClampNeg) v2 = τ4
  replace h := h τ4 hτ4.symm
  show PW x G 6 20 [(0, .ref (G.1 + b)), (1, .int v1), (2, .int v2), (3, .int v3), (4, .int v4), (5, .int v5)] [] τ4
  refine pw_aload_n C dX3_newWire_20 rfl 0 rfl ?_
  refine pw_getr C dX3_newWire_21 gf_RX3_27 (gw_p0 hb) hb.2.1 rfl ?_
  refine pw_aload_n C dX3_newWire_24 rfl 0 rfl ?_
  refine pw_geti C dX3_newWire_25 gf_RX3_40 (gw_p0 hb) hb.2.1 rfl ?_
  refine pw_iload_n C dX3_newWire_28 rfl 3 rfl ?_
  obtain ⟨g5, h⟩ := h
  refine pw_iast C dX3_newWire_29 (gw_pn hb 6 (by decide)) hb.2.2.2.2.2.2.2.1 g5 ?_
  generalize hτ6 : gw_u τ4 (b + 6) ((τ4.1 b 4).toNatClampNeg) v3 = τ6
  replace h := h τ6 hτ6.symm
  show PW x G 6 30 [(0, .ref (G.1 + b)), (1, .int v1), (2, .int v2), (3, .int v3), (4, .int v4), (5, .int v5)] [] τ6
  refine pw_aload_n C dX3_newWire_30 rfl 0 rfl ?_
  refine pw_getr C dX3_newWire_31 gf_RX3_30 (gw_p0 hb) hb.2.1 rfl ?_
  refine pw_aload_n C dX3_newWire_34 rfl 0 rfl ?_
  refine pw_geti C dX3_newWire_35 gf_RX3_40 (gw_p0 hb) hb.2.1 rfl ?_
  refine pw_iload C dX3_newWire_38 4 rfl ?_
  obtain ⟨g7, h⟩ := h
  refine pw_iast C dX3_newWire_40 (gw_pn hb 7 (by decide)) hb.2.2.2.2.2.2.2.2.1 g7 ?_
  generalize hτ8 : gw_u τ6 (b + 7) ((τ6.1 b 4).toNatClampNeg) v4 = τ8
  replace h := h τ8 hτ8.symm
  show PW x G 6 41 [(0, .ref (G.1 + b)), (1, .int v1), (2, .int v2), (3, .int v3), (4, .int v4), (5, .int v5)] [] τ8
  refine pw_aload_n C dX3_newWire_41 rfl 0 rfl ?_
  refine pw_getr C dX3_newWire_42 gf_RX3_33 (gw_p0 hb) hb.2.1 rfl ?_
  refine pw_aload_n C dX3_newWire_45 rfl 0 rfl ?_
  refine pw_geti C dX3_newWire_46 gf_RX3_40 (gw_p0 hb) hb.2.1 rfl ?_
  refine pw_iload C dX3_newWire_49 5 rfl ?_
  obtain ⟨g9, h⟩ := h
  refine pw_iast C dX3_newWire_51 (gw_pn hb 8 (by decide)) hb.2.2.2.2.2.2.2.2.2 g9 ?_
  generalize hτ10 : gw_u τ8 (b + 8) ((τ8.1 b 4).toNatClampNeg) v5 = τ10
  replace h := h τ10 hτ10.symm
  show PW x G 6 52 [(0, .ref (G.1 + b)), (1, .int v1), (2, .int v2), (3, .int v3), (4, .int v4), (5, .int v5)] [] τ10
  refine pw_aload_n C dX3_newWire_52 rfl 0 rfl ?_
  refine pw_dup C dX3_newWire_53 rfl ?_
  refine pw_geti C dX3_newWire_54 gf_RX3_40 (gw_p0 hb) hb.2.1 rfl ?_
  refine pw_iconst (v := 1) C dX3_newWire_57 (by decide) ?_
  refine pw_iadd C dX3_newWire_58 ?_
  refine pw_puti C dX3_newWire_59 gf_RX3_40 rfl rfl rfl (gw_p0 hb) hb.2.1 rfl ?_
  generalize hτ11 : gw_u τ10 b 4 ((τ10.1 b 4) + 1) = τ11
  replace h := h τ11 hτ11.symm
  show PW x G 6 62 [(0, .ref (G.1 + b)), (1, .int v1), (2, .int v2), (3, .int v3), (4, .int v4), (5, .int v5)] [] τ11
  refine pw_aload_n C dX3_newWire_62 rfl 0 rfl ?_
  refine pw_geti C dX3_newWire_63 gf_RX3_40 (gw_p0 hb) hb.2.1 rfl ?_
  refine pw_iconst (v := 1) C dX3_newWire_66 (by decide) ?_
  refine pw_isub C dX3_newWire_67 ?_
  exact pw_iret C hT dX3_newWire_68 h
set_option maxRecDepth 4000 in
theorem sg_X3_dropWire_0 {x : gw_X} {G : gw_G} {Φ : Int32 → gw_S → Prop} (C : XC x G RX3 cX3_dropWire 4 (some .int)) (hR : gw_ok x 0) (hT : RT x G (fi Φ)) (b : Nat) (v1 : Int32) (hb : gw_plan b) (σ : gw_S)
    (h : vp_in v1 14 ∧ (∀ τ2 : gw_S, τ2 = gw_u σ b 4 ((σ.1 b 4) - 1) → (PW x G 4 19 [(0, .ref (G.1 + b)), (1, .int v1), (2, .int (σ.1 (b + 8) v1.toNatClampNeg)), (3, .int v1)] [] τ2))) : PW x G 4 0 [(0, .ref (G.1 + b)), (1, .int v1)] [] σ := by
  refine pw_aload_n C dX3_dropWire_0 rfl 0 rfl ?_
  refine pw_getr C dX3_dropWire_1 gf_RX3_33 (gw_p0 hb) hb.2.1 rfl ?_
  refine pw_iload_n C dX3_dropWire_4 rfl 1 rfl ?_
  obtain ⟨g1, h⟩ := h
  refine pw_iald C dX3_dropWire_5 (gw_pn hb 8 (by decide)) hb.2.2.2.2.2.2.2.2.2 g1 ?_
  refine pw_istore_n C dX3_dropWire_6 rfl (by decide) rfl ?_
  refine pw_aload_n C dX3_dropWire_7 rfl 1 rfl ?_
  refine pw_dup C dX3_dropWire_8 rfl ?_
  refine pw_geti C dX3_dropWire_9 gf_RX3_40 (gw_p0 hb) hb.2.1 rfl ?_
  refine pw_iconst (v := 1) C dX3_dropWire_12 (by decide) ?_
  refine pw_isub C dX3_dropWire_13 ?_
  refine pw_puti C dX3_dropWire_14 gf_RX3_40 rfl rfl rfl (gw_p0 hb) hb.2.1 rfl ?_
  generalize hτ2 : gw_u σ b 4 ((σ.1 b 4) - 1) = τ2
  replace h := h τ2 hτ2.symm
  show PW x G 4 17 [(2, .int (σ.1 (b + 8) v1.toNatClampNeg)), (0, .ref (G.1 + b)), (1, .int v1)] [] τ2
  refine pw_iload_n C dX3_dropWire_17 rfl 2 rfl ?_
  refine pw_istore_n C dX3_dropWire_18 rfl (by decide) rfl ?_
  exact pw_sub [2, 3, 1, 0] rfl h
set_option maxRecDepth 4000 in
theorem sg_X3_dropWire_19 {x : gw_X} {G : gw_G} {Φ : Int32 → gw_S → Prop} (C : XC x G RX3 cX3_dropWire 4 (some .int)) (hR : gw_ok x 0) (hT : RT x G (fi Φ)) (b : Nat) (hb : gw_plan b) (v1 : Int32) (v2 : Int32) (v3 : Int32) (σ : gw_S)
    (h : ((σ.1 b 4) ≤ v3 → Φ v2 σ) ∧ (¬ ((σ.1 b 4) ≤ v3) → vp_in (v3 + 1) 14 ∧ (vp_in v3 14 ∧ (∀ τ3 : gw_S, τ3 = gw_u σ (b + 4) v3.toNatClampNeg (σ.1 (b + 4) ((v3 + 1).toNatClampNeg)) → (∀ τ4 : gw_S, τ4 = gw_u τ3 (b + 5) v3.toNatClampNeg (τ3.1 (b + 5) ((v3 + 1).toNatClampNeg)) → (∀ τ5 : gw_S, τ5 = gw_u τ4 (b + 6) v3.toNatClampNeg (τ4.1 (b + 6) ((v3 + 1).toNatClampNeg)) → (∀ τ6 : gw_S, τ6 = gw_u τ5 (b + 7) v3.toNatClampNeg (τ5.1 (b + 7) ((v3 + 1).toNatClampNeg)) → (∀ τ7 : gw_S, τ7 = gw_u τ6 (b + 8) v3.toNatClampNeg (τ6.1 (b + 8) ((v3 + 1).toNatClampNeg)) → (PW x G 4 19 [(0, .ref (G.1 + b)), (1, .int v1), (2, .int v2), (3, .int (v3 + 1))] [] τ7))))))))) : PW x G 4 19 [(0, .ref (G.1 + b)), (1, .int v1), (2, .int v2), (3, .int v3)] [] σ := by
  refine pw_iload_n C dX3_dropWire_19 rfl 3 rfl ?_
  refine pw_aload_n C dX3_dropWire_20 rfl 0 rfl ?_
  refine pw_geti C dX3_dropWire_21 gf_RX3_40 (gw_p0 hb) hb.2.1 rfl ?_
  refine pw_icmp_ge (tgt := 103) C dX3_dropWire_24 (by decide) (fun q => ?_) (fun q => ?_)
  · replace h := h.1 q
    refine pw_iload_n C dX3_dropWire_103 rfl 2 rfl ?_
    exact pw_iret C hT dX3_dropWire_104 h
  · replace h := h.2 q
    refine pw_aload_n C dX3_dropWire_27 rfl 0 rfl ?_
    refine pw_getr C dX3_dropWire_28 gf_RX3_21 (gw_p0 hb) hb.2.1 rfl ?_
    refine pw_iload_n C dX3_dropWire_31 rfl 3 rfl ?_
    refine pw_aload_n C dX3_dropWire_32 rfl 0 rfl ?_
    refine pw_getr C dX3_dropWire_33 gf_RX3_21 (gw_p0 hb) hb.2.1 rfl ?_
    refine pw_iload_n C dX3_dropWire_36 rfl 3 rfl ?_
    refine pw_iconst (v := 1) C dX3_dropWire_37 (by decide) ?_
    refine pw_iadd C dX3_dropWire_38 ?_
    obtain ⟨g1, h⟩ := h
    refine pw_iald C dX3_dropWire_39 (gw_pn hb 4 (by decide)) hb.2.2.2.2.2.1 g1 ?_
    obtain ⟨g2, h⟩ := h
    refine pw_iast C dX3_dropWire_40 (gw_pn hb 4 (by decide)) hb.2.2.2.2.2.1 g2 ?_
    generalize hτ3 : gw_u σ (b + 4) v3.toNatClampNeg (σ.1 (b + 4) ((v3 + 1).toNatClampNeg)) = τ3
    replace h := h τ3 hτ3.symm
    show PW x G 4 41 [(0, .ref (G.1 + b)), (1, .int v1), (2, .int v2), (3, .int v3)] [] τ3
    refine pw_aload_n C dX3_dropWire_41 rfl 0 rfl ?_
    refine pw_getr C dX3_dropWire_42 gf_RX3_24 (gw_p0 hb) hb.2.1 rfl ?_
    refine pw_iload_n C dX3_dropWire_45 rfl 3 rfl ?_
    refine pw_aload_n C dX3_dropWire_46 rfl 0 rfl ?_
    refine pw_getr C dX3_dropWire_47 gf_RX3_24 (gw_p0 hb) hb.2.1 rfl ?_
    refine pw_iload_n C dX3_dropWire_50 rfl 3 rfl ?_
    refine pw_iconst (v := 1) C dX3_dropWire_51 (by decide) ?_
    refine pw_iadd C dX3_dropWire_52 ?_
    refine pw_iald C dX3_dropWire_53 (gw_pn hb 5 (by decide)) hb.2.2.2.2.2.2.1 g1 ?_
    refine pw_iast C dX3_dropWire_54 (gw_pn hb 5 (by decide)) hb.2.2.2.2.2.2.1 g2 ?_
    generalize hτ4 : gw_u τ3 (b + 5) v3.toNatClampNeg (τ3.1 (b + 5) ((v3 + 1).toNatClampNeg)) = τ4
    replace h := h τ4 hτ4.symm
    show PW x G 4 55 [(0, .ref (G.1 + b)), (1, .int v1), (2, .int v2), (3, .int v3)] [] τ4
    refine pw_aload_n C dX3_dropWire_55 rfl 0 rfl ?_
    refine pw_getr C dX3_dropWire_56 gf_RX3_27 (gw_p0 hb) hb.2.1 rfl ?_
    refine pw_iload_n C dX3_dropWire_59 rfl 3 rfl ?_
    refine pw_aload_n C dX3_dropWire_60 rfl 0 rfl ?_
    refine pw_getr C dX3_dropWire_61 gf_RX3_27 (gw_p0 hb) hb.2.1 rfl ?_
    refine pw_iload_n C dX3_dropWire_64 rfl 3 rfl ?_
    refine pw_iconst (v := 1) C dX3_dropWire_65 (by decide) ?_
    refine pw_iadd C dX3_dropWire_66 ?_
    refine pw_iald C dX3_dropWire_67 (gw_pn hb 6 (by decide)) hb.2.2.2.2.2.2.2.1 g1 ?_
    refine pw_iast C dX3_dropWire_68 (gw_pn hb 6 (by decide)) hb.2.2.2.2.2.2.2.1 g2 ?_
    generalize hτ5 : gw_u τ4 (b + 6) v3.toNatClampNeg (τ4.1 (b + 6) ((v3 + 1).toNatClampNeg)) = τ5
    replace h := h τ5 hτ5.symm
    show PW x G 4 69 [(0, .ref (G.1 + b)), (1, .int v1), (2, .int v2), (3, .int v3)] [] τ5
    refine pw_aload_n C dX3_dropWire_69 rfl 0 rfl ?_
    refine pw_getr C dX3_dropWire_70 gf_RX3_30 (gw_p0 hb) hb.2.1 rfl ?_
    refine pw_iload_n C dX3_dropWire_73 rfl 3 rfl ?_
    refine pw_aload_n C dX3_dropWire_74 rfl 0 rfl ?_
    refine pw_getr C dX3_dropWire_75 gf_RX3_30 (gw_p0 hb) hb.2.1 rfl ?_
    refine pw_iload_n C dX3_dropWire_78 rfl 3 rfl ?_
    refine pw_iconst (v := 1) C dX3_dropWire_79 (by decide) ?_
    refine pw_iadd C dX3_dropWire_80 ?_
    refine pw_iald C dX3_dropWire_81 (gw_pn hb 7 (by decide)) hb.2.2.2.2.2.2.2.2.1 g1 ?_
    refine pw_iast C dX3_dropWire_82 (gw_pn hb 7 (by decide)) hb.2.2.2.2.2.2.2.2.1 g2 ?_
    generalize hτ6 : gw_u τ5 (b + 7) v3.toNatClampNeg (τ5.1 (b + 7) ((v3 + 1).toNatClampNeg)) = τ6
    replace h := h τ6 hτ6.symm
    show PW x G 4 83 [(0, .ref (G.1 + b)), (1, .int v1), (2, .int v2), (3, .int v3)] [] τ6
    refine pw_aload_n C dX3_dropWire_83 rfl 0 rfl ?_
    refine pw_getr C dX3_dropWire_84 gf_RX3_33 (gw_p0 hb) hb.2.1 rfl ?_
    refine pw_iload_n C dX3_dropWire_87 rfl 3 rfl ?_
    refine pw_aload_n C dX3_dropWire_88 rfl 0 rfl ?_
    refine pw_getr C dX3_dropWire_89 gf_RX3_33 (gw_p0 hb) hb.2.1 rfl ?_
    refine pw_iload_n C dX3_dropWire_92 rfl 3 rfl ?_
    refine pw_iconst (v := 1) C dX3_dropWire_93 (by decide) ?_
    refine pw_iadd C dX3_dropWire_94 ?_
    refine pw_iald C dX3_dropWire_95 (gw_pn hb 8 (by decide)) hb.2.2.2.2.2.2.2.2.2 g1 ?_
    refine pw_iast C dX3_dropWire_96 (gw_pn hb 8 (by decide)) hb.2.2.2.2.2.2.2.2.2 g2 ?_
    generalize hτ7 : gw_u τ6 (b + 8) v3.toNatClampNeg (τ6.1 (b + 8) ((v3 + 1).toNatClampNeg)) = τ7
    replace h := h τ7 hτ7.symm
    show PW x G 4 97 [(0, .ref (G.1 + b)), (1, .int v1), (2, .int v2), (3, .int v3)] [] τ7
    refine pw_iinc (v := (v3 + 1)) (j := 3) C dX3_dropWire_97 rfl rfl (by decide) rfl ?_
    refine pw_goto (tgt := 19) C dX3_dropWire_100 (by decide) ?_
    exact pw_sub [1, 2, 3, 0] rfl h
set_option maxRecDepth 4000 in
theorem sg_X3_newMarks_0 {x : gw_X} {G : gw_G} {Φ : Int32 → gw_S → Prop} (C : XC x G RX3 cX3_newMarks 4 (some .int)) (hR : gw_ok x 0) (hT : RT x G (fi Φ)) (b : Nat) (v1 : Int32) (v2 : Int32) (hb : gw_plan b) (σ : gw_S)
    (h : vp_in v1 14 ∧ (∀ τ2 : gw_S, τ2 = gw_u σ (b + 8) v1.toNatClampNeg v2 → (Φ (σ.1 (b + 8) v1.toNatClampNeg) τ2))) : PW x G 4 0 [(0, .ref (G.1 + b)), (1, .int v1), (2, .int v2)] [] σ := by
  refine pw_aload_n C dX3_newMarks_0 rfl 0 rfl ?_
  refine pw_getr C dX3_newMarks_1 gf_RX3_33 (gw_p0 hb) hb.2.1 rfl ?_
  refine pw_iload_n C dX3_newMarks_4 rfl 1 rfl ?_
  obtain ⟨g1, h⟩ := h
  refine pw_iald C dX3_newMarks_5 (gw_pn hb 8 (by decide)) hb.2.2.2.2.2.2.2.2.2 g1 ?_
  refine pw_istore_n C dX3_newMarks_6 rfl (by decide) rfl ?_
  refine pw_aload_n C dX3_newMarks_7 rfl 1 rfl ?_
  refine pw_getr C dX3_newMarks_8 gf_RX3_33 (gw_p0 hb) hb.2.1 rfl ?_
  refine pw_iload_n C dX3_newMarks_11 rfl 2 rfl ?_
  refine pw_iload_n C dX3_newMarks_12 rfl 3 rfl ?_
  refine pw_iast C dX3_newMarks_13 (gw_pn hb 8 (by decide)) hb.2.2.2.2.2.2.2.2.2 g1 ?_
  generalize hτ2 : gw_u σ (b + 8) v1.toNatClampNeg v2 = τ2
  replace h := h τ2 hτ2.symm
  show PW x G 4 14 [(3, .int (σ.1 (b + 8) v1.toNatClampNeg)), (0, .ref (G.1 + b)), (1, .int v1), (2, .int v2)] [] τ2
  refine pw_iload_n C dX3_newMarks_14 rfl 0 rfl ?_
  exact pw_iret C hT dX3_newMarks_15 h
set_option maxRecDepth 4000 in
theorem sg_X3_doWork_0 {x : gw_X} {G : gw_G} {Φ : gw_S → Prop} (C : XC x G RX3 cX3_doWork 3 none) (hR : gw_ok x 1) (hT : RT x G (fv Φ)) (b : Nat) (v1 : Int32) (hb : gw_plan b) (σ : gw_S)
    (h : PW x G 3 2 [(0, .ref (G.1 + b)), (1, .int v1), (2, .int 0)] [] σ) : PW x G 3 0 [(0, .ref (G.1 + b)), (1, .int v1)] [] σ := by
  refine pw_iconst (v := 0) C dX3_doWork_0 (by decide) ?_
  refine pw_istore_n C dX3_doWork_1 rfl (by decide) rfl ?_
  exact pw_sub [1, 2, 0] rfl h
set_option maxRecDepth 4000 in
theorem sg_X3_doWork_2 {x : gw_X} {G : gw_G} {Φ : gw_S → Prop} (C : XC x G RX3 cX3_doWork 3 none) (hR : gw_ok x 1) (hT : RT x G (fv Φ)) (b : Nat) (hb : gw_plan b) (v1 : Int32) (v2 : Int32) (σ : gw_S)
    (h : ((σ.1 b 4) ≤ v2 → vp_in v1 8 ∧ (∀ τ2 : gw_S, τ2 = gw_u σ (b + 3) v1.toNatClampNeg ((σ.1 (b + 3) v1.toNatClampNeg) + 1) → (Φ τ2))) ∧ (¬ ((σ.1 b 4) ≤ v2) → vp_in v2 14 ∧ (∀ τ4 : gw_S, τ4 = gw_u σ (b + 8) v2.toNatClampNeg (((σ.1 (b + 8) v2.toNatClampNeg) - (if (σ.1 (b + 5) v2.toNatClampNeg) = v1 then σ.1 (b + 7) v2.toNatClampNeg else 0 : Int32)) + (if (σ.1 (b + 4) v2.toNatClampNeg) = v1 then σ.1 (b + 6) v2.toNatClampNeg else 0 : Int32)) → (PW x G 3 2 [(0, .ref (G.1 + b)), (1, .int v1), (2, .int (v2 + 1))] [] τ4)))) : PW x G 3 2 [(0, .ref (G.1 + b)), (1, .int v1), (2, .int v2)] [] σ := by
  refine pw_iload_n C dX3_doWork_2 rfl 2 rfl ?_
  refine pw_aload_n C dX3_doWork_3 rfl 0 rfl ?_
  refine pw_geti C dX3_doWork_4 gf_RX3_40 (gw_p0 hb) hb.2.1 rfl ?_
  refine pw_icmp_ge (tgt := 28) C dX3_doWork_7 (by decide) (fun q => ?_) (fun q => ?_)
  · replace h := h.1 q
    refine pw_aload_n C dX3_doWork_28 rfl 0 rfl ?_
    refine pw_getr C dX3_doWork_29 gf_RX3_18 (gw_p0 hb) hb.2.1 rfl ?_
    refine pw_iload_n C dX3_doWork_32 rfl 1 rfl ?_
    refine pw_dup2 C dX3_doWork_33 rfl rfl ?_
    obtain ⟨g1, h⟩ := h
    refine pw_iald C dX3_doWork_34 (gw_pn hb 3 (by decide)) hb.2.2.2.2.1 g1 ?_
    refine pw_iconst (v := 1) C dX3_doWork_35 (by decide) ?_
    refine pw_iadd C dX3_doWork_36 ?_
    refine pw_iast C dX3_doWork_37 (gw_pn hb 3 (by decide)) hb.2.2.2.2.1 g1 ?_
    generalize hτ2 : gw_u σ (b + 3) v1.toNatClampNeg ((σ.1 (b + 3) v1.toNatClampNeg) + 1) = τ2
    replace h := h τ2 hτ2.symm
    show PW x G 3 38 [(0, .ref (G.1 + b)), (1, .int v1), (2, .int v2)] [] τ2
    exact pw_vret C hT dX3_doWork_38 h
  · replace h := h.2 q
    refine pw_aload_n C dX3_doWork_10 rfl 0 rfl ?_
    refine pw_getr C dX3_doWork_11 gf_RX3_33 (gw_p0 hb) hb.2.1 rfl ?_
    refine pw_iload_n C dX3_doWork_14 rfl 2 rfl ?_
    refine pw_aload_n C dX3_doWork_15 rfl 0 rfl ?_
    refine pw_iload_n C dX3_doWork_16 rfl 1 rfl ?_
    refine pw_iload_n C dX3_doWork_17 rfl 2 rfl ?_
    obtain ⟨g3, h⟩ := h
    refine pw_callV C dX3_doWork_18 (k_X3_marksBehind b v1 v2 hb σ g3) gm_X3_marksBehind gl_RX3_78 rfl hR (by decide) (by decide) (by decide) rfl (gw_p0 hb) hb.2.1 rfl (Nat.le_of_ble_eq_true rfl) ?_
    rintro _ _ ⟨_, rfl, rfl, rfl⟩
    show PW x G 3 21 [(0, .ref (G.1 + b)), (1, .int v1), (2, .int v2)] [.int (((σ.1 (b + 8) v2.toNatClampNeg) - (if (σ.1 (b + 5) v2.toNatClampNeg) = v1 then σ.1 (b + 7) v2.toNatClampNeg else 0 : Int32)) + (if (σ.1 (b + 4) v2.toNatClampNeg) = v1 then σ.1 (b + 6) v2.toNatClampNeg else 0 : Int32)), .int v2, .ref (G.1 + (b + 8))] σ
    refine pw_iast C dX3_doWork_21 (gw_pn hb 8 (by decide)) hb.2.2.2.2.2.2.2.2.2 g3 ?_
    generalize hτ4 : gw_u σ (b + 8) v2.toNatClampNeg (((σ.1 (b + 8) v2.toNatClampNeg) - (if (σ.1 (b + 5) v2.toNatClampNeg) = v1 then σ.1 (b + 7) v2.toNatClampNeg else 0 : Int32)) + (if (σ.1 (b + 4) v2.toNatClampNeg) = v1 then σ.1 (b + 6) v2.toNatClampNeg else 0 : Int32)) = τ4
    replace h := h τ4 hτ4.symm
    show PW x G 3 22 [(0, .ref (G.1 + b)), (1, .int v1), (2, .int v2)] [] τ4
    refine pw_iinc (v := (v2 + 1)) (j := 2) C dX3_doWork_22 rfl rfl (by decide) rfl ?_
    refine pw_goto (tgt := 2) C dX3_doWork_25 (by decide) ?_
    exact pw_sub [1, 2, 0] rfl h
set_option maxRecDepth 4000 in
theorem sg_X3_triesModule_0 {x : gw_X} {G : gw_G} {Φ : Bool → gw_S → Prop} (C : XC x G RX3 cX3_triesModule 4 (some .boolean)) (hR : gw_ok x 1) (hT : RT x G (fz Φ)) (b : Nat) (v1 : Int32) (v2 : Int32) (hb : gw_plan b) (σ : gw_S)
    (h : ∃ Φ1 : Nat → gw_S → Prop, gw_M (xl x) G yX3_newModuleFault cX3_newModuleFault 3 (some (.object "RateWires$Fault")) 0 [.ref (G.1 + b), .int v1, .int v2] σ (fe G Φ1) ∧ ∀ (r3 : Nat) (τ2 : gw_S), r3 < 4 → Φ1 r3 τ2 → (((if r3 = 0 then true else false : Bool) = false → Φ (if r3 = 0 then true else false : Bool) τ2) ∧ (¬ ((if r3 = 0 then true else false : Bool) = false) → ∃ Φ4 : Int32 → gw_S → Prop, gw_M (xl x) G yX3_newModule cX3_newModule 3 (some .int) 0 [.ref (G.1 + b), .int v1, .int v2] τ2 (fi Φ4) ∧ ∀ (r6 : Int32) (τ5 : gw_S), Φ4 r6 τ5 → (Φ (if r3 = 0 then true else false : Bool) τ5)))) : PW x G 4 0 [(0, .ref (G.1 + b)), (1, .int v1), (2, .int v2)] [] σ := by
  refine pw_aload_n C dX3_triesModule_0 rfl 0 rfl ?_
  refine pw_iload_n C dX3_triesModule_1 rfl 1 rfl ?_
  refine pw_iload_n C dX3_triesModule_2 rfl 2 rfl ?_
  obtain ⟨Φ1, hM, h⟩ := h
  refine pw_callV C dX3_triesModule_3 hM gm_X3_newModuleFault gl_RX3_82 rfl hR (by decide) (by decide) (by decide) rfl (gw_p0 hb) hb.2.1 rfl (Nat.le_of_ble_eq_true rfl) ?_
  rintro _ τ2 ⟨r3, h4r3, rfl, hv⟩
  replace h := h r3 τ2 h4r3 hv
  show PW x G 4 6 [(0, .ref (G.1 + b)), (1, .int v1), (2, .int v2)] [.ref (G.2.2.2 r3)] τ2
  refine pw_gets (i := 0) C dX3_triesModule_6 (by decide) gl_RX3_53 ?_
  have hJ : ∀ w0 : Bool, (if r3 = 0 then true else false : Bool) = w0 → PW x G 4 17 [(0, .ref (G.1 + b)), (1, .int v1), (2, .int v2)] [.int (gz w0)] τ2 := by
    rintro _ rfl
    refine pw_istore_n C dX3_triesModule_17 rfl (by decide) rfl ?_
    refine pw_iload_n C dX3_triesModule_18 rfl 0 rfl ?_
    refine pw_z_eq (tgt := 29) C dX3_triesModule_19 (by decide) (fun q => ?_) (fun q => ?_)
    · replace h := h.1 q
      refine pw_iload_n C dX3_triesModule_29 rfl 0 rfl ?_
      exact pw_zret (b := (if r3 = 0 then true else false : Bool)) C hT dX3_triesModule_30 h
    · replace h := h.2 q
      refine pw_aload_n C dX3_triesModule_22 rfl 1 rfl ?_
      refine pw_iload_n C dX3_triesModule_23 rfl 2 rfl ?_
      refine pw_iload_n C dX3_triesModule_24 rfl 3 rfl ?_
      obtain ⟨Φ4, hM, h⟩ := h
      refine pw_callV C dX3_triesModule_25 hM gm_X3_newModule gl_RX3_86 rfl hR (by decide) (by decide) (by decide) rfl (gw_p0 hb) hb.2.1 rfl (Nat.le_of_ble_eq_true rfl) ?_
      rintro _ τ5 ⟨r6, rfl, hv⟩
      replace h := h r6 τ5 hv
      show PW x G 4 28 [(3, .int (gz (if r3 = 0 then true else false : Bool))), (0, .ref (G.1 + b)), (1, .int v1), (2, .int v2)] [.int r6] τ5
      refine pw_pop C dX3_triesModule_28 rfl ?_
      refine pw_iload_n C dX3_triesModule_29 rfl 0 rfl ?_
      exact pw_zret (b := (if r3 = 0 then true else false : Bool)) C hT dX3_triesModule_30 h
  clear h
  refine pw_acmp_ne (tgt := 16) C dX3_triesModule_9 (by decide) h4r3 (by decide) (fun q1 => ?_) (fun q1 => ?_)
  · refine pw_iconst (v := 0) C dX3_triesModule_16 (by decide) ?_
    exact hJ false (if_neg q1)
  · refine pw_iconst (v := 1) C dX3_triesModule_12 (by decide) ?_
    refine pw_goto (tgt := 17) C dX3_triesModule_13 (by decide) ?_
    exact hJ true (if_pos q1)
set_option maxRecDepth 4000 in
theorem sg_X3_triesWire_0 {x : gw_X} {G : gw_G} {Φ : Bool → gw_S → Prop} (C : XC x G RX3 cX3_triesWire 7 (some .boolean)) (hR : gw_ok x 3) (hT : RT x G (fz Φ)) (b : Nat) (v1 : Int32) (v2 : Int32) (v3 : Int32) (v4 : Int32) (v5 : Int32) (hb : gw_plan b) (σ : gw_S)
    (h : ∃ Φ1 : Nat → gw_S → Prop, gw_M (xl x) G yX3_newWireFault cX3_newWireFault 6 (some (.object "RateWires$Fault")) 2 [.ref (G.1 + b), .int v1, .int v2, .int v3, .int v4, .int v5] σ (fe G Φ1) ∧ ∀ (r3 : Nat) (τ2 : gw_S), r3 < 4 → Φ1 r3 τ2 → (((if r3 = 0 then true else false : Bool) = false → Φ (if r3 = 0 then true else false : Bool) τ2) ∧ (¬ ((if r3 = 0 then true else false : Bool) = false) → ∃ Φ4 : Int32 → gw_S → Prop, gw_M (xl x) G yX3_newWire cX3_newWire 6 (some .int) 0 [.ref (G.1 + b), .int v1, .int v2, .int v3, .int v4, .int v5] τ2 (fi Φ4) ∧ ∀ (r6 : Int32) (τ5 : gw_S), Φ4 r6 τ5 → (Φ (if r3 = 0 then true else false : Bool) τ5)))) : PW x G 7 0 [(0, .ref (G.1 + b)), (1, .int v1), (2, .int v2), (3, .int v3), (4, .int v4), (5, .int v5)] [] σ := by
  refine pw_aload_n C dX3_triesWire_0 rfl 0 rfl ?_
  refine pw_iload_n C dX3_triesWire_1 rfl 1 rfl ?_
  refine pw_iload_n C dX3_triesWire_2 rfl 2 rfl ?_
  refine pw_iload_n C dX3_triesWire_3 rfl 3 rfl ?_
  refine pw_iload C dX3_triesWire_4 4 rfl ?_
  refine pw_iload C dX3_triesWire_6 5 rfl ?_
  obtain ⟨Φ1, hM, h⟩ := h
  refine pw_callV C dX3_triesWire_8 hM gm_X3_newWireFault gl_RX3_89 rfl hR (by decide) (by decide) (by decide) rfl (gw_p0 hb) hb.2.1 rfl (Nat.le_of_ble_eq_true rfl) ?_
  rintro _ τ2 ⟨r3, h4r3, rfl, hv⟩
  replace h := h r3 τ2 h4r3 hv
  show PW x G 7 11 [(0, .ref (G.1 + b)), (1, .int v1), (2, .int v2), (3, .int v3), (4, .int v4), (5, .int v5)] [.ref (G.2.2.2 r3)] τ2
  refine pw_gets (i := 0) C dX3_triesWire_11 (by decide) gl_RX3_53 ?_
  have hJ : ∀ w0 : Bool, (if r3 = 0 then true else false : Bool) = w0 → PW x G 7 22 [(0, .ref (G.1 + b)), (1, .int v1), (2, .int v2), (3, .int v3), (4, .int v4), (5, .int v5)] [.int (gz w0)] τ2 := by
    rintro _ rfl
    refine pw_istore C dX3_triesWire_22 (by decide) rfl ?_
    refine pw_iload C dX3_triesWire_24 0 rfl ?_
    refine pw_z_eq (tgt := 41) C dX3_triesWire_26 (by decide) (fun q => ?_) (fun q => ?_)
    · replace h := h.1 q
      refine pw_iload C dX3_triesWire_41 0 rfl ?_
      exact pw_zret (b := (if r3 = 0 then true else false : Bool)) C hT dX3_triesWire_43 h
    · replace h := h.2 q
      refine pw_aload_n C dX3_triesWire_29 rfl 1 rfl ?_
      refine pw_iload_n C dX3_triesWire_30 rfl 2 rfl ?_
      refine pw_iload_n C dX3_triesWire_31 rfl 3 rfl ?_
      refine pw_iload_n C dX3_triesWire_32 rfl 4 rfl ?_
      refine pw_iload C dX3_triesWire_33 5 rfl ?_
      refine pw_iload C dX3_triesWire_35 6 rfl ?_
      obtain ⟨Φ4, hM, h⟩ := h
      refine pw_callV C dX3_triesWire_37 hM gm_X3_newWire gl_RX3_93 rfl hR (by decide) (by decide) (by decide) rfl (gw_p0 hb) hb.2.1 rfl (Nat.le_of_ble_eq_true rfl) ?_
      rintro _ τ5 ⟨r6, rfl, hv⟩
      replace h := h r6 τ5 hv
      show PW x G 7 40 [(6, .int (gz (if r3 = 0 then true else false : Bool))), (0, .ref (G.1 + b)), (1, .int v1), (2, .int v2), (3, .int v3), (4, .int v4), (5, .int v5)] [.int r6] τ5
      refine pw_pop C dX3_triesWire_40 rfl ?_
      refine pw_iload C dX3_triesWire_41 0 rfl ?_
      exact pw_zret (b := (if r3 = 0 then true else false : Bool)) C hT dX3_triesWire_43 h
  clear h
  refine pw_acmp_ne (tgt := 21) C dX3_triesWire_14 (by decide) h4r3 (by decide) (fun q1 => ?_) (fun q1 => ?_)
  · refine pw_iconst (v := 0) C dX3_triesWire_21 (by decide) ?_
    exact hJ false (if_neg q1)
  · refine pw_iconst (v := 1) C dX3_triesWire_17 (by decide) ?_
    refine pw_goto (tgt := 22) C dX3_triesWire_18 (by decide) ?_
    exact hJ true (if_pos q1)
set_option maxRecDepth 4000 in
theorem sg_X3_triesCut_0 {x : gw_X} {G : gw_G} {Φ : Bool → gw_S → Prop} (C : XC x G RX3 cX3_triesCut 3 (some .boolean)) (hR : gw_ok x 1) (hT : RT x G (fz Φ)) (b : Nat) (v1 : Int32) (hb : gw_plan b) (σ : gw_S)
    (h : ((if v1 < 0 then false else (if (σ.1 b 4) ≤ v1 then false else true : Bool) : Bool) = false → Φ (if v1 < 0 then false else (if (σ.1 b 4) ≤ v1 then false else true : Bool) : Bool) σ) ∧ (¬ ((if v1 < 0 then false else (if (σ.1 b 4) ≤ v1 then false else true : Bool) : Bool) = false) → ∃ Φ1 : Int32 → gw_S → Prop, gw_M (xl x) G yX3_dropWire cX3_dropWire 4 (some .int) 0 [.ref (G.1 + b), .int v1] σ (fi Φ1) ∧ ∀ (r3 : Int32) (τ2 : gw_S), Φ1 r3 τ2 → (Φ (if v1 < 0 then false else (if (σ.1 b 4) ≤ v1 then false else true : Bool) : Bool) τ2))) : PW x G 3 0 [(0, .ref (G.1 + b)), (1, .int v1)] [] σ := by
  refine pw_aload_n C dX3_triesCut_0 rfl 0 rfl ?_
  refine pw_iload_n C dX3_triesCut_1 rfl 1 rfl ?_
  refine pw_callV C dX3_triesCut_2 (k_X3_hasWire b v1 hb σ ) gm_X3_hasWire gl_RX3_62 rfl hR (by decide) (by decide) (by decide) rfl (gw_p0 hb) hb.2.1 rfl (Nat.le_of_ble_eq_true rfl) ?_
  rintro _ _ ⟨_, rfl, rfl, rfl⟩
  show PW x G 3 5 [(0, .ref (G.1 + b)), (1, .int v1)] [.int (gz (if v1 < 0 then false else (if (σ.1 b 4) ≤ v1 then false else true : Bool) : Bool))] σ
  refine pw_istore_n C dX3_triesCut_5 rfl (by decide) rfl ?_
  refine pw_iload_n C dX3_triesCut_6 rfl 0 rfl ?_
  refine pw_z_eq (tgt := 16) C dX3_triesCut_7 (by decide) (fun q => ?_) (fun q => ?_)
  · replace h := h.1 q
    refine pw_iload_n C dX3_triesCut_16 rfl 0 rfl ?_
    exact pw_zret (b := (if v1 < 0 then false else (if (σ.1 b 4) ≤ v1 then false else true : Bool) : Bool)) C hT dX3_triesCut_17 h
  · replace h := h.2 q
    refine pw_aload_n C dX3_triesCut_10 rfl 1 rfl ?_
    refine pw_iload_n C dX3_triesCut_11 rfl 2 rfl ?_
    obtain ⟨Φ1, hM, h⟩ := h
    refine pw_callV C dX3_triesCut_12 hM gm_X3_dropWire gl_RX3_97 rfl hR (by decide) (by decide) (by decide) rfl (gw_p0 hb) hb.2.1 rfl (Nat.le_of_ble_eq_true rfl) ?_
    rintro _ τ2 ⟨r3, rfl, hv⟩
    replace h := h r3 τ2 hv
    show PW x G 3 15 [(2, .int (gz (if v1 < 0 then false else (if (σ.1 b 4) ≤ v1 then false else true : Bool) : Bool))), (0, .ref (G.1 + b)), (1, .int v1)] [.int r3] τ2
    refine pw_pop C dX3_triesCut_15 rfl ?_
    refine pw_iload_n C dX3_triesCut_16 rfl 0 rfl ?_
    exact pw_zret (b := (if v1 < 0 then false else (if (σ.1 b 4) ≤ v1 then false else true : Bool) : Bool)) C hT dX3_triesCut_17 h
set_option maxRecDepth 4000 in
theorem sg_X3_triesMarks_0 {x : gw_X} {G : gw_G} {Φ : Bool → gw_S → Prop} (C : XC x G RX3 cX3_triesMarks 4 (some .boolean)) (hR : gw_ok x 3) (hT : RT x G (fz Φ)) (b : Nat) (v1 : Int32) (v2 : Int32) (hb : gw_plan b) (σ : gw_S)
    (h : ∃ Φ1 : Nat → gw_S → Prop, gw_M (xl x) G yX3_newMarksFault cX3_newMarksFault 3 (some (.object "RateWires$Fault")) 2 [.ref (G.1 + b), .int v1, .int v2] σ (fe G Φ1) ∧ ∀ (r3 : Nat) (τ2 : gw_S), r3 < 4 → Φ1 r3 τ2 → (((if r3 = 0 then true else false : Bool) = false → Φ (if r3 = 0 then true else false : Bool) τ2) ∧ (¬ ((if r3 = 0 then true else false : Bool) = false) → ∃ Φ4 : Int32 → gw_S → Prop, gw_M (xl x) G yX3_newMarks cX3_newMarks 4 (some .int) 0 [.ref (G.1 + b), .int v1, .int v2] τ2 (fi Φ4) ∧ ∀ (r6 : Int32) (τ5 : gw_S), Φ4 r6 τ5 → (Φ (if r3 = 0 then true else false : Bool) τ5)))) : PW x G 4 0 [(0, .ref (G.1 + b)), (1, .int v1), (2, .int v2)] [] σ := by
  refine pw_aload_n C dX3_triesMarks_0 rfl 0 rfl ?_
  refine pw_iload_n C dX3_triesMarks_1 rfl 1 rfl ?_
  refine pw_iload_n C dX3_triesMarks_2 rfl 2 rfl ?_
  obtain ⟨Φ1, hM, h⟩ := h
  refine pw_callV C dX3_triesMarks_3 hM gm_X3_newMarksFault gl_RX3_101 rfl hR (by decide) (by decide) (by decide) rfl (gw_p0 hb) hb.2.1 rfl (Nat.le_of_ble_eq_true rfl) ?_
  rintro _ τ2 ⟨r3, h4r3, rfl, hv⟩
  replace h := h r3 τ2 h4r3 hv
  show PW x G 4 6 [(0, .ref (G.1 + b)), (1, .int v1), (2, .int v2)] [.ref (G.2.2.2 r3)] τ2
  refine pw_gets (i := 0) C dX3_triesMarks_6 (by decide) gl_RX3_53 ?_
  have hJ : ∀ w0 : Bool, (if r3 = 0 then true else false : Bool) = w0 → PW x G 4 17 [(0, .ref (G.1 + b)), (1, .int v1), (2, .int v2)] [.int (gz w0)] τ2 := by
    rintro _ rfl
    refine pw_istore_n C dX3_triesMarks_17 rfl (by decide) rfl ?_
    refine pw_iload_n C dX3_triesMarks_18 rfl 0 rfl ?_
    refine pw_z_eq (tgt := 29) C dX3_triesMarks_19 (by decide) (fun q => ?_) (fun q => ?_)
    · replace h := h.1 q
      refine pw_iload_n C dX3_triesMarks_29 rfl 0 rfl ?_
      exact pw_zret (b := (if r3 = 0 then true else false : Bool)) C hT dX3_triesMarks_30 h
    · replace h := h.2 q
      refine pw_aload_n C dX3_triesMarks_22 rfl 1 rfl ?_
      refine pw_iload_n C dX3_triesMarks_23 rfl 2 rfl ?_
      refine pw_iload_n C dX3_triesMarks_24 rfl 3 rfl ?_
      obtain ⟨Φ4, hM, h⟩ := h
      refine pw_callV C dX3_triesMarks_25 hM gm_X3_newMarks gl_RX3_104 rfl hR (by decide) (by decide) (by decide) rfl (gw_p0 hb) hb.2.1 rfl (Nat.le_of_ble_eq_true rfl) ?_
      rintro _ τ5 ⟨r6, rfl, hv⟩
      replace h := h r6 τ5 hv
      show PW x G 4 28 [(3, .int (gz (if r3 = 0 then true else false : Bool))), (0, .ref (G.1 + b)), (1, .int v1), (2, .int v2)] [.int r6] τ5
      refine pw_pop C dX3_triesMarks_28 rfl ?_
      refine pw_iload_n C dX3_triesMarks_29 rfl 0 rfl ?_
      exact pw_zret (b := (if r3 = 0 then true else false : Bool)) C hT dX3_triesMarks_30 h
  clear h
  refine pw_acmp_ne (tgt := 16) C dX3_triesMarks_9 (by decide) h4r3 (by decide) (fun q1 => ?_) (fun q1 => ?_)
  · refine pw_iconst (v := 0) C dX3_triesMarks_16 (by decide) ?_
    exact hJ false (if_neg q1)
  · refine pw_iconst (v := 1) C dX3_triesMarks_12 (by decide) ?_
    refine pw_goto (tgt := 17) C dX3_triesMarks_13 (by decide) ?_
    exact hJ true (if_pos q1)
set_option maxRecDepth 4000 in
theorem sg_X3_triesWork_0 {x : gw_X} {G : gw_G} {Φ : Bool → gw_S → Prop} (C : XC x G RX3 cX3_triesWork 3 (some .boolean)) (hR : gw_ok x 3) (hT : RT x G (fz Φ)) (b : Nat) (v1 : Int32) (hb : gw_plan b) (σ : gw_S)
    (h : ∃ Φ1 : Nat → gw_S → Prop, gw_M (xl x) G yX3_workFault cX3_workFault 2 (some (.object "RateWires$Fault")) 2 [.ref (G.1 + b), .int v1] σ (fe G Φ1) ∧ ∀ (r3 : Nat) (τ2 : gw_S), r3 < 4 → Φ1 r3 τ2 → (((if r3 = 0 then true else false : Bool) = false → Φ (if r3 = 0 then true else false : Bool) τ2) ∧ (¬ ((if r3 = 0 then true else false : Bool) = false) → ∃ Φ4 : gw_S → Prop, gw_M (xl x) G yX3_doWork cX3_doWork 3 none 1 [.ref (G.1 + b), .int v1] τ2 (fv Φ4) ∧ ∀ (τ5 : gw_S), Φ4 τ5 → (Φ (if r3 = 0 then true else false : Bool) τ5)))) : PW x G 3 0 [(0, .ref (G.1 + b)), (1, .int v1)] [] σ := by
  refine pw_aload_n C dX3_triesWork_0 rfl 0 rfl ?_
  refine pw_iload_n C dX3_triesWork_1 rfl 1 rfl ?_
  obtain ⟨Φ1, hM, h⟩ := h
  refine pw_callV C dX3_triesWork_2 hM gm_X3_workFault gl_RX3_107 rfl hR (by decide) (by decide) (by decide) rfl (gw_p0 hb) hb.2.1 rfl (Nat.le_of_ble_eq_true rfl) ?_
  rintro _ τ2 ⟨r3, h4r3, rfl, hv⟩
  replace h := h r3 τ2 h4r3 hv
  show PW x G 3 5 [(0, .ref (G.1 + b)), (1, .int v1)] [.ref (G.2.2.2 r3)] τ2
  refine pw_gets (i := 0) C dX3_triesWork_5 (by decide) gl_RX3_53 ?_
  have hJ : ∀ w0 : Bool, (if r3 = 0 then true else false : Bool) = w0 → PW x G 3 16 [(0, .ref (G.1 + b)), (1, .int v1)] [.int (gz w0)] τ2 := by
    rintro _ rfl
    refine pw_istore_n C dX3_triesWork_16 rfl (by decide) rfl ?_
    refine pw_iload_n C dX3_triesWork_17 rfl 0 rfl ?_
    refine pw_z_eq (tgt := 26) C dX3_triesWork_18 (by decide) (fun q => ?_) (fun q => ?_)
    · replace h := h.1 q
      refine pw_iload_n C dX3_triesWork_26 rfl 0 rfl ?_
      exact pw_zret (b := (if r3 = 0 then true else false : Bool)) C hT dX3_triesWork_27 h
    · replace h := h.2 q
      refine pw_aload_n C dX3_triesWork_21 rfl 1 rfl ?_
      refine pw_iload_n C dX3_triesWork_22 rfl 2 rfl ?_
      obtain ⟨Φ4, hM, h⟩ := h
      refine pw_callV C dX3_triesWork_23 hM gm_X3_doWork gl_RX3_111 rfl hR (by decide) (by decide) (by decide) rfl (gw_p0 hb) hb.2.1 rfl (Nat.le_of_ble_eq_true rfl) ?_
      rintro _ τ5 ⟨rfl, hv⟩
      replace h := h τ5 hv
      show PW x G 3 26 [(2, .int (gz (if r3 = 0 then true else false : Bool))), (0, .ref (G.1 + b)), (1, .int v1)] [] τ5
      refine pw_iload_n C dX3_triesWork_26 rfl 0 rfl ?_
      exact pw_zret (b := (if r3 = 0 then true else false : Bool)) C hT dX3_triesWork_27 h
  clear h
  refine pw_acmp_ne (tgt := 15) C dX3_triesWork_8 (by decide) h4r3 (by decide) (fun q1 => ?_) (fun q1 => ?_)
  · refine pw_iconst (v := 0) C dX3_triesWork_15 (by decide) ?_
    exact hJ false (if_neg q1)
  · refine pw_iconst (v := 1) C dX3_triesWork_11 (by decide) ?_
    refine pw_goto (tgt := 16) C dX3_triesWork_12 (by decide) ?_
    exact hJ true (if_pos q1)
set_option maxRecDepth 4000 in
theorem sg_X3_hasMarks_0 {x : gw_X} {G : gw_G} {Φ : Bool → gw_S → Prop} (C : XC x G RX3 cX3_hasMarks 3 (some .boolean)) (hR : gw_ok x 1) (hT : RT x G (fz Φ)) (b : Nat) (v1 : Int32) (v2 : Int32) (hb : gw_plan b) (σ : gw_S)
    (h : (((if v1 < 0 then false else (if (σ.1 b 4) ≤ v1 then false else true : Bool) : Bool) = false → True) ∧ (¬ ((if v1 < 0 then false else (if (σ.1 b 4) ≤ v1 then false else true : Bool) : Bool) = false) → vp_in v1 14 ∧ (True))) ∧ (Φ (if (if v1 < 0 then false else (if (σ.1 b 4) ≤ v1 then false else true : Bool) : Bool) = false then false else (if (σ.1 (b + 8) v1.toNatClampNeg) < v2 then false else true : Bool) : Bool) σ)) : PW x G 3 0 [(0, .ref (G.1 + b)), (1, .int v1), (2, .int v2)] [] σ := by
  refine pw_aload_n C dX3_hasMarks_0 rfl 0 rfl ?_
  refine pw_iload_n C dX3_hasMarks_1 rfl 1 rfl ?_
  refine pw_callV C dX3_hasMarks_2 (k_X3_hasWire b v1 hb σ ) gm_X3_hasWire gl_RX3_62 rfl hR (by decide) (by decide) (by decide) rfl (gw_p0 hb) hb.2.1 rfl (Nat.le_of_ble_eq_true rfl) ?_
  rintro _ _ ⟨_, rfl, rfl, rfl⟩
  show PW x G 3 5 [(0, .ref (G.1 + b)), (1, .int v1), (2, .int v2)] [.int (gz (if v1 < 0 then false else (if (σ.1 b 4) ≤ v1 then false else true : Bool) : Bool))] σ
  obtain ⟨hs, h⟩ := h
  have hJ : ∀ w0 : Bool, (if (if v1 < 0 then false else (if (σ.1 b 4) ≤ v1 then false else true : Bool) : Bool) = false then false else (if (σ.1 (b + 8) v1.toNatClampNeg) < v2 then false else true : Bool) : Bool) = w0 → PW x G 3 23 [(0, .ref (G.1 + b)), (1, .int v1), (2, .int v2)] [.int (gz w0)] σ := by
    rintro _ rfl
    exact pw_zret (b := (if (if v1 < 0 then false else (if (σ.1 b 4) ≤ v1 then false else true : Bool) : Bool) = false then false else (if (σ.1 (b + 8) v1.toNatClampNeg) < v2 then false else true : Bool) : Bool)) C hT dX3_hasMarks_23 h
  clear h
  refine pw_z_eq (tgt := 22) C dX3_hasMarks_5 (by decide) (fun q1 => ?_) (fun q1 => ?_)
  · replace hs := hs.1 q1
    refine pw_iconst (v := 0) C dX3_hasMarks_22 (by decide) ?_
    exact hJ false (if_pos q1)
  · replace hs := hs.2 q1
    refine pw_aload_n C dX3_hasMarks_8 rfl 0 rfl ?_
    refine pw_getr C dX3_hasMarks_9 gf_RX3_33 (gw_p0 hb) hb.2.1 rfl ?_
    refine pw_iload_n C dX3_hasMarks_12 rfl 1 rfl ?_
    obtain ⟨g1, hs⟩ := hs
    refine pw_iald C dX3_hasMarks_13 (gw_pn hb 8 (by decide)) hb.2.2.2.2.2.2.2.2.2 g1 ?_
    refine pw_iload_n C dX3_hasMarks_14 rfl 2 rfl ?_
    refine pw_icmp_lt (tgt := 22) C dX3_hasMarks_15 (by decide) (fun q2 => ?_) (fun q2 => ?_)
    · refine pw_iconst (v := 0) C dX3_hasMarks_22 (by decide) ?_
      exact hJ false ((if_neg q1).trans (if_pos q2))
    · refine pw_iconst (v := 1) C dX3_hasMarks_18 (by decide) ?_
      refine pw_goto (tgt := 23) C dX3_hasMarks_19 (by decide) ?_
      exact hJ true ((if_neg q1).trans (if_neg q2))
set_option maxRecDepth 4000 in
theorem sg_X3_hasWorked_0 {x : gw_X} {G : gw_G} {Φ : Bool → gw_S → Prop} (C : XC x G RX3 cX3_hasWorked 3 (some .boolean)) (hR : gw_ok x 1) (hT : RT x G (fz Φ)) (b : Nat) (v1 : Int32) (v2 : Int32) (hb : gw_plan b) (σ : gw_S)
    (h : (((if v1 < 0 then false else (if (σ.1 b 0) ≤ v1 then false else true : Bool) : Bool) = false → True) ∧ (¬ ((if v1 < 0 then false else (if (σ.1 b 0) ≤ v1 then false else true : Bool) : Bool) = false) → vp_in v1 8 ∧ (True))) ∧ (Φ (if (if v1 < 0 then false else (if (σ.1 b 0) ≤ v1 then false else true : Bool) : Bool) = false then false else (if (σ.1 (b + 3) v1.toNatClampNeg) < v2 then false else true : Bool) : Bool) σ)) : PW x G 3 0 [(0, .ref (G.1 + b)), (1, .int v1), (2, .int v2)] [] σ := by
  refine pw_aload_n C dX3_hasWorked_0 rfl 0 rfl ?_
  refine pw_iload_n C dX3_hasWorked_1 rfl 1 rfl ?_
  refine pw_callV C dX3_hasWorked_2 (k_X3_hasModule b v1 hb σ ) gm_X3_hasModule gl_RX3_49 rfl hR (by decide) (by decide) (by decide) rfl (gw_p0 hb) hb.2.1 rfl (Nat.le_of_ble_eq_true rfl) ?_
  rintro _ _ ⟨_, rfl, rfl, rfl⟩
  show PW x G 3 5 [(0, .ref (G.1 + b)), (1, .int v1), (2, .int v2)] [.int (gz (if v1 < 0 then false else (if (σ.1 b 0) ≤ v1 then false else true : Bool) : Bool))] σ
  obtain ⟨hs, h⟩ := h
  have hJ : ∀ w0 : Bool, (if (if v1 < 0 then false else (if (σ.1 b 0) ≤ v1 then false else true : Bool) : Bool) = false then false else (if (σ.1 (b + 3) v1.toNatClampNeg) < v2 then false else true : Bool) : Bool) = w0 → PW x G 3 23 [(0, .ref (G.1 + b)), (1, .int v1), (2, .int v2)] [.int (gz w0)] σ := by
    rintro _ rfl
    exact pw_zret (b := (if (if v1 < 0 then false else (if (σ.1 b 0) ≤ v1 then false else true : Bool) : Bool) = false then false else (if (σ.1 (b + 3) v1.toNatClampNeg) < v2 then false else true : Bool) : Bool)) C hT dX3_hasWorked_23 h
  clear h
  refine pw_z_eq (tgt := 22) C dX3_hasWorked_5 (by decide) (fun q1 => ?_) (fun q1 => ?_)
  · replace hs := hs.1 q1
    refine pw_iconst (v := 0) C dX3_hasWorked_22 (by decide) ?_
    exact hJ false (if_pos q1)
  · replace hs := hs.2 q1
    refine pw_aload_n C dX3_hasWorked_8 rfl 0 rfl ?_
    refine pw_getr C dX3_hasWorked_9 gf_RX3_18 (gw_p0 hb) hb.2.1 rfl ?_
    refine pw_iload_n C dX3_hasWorked_12 rfl 1 rfl ?_
    obtain ⟨g1, hs⟩ := hs
    refine pw_iald C dX3_hasWorked_13 (gw_pn hb 3 (by decide)) hb.2.2.2.2.1 g1 ?_
    refine pw_iload_n C dX3_hasWorked_14 rfl 2 rfl ?_
    refine pw_icmp_lt (tgt := 22) C dX3_hasWorked_15 (by decide) (fun q2 => ?_) (fun q2 => ?_)
    · refine pw_iconst (v := 0) C dX3_hasWorked_22 (by decide) ?_
      exact hJ false ((if_neg q1).trans (if_pos q2))
    · refine pw_iconst (v := 1) C dX3_hasWorked_18 (by decide) ?_
      refine pw_goto (tgt := 23) C dX3_hasWorked_19 (by decide) ?_
      exact hJ true ((if_neg q1).trans (if_neg q2))
set_option maxRecDepth 4000 in
theorem sg_X3_canWork_0 {x : gw_X} {G : gw_G} {Φ : Bool → gw_S → Prop} (C : XC x G RX3 cX3_canWork 3 (some .boolean)) (hR : gw_ok x 1) (hT : RT x G (fz Φ)) (b : Nat) (v1 : Int32) (hb : gw_plan b) (σ : gw_S)
    (h : PW x G 3 2 [(0, .ref (G.1 + b)), (1, .int v1), (2, .int 0)] [] σ) : PW x G 3 0 [(0, .ref (G.1 + b)), (1, .int v1)] [] σ := by
  refine pw_iconst (v := 0) C dX3_canWork_0 (by decide) ?_
  refine pw_istore_n C dX3_canWork_1 rfl (by decide) rfl ?_
  exact pw_sub [1, 2, 0] rfl h
set_option maxRecDepth 4000 in
theorem sg_X3_canWork_2 {x : gw_X} {G : gw_G} {Φ : Bool → gw_S → Prop} (C : XC x G RX3 cX3_canWork 3 (some .boolean)) (hR : gw_ok x 1) (hT : RT x G (fz Φ)) (b : Nat) (hb : gw_plan b) (v1 : Int32) (v2 : Int32) (σ : gw_S)
    (h : ((σ.1 b 4) ≤ v2 → Φ true σ) ∧ (¬ ((σ.1 b 4) ≤ v2) → vp_in v2 14 ∧ ((¬ ((σ.1 (b + 5) v2.toNatClampNeg) = v1) → ((((σ.1 (b + 8) v2.toNatClampNeg) - (if (σ.1 (b + 5) v2.toNatClampNeg) = v1 then σ.1 (b + 7) v2.toNatClampNeg else 0 : Int32)) + (if (σ.1 (b + 4) v2.toNatClampNeg) = v1 then σ.1 (b + 6) v2.toNatClampNeg else 0 : Int32)) ≤ 999 → PW x G 3 2 [(0, .ref (G.1 + b)), (1, .int v1), (2, .int (v2 + 1))] [] σ) ∧ (¬ ((((σ.1 (b + 8) v2.toNatClampNeg) - (if (σ.1 (b + 5) v2.toNatClampNeg) = v1 then σ.1 (b + 7) v2.toNatClampNeg else 0 : Int32)) + (if (σ.1 (b + 4) v2.toNatClampNeg) = v1 then σ.1 (b + 6) v2.toNatClampNeg else 0 : Int32)) ≤ 999) → Φ false σ)) ∧ ((σ.1 (b + 5) v2.toNatClampNeg) = v1 → ((σ.1 (b + 8) v2.toNatClampNeg) < (σ.1 (b + 7) v2.toNatClampNeg) → Φ false σ) ∧ (¬ ((σ.1 (b + 8) v2.toNatClampNeg) < (σ.1 (b + 7) v2.toNatClampNeg)) → ((((σ.1 (b + 8) v2.toNatClampNeg) - (if (σ.1 (b + 5) v2.toNatClampNeg) = v1 then σ.1 (b + 7) v2.toNatClampNeg else 0 : Int32)) + (if (σ.1 (b + 4) v2.toNatClampNeg) = v1 then σ.1 (b + 6) v2.toNatClampNeg else 0 : Int32)) ≤ 999 → PW x G 3 2 [(0, .ref (G.1 + b)), (1, .int v1), (2, .int (v2 + 1))] [] σ) ∧ (¬ ((((σ.1 (b + 8) v2.toNatClampNeg) - (if (σ.1 (b + 5) v2.toNatClampNeg) = v1 then σ.1 (b + 7) v2.toNatClampNeg else 0 : Int32)) + (if (σ.1 (b + 4) v2.toNatClampNeg) = v1 then σ.1 (b + 6) v2.toNatClampNeg else 0 : Int32)) ≤ 999) → Φ false σ)))))) : PW x G 3 2 [(0, .ref (G.1 + b)), (1, .int v1), (2, .int v2)] [] σ := by
  refine pw_iload_n C dX3_canWork_2 rfl 2 rfl ?_
  refine pw_aload_n C dX3_canWork_3 rfl 0 rfl ?_
  refine pw_geti C dX3_canWork_4 gf_RX3_40 (gw_p0 hb) hb.2.1 rfl ?_
  refine pw_icmp_ge (tgt := 55) C dX3_canWork_7 (by decide) (fun q => ?_) (fun q => ?_)
  · replace h := h.1 q
    refine pw_iconst (v := 1) C dX3_canWork_55 (by decide) ?_
    exact pw_zret (b := true) C hT dX3_canWork_56 h
  · replace h := h.2 q
    refine pw_aload_n C dX3_canWork_10 rfl 0 rfl ?_
    refine pw_getr C dX3_canWork_11 gf_RX3_24 (gw_p0 hb) hb.2.1 rfl ?_
    refine pw_iload_n C dX3_canWork_14 rfl 2 rfl ?_
    obtain ⟨g1, h⟩ := h
    refine pw_iald C dX3_canWork_15 (gw_pn hb 5 (by decide)) hb.2.2.2.2.2.2.1 g1 ?_
    refine pw_iload_n C dX3_canWork_16 rfl 1 rfl ?_
    refine pw_icmp_ne (tgt := 35) C dX3_canWork_17 (by decide) (fun q => ?_) (fun q => ?_)
    · replace h := h.1 q
      refine pw_aload_n C dX3_canWork_35 rfl 0 rfl ?_
      refine pw_iload_n C dX3_canWork_36 rfl 1 rfl ?_
      refine pw_iload_n C dX3_canWork_37 rfl 2 rfl ?_
      refine pw_callV C dX3_canWork_38 (k_X3_marksBehind b v1 v2 hb σ g1) gm_X3_marksBehind gl_RX3_78 rfl hR (by decide) (by decide) (by decide) rfl (gw_p0 hb) hb.2.1 rfl (Nat.le_of_ble_eq_true rfl) ?_
      rintro _ _ ⟨_, rfl, rfl, rfl⟩
      show PW x G 3 41 [(0, .ref (G.1 + b)), (1, .int v1), (2, .int v2)] [.int (((σ.1 (b + 8) v2.toNatClampNeg) - (if (σ.1 (b + 5) v2.toNatClampNeg) = v1 then σ.1 (b + 7) v2.toNatClampNeg else 0 : Int32)) + (if (σ.1 (b + 4) v2.toNatClampNeg) = v1 then σ.1 (b + 6) v2.toNatClampNeg else 0 : Int32))] σ
      refine pw_sipush (v := 999) C dX3_canWork_41 (by decide) ?_
      refine pw_icmp_le (tgt := 49) C dX3_canWork_44 (by decide) (fun q => ?_) (fun q => ?_)
      · replace h := h.1 q
        refine pw_iinc (v := (v2 + 1)) (j := 2) C dX3_canWork_49 rfl rfl (by decide) rfl ?_
        refine pw_goto (tgt := 2) C dX3_canWork_52 (by decide) ?_
        exact pw_sub [1, 2, 0] rfl h
      · replace h := h.2 q
        refine pw_iconst (v := 0) C dX3_canWork_47 (by decide) ?_
        exact pw_zret (b := false) C hT dX3_canWork_48 h
    · replace h := h.2 q
      refine pw_aload_n C dX3_canWork_20 rfl 0 rfl ?_
      refine pw_getr C dX3_canWork_21 gf_RX3_33 (gw_p0 hb) hb.2.1 rfl ?_
      refine pw_iload_n C dX3_canWork_24 rfl 2 rfl ?_
      refine pw_iald C dX3_canWork_25 (gw_pn hb 8 (by decide)) hb.2.2.2.2.2.2.2.2.2 g1 ?_
      refine pw_aload_n C dX3_canWork_26 rfl 0 rfl ?_
      refine pw_getr C dX3_canWork_27 gf_RX3_30 (gw_p0 hb) hb.2.1 rfl ?_
      refine pw_iload_n C dX3_canWork_30 rfl 2 rfl ?_
      refine pw_iald C dX3_canWork_31 (gw_pn hb 7 (by decide)) hb.2.2.2.2.2.2.2.2.1 g1 ?_
      refine pw_icmp_lt (tgt := 47) C dX3_canWork_32 (by decide) (fun q => ?_) (fun q => ?_)
      · replace h := h.1 q
        refine pw_iconst (v := 0) C dX3_canWork_47 (by decide) ?_
        exact pw_zret (b := false) C hT dX3_canWork_48 h
      · replace h := h.2 q
        refine pw_aload_n C dX3_canWork_35 rfl 0 rfl ?_
        refine pw_iload_n C dX3_canWork_36 rfl 1 rfl ?_
        refine pw_iload_n C dX3_canWork_37 rfl 2 rfl ?_
        refine pw_callV C dX3_canWork_38 (k_X3_marksBehind b v1 v2 hb σ g1) gm_X3_marksBehind gl_RX3_78 rfl hR (by decide) (by decide) (by decide) rfl (gw_p0 hb) hb.2.1 rfl (Nat.le_of_ble_eq_true rfl) ?_
        rintro _ _ ⟨_, rfl, rfl, rfl⟩
        show PW x G 3 41 [(0, .ref (G.1 + b)), (1, .int v1), (2, .int v2)] [.int (((σ.1 (b + 8) v2.toNatClampNeg) - (if (σ.1 (b + 5) v2.toNatClampNeg) = v1 then σ.1 (b + 7) v2.toNatClampNeg else 0 : Int32)) + (if (σ.1 (b + 4) v2.toNatClampNeg) = v1 then σ.1 (b + 6) v2.toNatClampNeg else 0 : Int32))] σ
        refine pw_sipush (v := 999) C dX3_canWork_41 (by decide) ?_
        refine pw_icmp_le (tgt := 49) C dX3_canWork_44 (by decide) (fun q => ?_) (fun q => ?_)
        · replace h := h.1 q
          refine pw_iinc (v := (v2 + 1)) (j := 2) C dX3_canWork_49 rfl rfl (by decide) rfl ?_
          refine pw_goto (tgt := 2) C dX3_canWork_52 (by decide) ?_
          exact pw_sub [1, 2, 0] rfl h
        · replace h := h.2 q
          refine pw_iconst (v := 0) C dX3_canWork_47 (by decide) ?_
          exact pw_zret (b := false) C hT dX3_canWork_48 h
set_option maxRecDepth 4000 in
theorem sg_X3_gain_0 {x : gw_X} {G : gw_G} {Φ : Int32 → gw_S → Prop} (C : XC x G RX3 cX3_gain 4 (some .int)) (hR : gw_ok x 1) (hT : RT x G (fi Φ)) (b : Nat) (v1 : Int32) (hb : gw_plan b) (σ : gw_S)
    (h : PW x G 4 4 [(0, .ref (G.1 + b)), (1, .int v1), (2, .int 0), (3, .int 0)] [] σ) : PW x G 4 0 [(0, .ref (G.1 + b)), (1, .int v1)] [] σ := by
  refine pw_iconst (v := 0) C dX3_gain_0 (by decide) ?_
  refine pw_istore_n C dX3_gain_1 rfl (by decide) rfl ?_
  refine pw_iconst (v := 0) C dX3_gain_2 (by decide) ?_
  refine pw_istore_n C dX3_gain_3 rfl (by decide) rfl ?_
  exact pw_sub [2, 3, 1, 0] rfl h
set_option maxRecDepth 4000 in
theorem sg_X3_gain_4 {x : gw_X} {G : gw_G} {Φ : Int32 → gw_S → Prop} (C : XC x G RX3 cX3_gain 4 (some .int)) (hR : gw_ok x 1) (hT : RT x G (fi Φ)) (b : Nat) (hb : gw_plan b) (v1 : Int32) (v2 : Int32) (v3 : Int32) (σ : gw_S)
    (h : ((σ.1 b 4) ≤ v3 → Φ v2 σ) ∧ (¬ ((σ.1 b 4) ≤ v3) → vp_in v3 14 ∧ (PW x G 4 4 [(0, .ref (G.1 + b)), (1, .int v1), (2, .int (v2 + ((((σ.1 (b + 8) v3.toNatClampNeg) - (if (σ.1 (b + 5) v3.toNatClampNeg) = v1 then σ.1 (b + 7) v3.toNatClampNeg else 0 : Int32)) + (if (σ.1 (b + 4) v3.toNatClampNeg) = v1 then σ.1 (b + 6) v3.toNatClampNeg else 0 : Int32)) - (σ.1 (b + 8) v3.toNatClampNeg)))), (3, .int (v3 + 1))] [] σ))) : PW x G 4 4 [(0, .ref (G.1 + b)), (1, .int v1), (2, .int v2), (3, .int v3)] [] σ := by
  refine pw_iload_n C dX3_gain_4 rfl 3 rfl ?_
  refine pw_aload_n C dX3_gain_5 rfl 0 rfl ?_
  refine pw_geti C dX3_gain_6 gf_RX3_40 (gw_p0 hb) hb.2.1 rfl ?_
  refine pw_icmp_ge (tgt := 34) C dX3_gain_9 (by decide) (fun q => ?_) (fun q => ?_)
  · replace h := h.1 q
    refine pw_iload_n C dX3_gain_34 rfl 2 rfl ?_
    exact pw_iret C hT dX3_gain_35 h
  · replace h := h.2 q
    refine pw_iload_n C dX3_gain_12 rfl 2 rfl ?_
    refine pw_aload_n C dX3_gain_13 rfl 0 rfl ?_
    refine pw_iload_n C dX3_gain_14 rfl 1 rfl ?_
    refine pw_iload_n C dX3_gain_15 rfl 3 rfl ?_
    obtain ⟨g1, h⟩ := h
    refine pw_callV C dX3_gain_16 (k_X3_marksBehind b v1 v3 hb σ g1) gm_X3_marksBehind gl_RX3_78 rfl hR (by decide) (by decide) (by decide) rfl (gw_p0 hb) hb.2.1 rfl (Nat.le_of_ble_eq_true rfl) ?_
    rintro _ _ ⟨_, rfl, rfl, rfl⟩
    show PW x G 4 19 [(0, .ref (G.1 + b)), (1, .int v1), (2, .int v2), (3, .int v3)] [.int (((σ.1 (b + 8) v3.toNatClampNeg) - (if (σ.1 (b + 5) v3.toNatClampNeg) = v1 then σ.1 (b + 7) v3.toNatClampNeg else 0 : Int32)) + (if (σ.1 (b + 4) v3.toNatClampNeg) = v1 then σ.1 (b + 6) v3.toNatClampNeg else 0 : Int32)), .int v2] σ
    refine pw_aload_n C dX3_gain_19 rfl 0 rfl ?_
    refine pw_getr C dX3_gain_20 gf_RX3_33 (gw_p0 hb) hb.2.1 rfl ?_
    refine pw_iload_n C dX3_gain_23 rfl 3 rfl ?_
    refine pw_iald C dX3_gain_24 (gw_pn hb 8 (by decide)) hb.2.2.2.2.2.2.2.2.2 g1 ?_
    refine pw_isub C dX3_gain_25 ?_
    refine pw_iadd C dX3_gain_26 ?_
    refine pw_istore_n C dX3_gain_27 rfl (by decide) rfl ?_
    refine pw_iinc (v := (v3 + 1)) (j := 3) C dX3_gain_28 rfl rfl (by decide) rfl ?_
    refine pw_goto (tgt := 4) C dX3_gain_31 (by decide) ?_
    exact pw_sub [2, 3, 1, 0] rfl h
set_option maxRecDepth 4000 in
theorem sg_X3_allMarks_0 {x : gw_X} {G : gw_G} {Φ : Int32 → gw_S → Prop} (C : XC x G RX3 cX3_allMarks 3 (some .int)) (hR : gw_ok x 0) (hT : RT x G (fi Φ)) (b : Nat) (hb : gw_plan b) (σ : gw_S)
    (h : PW x G 3 4 [(0, .ref (G.1 + b)), (1, .int 0), (2, .int 0)] [] σ) : PW x G 3 0 [(0, .ref (G.1 + b))] [] σ := by
  refine pw_iconst (v := 0) C dX3_allMarks_0 (by decide) ?_
  refine pw_istore_n C dX3_allMarks_1 rfl (by decide) rfl ?_
  refine pw_iconst (v := 0) C dX3_allMarks_2 (by decide) ?_
  refine pw_istore_n C dX3_allMarks_3 rfl (by decide) rfl ?_
  exact pw_sub [2, 1, 0] rfl h
set_option maxRecDepth 4000 in
theorem sg_X3_allMarks_4 {x : gw_X} {G : gw_G} {Φ : Int32 → gw_S → Prop} (C : XC x G RX3 cX3_allMarks 3 (some .int)) (hR : gw_ok x 0) (hT : RT x G (fi Φ)) (b : Nat) (hb : gw_plan b) (v1 : Int32) (v2 : Int32) (σ : gw_S)
    (h : ((σ.1 b 4) ≤ v2 → Φ v1 σ) ∧ (¬ ((σ.1 b 4) ≤ v2) → vp_in v2 14 ∧ (PW x G 3 4 [(0, .ref (G.1 + b)), (1, .int (v1 + (σ.1 (b + 8) v2.toNatClampNeg))), (2, .int (v2 + 1))] [] σ))) : PW x G 3 4 [(0, .ref (G.1 + b)), (1, .int v1), (2, .int v2)] [] σ := by
  refine pw_iload_n C dX3_allMarks_4 rfl 2 rfl ?_
  refine pw_aload_n C dX3_allMarks_5 rfl 0 rfl ?_
  refine pw_geti C dX3_allMarks_6 gf_RX3_40 (gw_p0 hb) hb.2.1 rfl ?_
  refine pw_icmp_ge (tgt := 27) C dX3_allMarks_9 (by decide) (fun q => ?_) (fun q => ?_)
  · replace h := h.1 q
    refine pw_iload_n C dX3_allMarks_27 rfl 1 rfl ?_
    exact pw_iret C hT dX3_allMarks_28 h
  · replace h := h.2 q
    refine pw_iload_n C dX3_allMarks_12 rfl 1 rfl ?_
    refine pw_aload_n C dX3_allMarks_13 rfl 0 rfl ?_
    refine pw_getr C dX3_allMarks_14 gf_RX3_33 (gw_p0 hb) hb.2.1 rfl ?_
    refine pw_iload_n C dX3_allMarks_17 rfl 2 rfl ?_
    obtain ⟨g1, h⟩ := h
    refine pw_iald C dX3_allMarks_18 (gw_pn hb 8 (by decide)) hb.2.2.2.2.2.2.2.2.2 g1 ?_
    refine pw_iadd C dX3_allMarks_19 ?_
    refine pw_istore_n C dX3_allMarks_20 rfl (by decide) rfl ?_
    refine pw_iinc (v := (v2 + 1)) (j := 2) C dX3_allMarks_21 rfl rfl (by decide) rfl ?_
    refine pw_goto (tgt := 4) C dX3_allMarks_24 (by decide) ?_
    exact pw_sub [2, 1, 0] rfl h
set_option maxRecDepth 4000 in
theorem sg_X3_allWorks_0 {x : gw_X} {G : gw_G} {Φ : Int32 → gw_S → Prop} (C : XC x G RX3 cX3_allWorks 3 (some .int)) (hR : gw_ok x 0) (hT : RT x G (fi Φ)) (b : Nat) (hb : gw_plan b) (σ : gw_S)
    (h : PW x G 3 4 [(0, .ref (G.1 + b)), (1, .int 0), (2, .int 0)] [] σ) : PW x G 3 0 [(0, .ref (G.1 + b))] [] σ := by
  refine pw_iconst (v := 0) C dX3_allWorks_0 (by decide) ?_
  refine pw_istore_n C dX3_allWorks_1 rfl (by decide) rfl ?_
  refine pw_iconst (v := 0) C dX3_allWorks_2 (by decide) ?_
  refine pw_istore_n C dX3_allWorks_3 rfl (by decide) rfl ?_
  exact pw_sub [2, 1, 0] rfl h
set_option maxRecDepth 4000 in
theorem sg_X3_allWorks_4 {x : gw_X} {G : gw_G} {Φ : Int32 → gw_S → Prop} (C : XC x G RX3 cX3_allWorks 3 (some .int)) (hR : gw_ok x 0) (hT : RT x G (fi Φ)) (b : Nat) (hb : gw_plan b) (v1 : Int32) (v2 : Int32) (σ : gw_S)
    (h : ((σ.1 b 0) ≤ v2 → Φ v1 σ) ∧ (¬ ((σ.1 b 0) ≤ v2) → vp_in v2 8 ∧ (PW x G 3 4 [(0, .ref (G.1 + b)), (1, .int (v1 + (σ.1 (b + 3) v2.toNatClampNeg))), (2, .int (v2 + 1))] [] σ))) : PW x G 3 4 [(0, .ref (G.1 + b)), (1, .int v1), (2, .int v2)] [] σ := by
  refine pw_iload_n C dX3_allWorks_4 rfl 2 rfl ?_
  refine pw_aload_n C dX3_allWorks_5 rfl 0 rfl ?_
  refine pw_geti C dX3_allWorks_6 gf_RX3_36 (gw_p0 hb) hb.2.1 rfl ?_
  refine pw_icmp_ge (tgt := 27) C dX3_allWorks_9 (by decide) (fun q => ?_) (fun q => ?_)
  · replace h := h.1 q
    refine pw_iload_n C dX3_allWorks_27 rfl 1 rfl ?_
    exact pw_iret C hT dX3_allWorks_28 h
  · replace h := h.2 q
    refine pw_iload_n C dX3_allWorks_12 rfl 1 rfl ?_
    refine pw_aload_n C dX3_allWorks_13 rfl 0 rfl ?_
    refine pw_getr C dX3_allWorks_14 gf_RX3_18 (gw_p0 hb) hb.2.1 rfl ?_
    refine pw_iload_n C dX3_allWorks_17 rfl 2 rfl ?_
    obtain ⟨g1, h⟩ := h
    refine pw_iald C dX3_allWorks_18 (gw_pn hb 3 (by decide)) hb.2.2.2.2.1 g1 ?_
    refine pw_iadd C dX3_allWorks_19 ?_
    refine pw_istore_n C dX3_allWorks_20 rfl (by decide) rfl ?_
    refine pw_iinc (v := (v2 + 1)) (j := 2) C dX3_allWorks_21 rfl rfl (by decide) rfl ?_
    refine pw_goto (tgt := 4) C dX3_allWorks_24 (by decide) ?_
    exact pw_sub [2, 1, 0] rfl h
set_option maxRecDepth 4000 in
theorem sg_X3_count_0 {x : gw_X} {G : gw_G} {Φ : Int32 → gw_S → Prop} (C : XC x G RX3 cX3_count 5 (some .int)) (hR : gw_ok x 0) (hT : RT x G (fi Φ)) (k0 : Nat) (v1 : Int32) (v2 : Int32) (hk0 : gw_ia k0 14) (σ : gw_S)
    (h : PW x G 5 5 [(0, .ref (G.1 + k0)), (1, .int v1), (2, .int v2), (3, .int 0), (4, .int 0)] [] σ) : PW x G 5 0 [(0, .ref (G.1 + k0)), (1, .int v1), (2, .int v2)] [] σ := by
  refine pw_iconst (v := 0) C dX3_count_0 (by decide) ?_
  refine pw_istore_n C dX3_count_1 rfl (by decide) rfl ?_
  refine pw_iconst (v := 0) C dX3_count_2 (by decide) ?_
  refine pw_istore C dX3_count_3 (by decide) rfl ?_
  exact pw_sub [2, 3, 4, 1, 0] rfl h
set_option maxRecDepth 4000 in
theorem sg_X3_count_5 {x : gw_X} {G : gw_G} {Φ : Int32 → gw_S → Prop} (C : XC x G RX3 cX3_count 5 (some .int)) (hR : gw_ok x 0) (hT : RT x G (fi Φ)) (k0 : Nat) (hk0 : gw_ia k0 14) (v1 : Int32) (v2 : Int32) (v3 : Int32) (v4 : Int32) (σ : gw_S)
    (h : (v1 ≤ v4 → Φ v3 σ) ∧ (¬ (v1 ≤ v4) → (14 ≤ v4 → Φ v3 σ) ∧ (¬ (14 ≤ v4) → vp_in v4 14 ∧ (PW x G 5 5 [(0, .ref (G.1 + k0)), (1, .int v1), (2, .int v2), (3, .int (if (σ.1 k0 v4.toNatClampNeg) = v2 then v3 + 1 else v3 : Int32)), (4, .int (v4 + 1))] [] σ)))) : PW x G 5 5 [(0, .ref (G.1 + k0)), (1, .int v1), (2, .int v2), (3, .int v3), (4, .int v4)] [] σ := by
  refine pw_iload C dX3_count_5 4 rfl ?_
  refine pw_iload_n C dX3_count_7 rfl 1 rfl ?_
  refine pw_icmp_ge (tgt := 35) C dX3_count_8 (by decide) (fun q => ?_) (fun q => ?_)
  · replace h := h.1 q
    refine pw_iload_n C dX3_count_35 rfl 3 rfl ?_
    exact pw_iret C hT dX3_count_36 h
  · replace h := h.2 q
    refine pw_iload C dX3_count_11 4 rfl ?_
    refine pw_aload_n C dX3_count_13 rfl 0 rfl ?_
    refine pw_alen (v := 14) C dX3_count_14 hk0.1 hk0.2 (by decide) ?_
    refine pw_icmp_ge (tgt := 35) C dX3_count_15 (by decide) (fun q => ?_) (fun q => ?_)
    · replace h := h.1 q
      refine pw_iload_n C dX3_count_35 rfl 3 rfl ?_
      exact pw_iret C hT dX3_count_36 h
    · replace h := h.2 q
      refine pw_aload_n C dX3_count_18 rfl 0 rfl ?_
      refine pw_iload C dX3_count_19 4 rfl ?_
      obtain ⟨g1, h⟩ := h
      refine pw_iald C dX3_count_21 hk0.1 hk0.2 g1 ?_
      refine pw_iload_n C dX3_count_22 rfl 2 rfl ?_
      have hJ : ∀ w0 : Int32, (if (σ.1 k0 v4.toNatClampNeg) = v2 then v3 + 1 else v3 : Int32) = w0 → PW x G 5 29 [(3, .int w0), (0, .ref (G.1 + k0)), (1, .int v1), (2, .int v2), (4, .int v4)] [] σ := by
        rintro _ rfl
        refine pw_iinc (v := (v4 + 1)) (j := 4) C dX3_count_29 rfl rfl (by decide) rfl ?_
        refine pw_goto (tgt := 5) C dX3_count_32 (by decide) ?_
        exact pw_sub [2, 3, 4, 1, 0] rfl h
      clear h
      refine pw_icmp_ne (tgt := 29) C dX3_count_23 (by decide) (fun q3 => ?_) (fun q3 => ?_)
      exact pw_sub [3, 0, 1, 2, 4] rfl (hJ v3 (if_neg q3))
      · refine pw_iinc (v := (v3 + 1)) (j := 3) C dX3_count_26 rfl rfl (by decide) rfl ?_
        exact hJ (v3 + 1) (if_pos q3)
set_option maxRecDepth 4000 in
theorem sg_X3_ready_0 {x : gw_X} {G : gw_G} {Φ : Int32 → gw_S → Prop} (C : XC x G RX3 cX3_ready 3 (some .int)) (hR : gw_ok x 2) (hT : RT x G (fi Φ)) (b : Nat) (hb : gw_plan b) (σ : gw_S)
    (h : PW x G 3 4 [(0, .ref (G.1 + b)), (1, .int 0), (2, .int 0)] [] σ) : PW x G 3 0 [(0, .ref (G.1 + b))] [] σ := by
  refine pw_iconst (v := 0) C dX3_ready_0 (by decide) ?_
  refine pw_istore_n C dX3_ready_1 rfl (by decide) rfl ?_
  refine pw_iconst (v := 0) C dX3_ready_2 (by decide) ?_
  refine pw_istore_n C dX3_ready_3 rfl (by decide) rfl ?_
  exact pw_sub [2, 1, 0] rfl h
set_option maxRecDepth 4000 in
theorem sg_X3_ready_4 {x : gw_X} {G : gw_G} {Φ : Int32 → gw_S → Prop} (C : XC x G RX3 cX3_ready 3 (some .int)) (hR : gw_ok x 2) (hT : RT x G (fi Φ)) (b : Nat) (hb : gw_plan b) (v1 : Int32) (v2 : Int32) (σ : gw_S)
    (h : ((σ.1 b 0) ≤ v2 → Φ v1 σ) ∧ (¬ ((σ.1 b 0) ≤ v2) → ∃ Φ1 : Bool → gw_S → Prop, gw_M (xl x) G yX3_canWork cX3_canWork 3 (some .boolean) 1 [.ref (G.1 + b), .int v2] σ (fz Φ1) ∧ ∀ (r3 : Bool) (τ2 : gw_S), Φ1 r3 τ2 → (PW x G 3 4 [(0, .ref (G.1 + b)), (1, .int (if r3 = false then v1 else v1 ||| ((1 : Int32) <<< (v2 &&& 31)) : Int32)), (2, .int (v2 + 1))] [] τ2))) : PW x G 3 4 [(0, .ref (G.1 + b)), (1, .int v1), (2, .int v2)] [] σ := by
  refine pw_iload_n C dX3_ready_4 rfl 2 rfl ?_
  refine pw_aload_n C dX3_ready_5 rfl 0 rfl ?_
  refine pw_geti C dX3_ready_6 gf_RX3_36 (gw_p0 hb) hb.2.1 rfl ?_
  refine pw_icmp_ge (tgt := 32) C dX3_ready_9 (by decide) (fun q => ?_) (fun q => ?_)
  · replace h := h.1 q
    refine pw_iload_n C dX3_ready_32 rfl 1 rfl ?_
    exact pw_iret C hT dX3_ready_33 h
  · replace h := h.2 q
    refine pw_aload_n C dX3_ready_12 rfl 0 rfl ?_
    refine pw_iload_n C dX3_ready_13 rfl 2 rfl ?_
    obtain ⟨Φ1, hM, h⟩ := h
    refine pw_callV C dX3_ready_14 hM gm_X3_canWork gl_RX3_75 rfl hR (by decide) (by decide) (by decide) rfl (gw_p0 hb) hb.2.1 rfl (Nat.le_of_ble_eq_true rfl) ?_
    rintro _ τ2 ⟨r3, rfl, hv⟩
    replace h := h r3 τ2 hv
    show PW x G 3 17 [(0, .ref (G.1 + b)), (1, .int v1), (2, .int v2)] [.int (gz r3)] τ2
    have hJ : ∀ w0 : Int32, (if r3 = false then v1 else v1 ||| ((1 : Int32) <<< (v2 &&& 31)) : Int32) = w0 → PW x G 3 26 [(0, .ref (G.1 + b)), (1, .int w0), (2, .int v2)] [] τ2 := by
      rintro _ rfl
      refine pw_iinc (v := (v2 + 1)) (j := 2) C dX3_ready_26 rfl rfl (by decide) rfl ?_
      refine pw_goto (tgt := 4) C dX3_ready_29 (by decide) ?_
      exact pw_sub [1, 2, 0] rfl h
    clear h
    refine pw_z_eq (tgt := 26) C dX3_ready_17 (by decide) (fun q2 => ?_) (fun q2 => ?_)
    exact hJ v1 (if_pos q2)
    · refine pw_iload_n C dX3_ready_20 rfl 1 rfl ?_
      refine pw_iconst (v := 1) C dX3_ready_21 (by decide) ?_
      refine pw_iload_n C dX3_ready_22 rfl 2 rfl ?_
      refine pw_ishl C dX3_ready_23 ?_
      refine pw_ior C dX3_ready_24 ?_
      refine pw_istore_n C dX3_ready_25 rfl (by decide) rfl ?_
      exact pw_sub [1, 0, 2] rfl (hJ (v1 ||| ((1 : Int32) <<< (v2 &&& 31))) (if_neg q2))
set_option maxRecDepth 4000 in
theorem sg_X3_onLoops_0 {x : gw_X} {G : gw_G} {Φ : Int32 → gw_S → Prop} (C : XC x G RX3 cX3_onLoops 5 (some .int)) (hR : gw_ok x 1) (hT : RT x G (fi Φ)) (b : Nat) (hb : gw_plan b) (σ : gw_S)
    (h : PW x G 5 4 [(0, .ref (G.1 + b)), (1, .int 0), (2, .int 0)] [] σ) : PW x G 5 0 [(0, .ref (G.1 + b))] [] σ := by
  refine pw_iconst (v := 0) C dX3_onLoops_0 (by decide) ?_
  refine pw_istore_n C dX3_onLoops_1 rfl (by decide) rfl ?_
  refine pw_iconst (v := 0) C dX3_onLoops_2 (by decide) ?_
  refine pw_istore_n C dX3_onLoops_3 rfl (by decide) rfl ?_
  exact pw_sub [2, 1, 0] rfl h
set_option maxRecDepth 4000 in
theorem sg_X3_onLoops_4 {x : gw_X} {G : gw_G} {Φ : Int32 → gw_S → Prop} (C : XC x G RX3 cX3_onLoops 5 (some .int)) (hR : gw_ok x 1) (hT : RT x G (fi Φ)) (b : Nat) (hb : gw_plan b) (v1 : Int32) (v2 : Int32) (σ : gw_S)
    (h : ((σ.1 b 0) ≤ v2 → Φ v1 σ) ∧ (¬ ((σ.1 b 0) ≤ v2) → PW x G 5 17 [(0, .ref (G.1 + b)), (1, .int v1), (2, .int v2), (3, .int 0), (4, .int 0)] [] σ)) : PW x G 5 4 [(0, .ref (G.1 + b)), (1, .int v1), (2, .int v2)] [] σ := by
  refine pw_iload_n C dX3_onLoops_4 rfl 2 rfl ?_
  refine pw_aload_n C dX3_onLoops_5 rfl 0 rfl ?_
  refine pw_geti C dX3_onLoops_6 gf_RX3_36 (gw_p0 hb) hb.2.1 rfl ?_
  refine pw_icmp_ge (tgt := 80) C dX3_onLoops_9 (by decide) (fun q => ?_) (fun q => ?_)
  · replace h := h.1 q
    refine pw_iload_n C dX3_onLoops_80 rfl 1 rfl ?_
    exact pw_iret C hT dX3_onLoops_81 h
  · replace h := h.2 q
    refine pw_iconst (v := 0) C dX3_onLoops_12 (by decide) ?_
    refine pw_istore_n C dX3_onLoops_13 rfl (by decide) rfl ?_
    refine pw_iconst (v := 0) C dX3_onLoops_14 (by decide) ?_
    refine pw_istore C dX3_onLoops_15 (by decide) rfl ?_
    exact pw_sub [2, 3, 4, 1, 0] rfl h
set_option maxRecDepth 4000 in
theorem sg_X3_onLoops_17 {x : gw_X} {G : gw_G} {Φ : Int32 → gw_S → Prop} (C : XC x G RX3 cX3_onLoops 5 (some .int)) (hR : gw_ok x 1) (hT : RT x G (fi Φ)) (b : Nat) (hb : gw_plan b) (v1 : Int32) (v2 : Int32) (v3 : Int32) (v4 : Int32) (σ : gw_S)
    (h : ((σ.1 b 4) ≤ v4 → ∃ Φ1 : Int32 → gw_S → Prop, gw_M (xl x) G yX3_reached cX3_reached 6 (some .int) 0 [.ref (G.1 + b), .int v3, .int 999] σ (fi Φ1) ∧ ∀ (r3 : Int32) (τ2 : gw_S), Φ1 r3 τ2 → (PW x G 5 4 [(0, .ref (G.1 + b)), (1, .int (v1 ||| (r3 &&& ((1 : Int32) <<< (v2 &&& 31))))), (2, .int (v2 + 1))] [] τ2)) ∧ (¬ ((σ.1 b 4) ≤ v4) → vp_in v4 14 ∧ (PW x G 5 17 [(0, .ref (G.1 + b)), (1, .int v1), (2, .int v2), (3, .int (v3 ||| (if (σ.1 (b + 4) v4.toNatClampNeg) = v2 then (1 : Int32) <<< ((σ.1 (b + 5) v4.toNatClampNeg) &&& 31) else 0 : Int32))), (4, .int (v4 + 1))] [] σ))) : PW x G 5 17 [(0, .ref (G.1 + b)), (1, .int v1), (2, .int v2), (3, .int v3), (4, .int v4)] [] σ := by
  refine pw_iload C dX3_onLoops_17 4 rfl ?_
  refine pw_aload_n C dX3_onLoops_19 rfl 0 rfl ?_
  refine pw_geti C dX3_onLoops_20 gf_RX3_40 (gw_p0 hb) hb.2.1 rfl ?_
  refine pw_icmp_ge (tgt := 59) C dX3_onLoops_23 (by decide) (fun q => ?_) (fun q => ?_)
  · replace h := h.1 q
    refine pw_iload_n C dX3_onLoops_59 rfl 1 rfl ?_
    refine pw_aload_n C dX3_onLoops_60 rfl 0 rfl ?_
    refine pw_iload_n C dX3_onLoops_61 rfl 3 rfl ?_
    refine pw_sipush (v := 999) C dX3_onLoops_62 (by decide) ?_
    obtain ⟨Φ1, hM, h⟩ := h
    refine pw_callV C dX3_onLoops_65 hM gm_X3_reached gl_RX3_115 rfl hR (by decide) (by decide) (by decide) rfl (gw_p0 hb) hb.2.1 rfl (Nat.le_of_ble_eq_true rfl) ?_
    rintro _ τ2 ⟨r3, rfl, hv⟩
    replace h := h r3 τ2 hv
    show PW x G 5 68 [(0, .ref (G.1 + b)), (1, .int v1), (2, .int v2), (3, .int v3), (4, .int v4)] [.int r3, .int v1] τ2
    refine pw_iconst (v := 1) C dX3_onLoops_68 (by decide) ?_
    refine pw_iload_n C dX3_onLoops_69 rfl 2 rfl ?_
    refine pw_ishl C dX3_onLoops_70 ?_
    refine pw_iand C dX3_onLoops_71 ?_
    refine pw_ior C dX3_onLoops_72 ?_
    refine pw_istore_n C dX3_onLoops_73 rfl (by decide) rfl ?_
    refine pw_iinc (v := (v2 + 1)) (j := 2) C dX3_onLoops_74 rfl rfl (by decide) rfl ?_
    refine pw_goto (tgt := 4) C dX3_onLoops_77 (by decide) ?_
    exact pw_sub [2, 1, 0] rfl h
  · replace h := h.2 q
    refine pw_iload_n C dX3_onLoops_26 rfl 3 rfl ?_
    refine pw_aload_n C dX3_onLoops_27 rfl 0 rfl ?_
    refine pw_getr C dX3_onLoops_28 gf_RX3_21 (gw_p0 hb) hb.2.1 rfl ?_
    refine pw_iload C dX3_onLoops_31 4 rfl ?_
    obtain ⟨g4, h⟩ := h
    refine pw_iald C dX3_onLoops_33 (gw_pn hb 4 (by decide)) hb.2.2.2.2.2.1 g4 ?_
    refine pw_iload_n C dX3_onLoops_34 rfl 2 rfl ?_
    have hJ : ∀ w0 : Int32, (if (σ.1 (b + 4) v4.toNatClampNeg) = v2 then (1 : Int32) <<< ((σ.1 (b + 5) v4.toNatClampNeg) &&& 31) else 0 : Int32) = w0 → PW x G 5 51 [(0, .ref (G.1 + b)), (1, .int v1), (2, .int v2), (3, .int v3), (4, .int v4)] [.int w0, .int v3] σ := by
      rintro _ rfl
      refine pw_ior C dX3_onLoops_51 ?_
      refine pw_istore_n C dX3_onLoops_52 rfl (by decide) rfl ?_
      refine pw_iinc (v := (v4 + 1)) (j := 4) C dX3_onLoops_53 rfl rfl (by decide) rfl ?_
      refine pw_goto (tgt := 17) C dX3_onLoops_56 (by decide) ?_
      exact pw_sub [2, 3, 4, 1, 0] rfl h
    clear h
    refine pw_icmp_ne (tgt := 50) C dX3_onLoops_35 (by decide) (fun q2 => ?_) (fun q2 => ?_)
    · refine pw_iconst (v := 0) C dX3_onLoops_50 (by decide) ?_
      exact hJ 0 (if_neg q2)
    · refine pw_iconst (v := 1) C dX3_onLoops_38 (by decide) ?_
      refine pw_aload_n C dX3_onLoops_39 rfl 0 rfl ?_
      refine pw_getr C dX3_onLoops_40 gf_RX3_24 (gw_p0 hb) hb.2.1 rfl ?_
      refine pw_iload C dX3_onLoops_43 4 rfl ?_
      refine pw_iald C dX3_onLoops_45 (gw_pn hb 5 (by decide)) hb.2.2.2.2.2.2.1 g4 ?_
      refine pw_ishl C dX3_onLoops_46 ?_
      refine pw_goto (tgt := 51) C dX3_onLoops_47 (by decide) ?_
      exact hJ ((1 : Int32) <<< ((σ.1 (b + 5) v4.toNatClampNeg) &&& 31)) (if_pos q2)
set_option maxRecDepth 4000 in
theorem sg_X3_parts_0 {x : gw_X} {G : gw_G} {Φ : Int32 → gw_S → Prop} (C : XC x G RX3 cX3_parts 4 (some .int)) (hR : gw_ok x 1) (hT : RT x G (fi Φ)) (b : Nat) (hb : gw_plan b) (σ : gw_S)
    (h : PW x G 4 6 [(0, .ref (G.1 + b)), (1, .int 0), (2, .int 0), (3, .int 0)] [] σ) : PW x G 4 0 [(0, .ref (G.1 + b))] [] σ := by
  refine pw_iconst (v := 0) C dX3_parts_0 (by decide) ?_
  refine pw_istore_n C dX3_parts_1 rfl (by decide) rfl ?_
  refine pw_iconst (v := 0) C dX3_parts_2 (by decide) ?_
  refine pw_istore_n C dX3_parts_3 rfl (by decide) rfl ?_
  refine pw_iconst (v := 0) C dX3_parts_4 (by decide) ?_
  refine pw_istore_n C dX3_parts_5 rfl (by decide) rfl ?_
  exact pw_sub [3, 2, 1, 0] rfl h
set_option maxRecDepth 4000 in
theorem sg_X3_parts_6 {x : gw_X} {G : gw_G} {Φ : Int32 → gw_S → Prop} (C : XC x G RX3 cX3_parts 4 (some .int)) (hR : gw_ok x 1) (hT : RT x G (fi Φ)) (b : Nat) (hb : gw_plan b) (v1 : Int32) (v2 : Int32) (v3 : Int32) (σ : gw_S)
    (h : ((σ.1 b 0) ≤ v3 → Φ v2 σ) ∧ (¬ ((σ.1 b 0) ≤ v3) → (¬ (((v1 >>> (v3 &&& 31)) &&& 1) = 0) → PW x G 4 6 [(0, .ref (G.1 + b)), (1, .int v1), (2, .int v2), (3, .int (v3 + 1))] [] σ) ∧ (((v1 >>> (v3 &&& 31)) &&& 1) = 0 → ∃ Φ1 : Int32 → gw_S → Prop, gw_M (xl x) G yX3_partOf cX3_partOf 6 (some .int) 0 [.ref (G.1 + b), .int v3] σ (fi Φ1) ∧ ∀ (r3 : Int32) (τ2 : gw_S), Φ1 r3 τ2 → (PW x G 4 6 [(0, .ref (G.1 + b)), (1, .int (v1 ||| r3)), (2, .int (v2 + 1)), (3, .int (v3 + 1))] [] τ2)))) : PW x G 4 6 [(0, .ref (G.1 + b)), (1, .int v1), (2, .int v2), (3, .int v3)] [] σ := by
  refine pw_iload_n C dX3_parts_6 rfl 3 rfl ?_
  refine pw_aload_n C dX3_parts_7 rfl 0 rfl ?_
  refine pw_geti C dX3_parts_8 gf_RX3_36 (gw_p0 hb) hb.2.1 rfl ?_
  refine pw_icmp_ge (tgt := 39) C dX3_parts_11 (by decide) (fun q => ?_) (fun q => ?_)
  · replace h := h.1 q
    refine pw_iload_n C dX3_parts_39 rfl 2 rfl ?_
    exact pw_iret C hT dX3_parts_40 h
  · replace h := h.2 q
    refine pw_iload_n C dX3_parts_14 rfl 1 rfl ?_
    refine pw_iload_n C dX3_parts_15 rfl 3 rfl ?_
    refine pw_ishr C dX3_parts_16 ?_
    refine pw_iconst (v := 1) C dX3_parts_17 (by decide) ?_
    refine pw_iand C dX3_parts_18 ?_
    refine pw_if_ne (tgt := 33) C dX3_parts_19 (by decide) (fun q => ?_) (fun q => ?_)
    · replace h := h.1 q
      refine pw_iinc (v := (v3 + 1)) (j := 3) C dX3_parts_33 rfl rfl (by decide) rfl ?_
      refine pw_goto (tgt := 6) C dX3_parts_36 (by decide) ?_
      exact pw_sub [1, 2, 3, 0] rfl h
    · replace h := h.2 q
      refine pw_iinc (v := (v2 + 1)) (j := 2) C dX3_parts_22 rfl rfl (by decide) rfl ?_
      refine pw_iload_n C dX3_parts_25 rfl 2 rfl ?_
      refine pw_aload_n C dX3_parts_26 rfl 1 rfl ?_
      refine pw_iload_n C dX3_parts_27 rfl 3 rfl ?_
      obtain ⟨Φ1, hM, h⟩ := h
      refine pw_callV C dX3_parts_28 hM gm_X3_partOf gl_RX3_118 rfl hR (by decide) (by decide) (by decide) rfl (gw_p0 hb) hb.2.1 rfl (Nat.le_of_ble_eq_true rfl) ?_
      rintro _ τ2 ⟨r3, rfl, hv⟩
      replace h := h r3 τ2 hv
      show PW x G 4 31 [(2, .int (v2 + 1)), (0, .ref (G.1 + b)), (1, .int v1), (3, .int v3)] [.int r3, .int v1] τ2
      refine pw_ior C dX3_parts_31 ?_
      refine pw_istore_n C dX3_parts_32 rfl (by decide) rfl ?_
      refine pw_iinc (v := (v3 + 1)) (j := 3) C dX3_parts_33 rfl rfl (by decide) rfl ?_
      refine pw_goto (tgt := 6) C dX3_parts_36 (by decide) ?_
      exact pw_sub [3, 1, 2, 0] rfl h
set_option maxRecDepth 4000 in
theorem sg_X3_partOf_0 {x : gw_X} {G : gw_G} {Φ : Int32 → gw_S → Prop} (C : XC x G RX3 cX3_partOf 6 (some .int)) (hR : gw_ok x 0) (hT : RT x G (fi Φ)) (b : Nat) (v1 : Int32) (hb : gw_plan b) (σ : gw_S)
    (h : PW x G 6 6 [(0, .ref (G.1 + b)), (1, .int v1), (2, .int ((1 : Int32) <<< (v1 &&& 31))), (3, .int 1)] [] σ) : PW x G 6 0 [(0, .ref (G.1 + b)), (1, .int v1)] [] σ := by
  refine pw_iconst (v := 1) C dX3_partOf_0 (by decide) ?_
  refine pw_iload_n C dX3_partOf_1 rfl 1 rfl ?_
  refine pw_ishl C dX3_partOf_2 ?_
  refine pw_istore_n C dX3_partOf_3 rfl (by decide) rfl ?_
  refine pw_iconst (v := 1) C dX3_partOf_4 (by decide) ?_
  refine pw_istore_n C dX3_partOf_5 rfl (by decide) rfl ?_
  exact pw_sub [2, 3, 1, 0] rfl h
set_option maxRecDepth 4000 in
theorem sg_X3_partOf_6 {x : gw_X} {G : gw_G} {Φ : Int32 → gw_S → Prop} (C : XC x G RX3 cX3_partOf 6 (some .int)) (hR : gw_ok x 0) (hT : RT x G (fi Φ)) (b : Nat) (hb : gw_plan b) (v1 : Int32) (v2 : Int32) (v3 : Int32) (σ : gw_S)
    (h : ((σ.1 b 0) ≤ v3 → Φ v2 σ) ∧ (¬ ((σ.1 b 0) ≤ v3) → PW x G 6 17 [(0, .ref (G.1 + b)), (1, .int v1), (2, .int v2), (3, .int v3), (4, .int 0)] [] σ)) : PW x G 6 6 [(0, .ref (G.1 + b)), (1, .int v1), (2, .int v2), (3, .int v3)] [] σ := by
  refine pw_iload_n C dX3_partOf_6 rfl 3 rfl ?_
  refine pw_aload_n C dX3_partOf_7 rfl 0 rfl ?_
  refine pw_geti C dX3_partOf_8 gf_RX3_36 (gw_p0 hb) hb.2.1 rfl ?_
  refine pw_icmp_ge (tgt := 75) C dX3_partOf_11 (by decide) (fun q => ?_) (fun q => ?_)
  · replace h := h.1 q
    refine pw_iload_n C dX3_partOf_75 rfl 2 rfl ?_
    exact pw_iret C hT dX3_partOf_76 h
  · replace h := h.2 q
    refine pw_iconst (v := 0) C dX3_partOf_14 (by decide) ?_
    refine pw_istore C dX3_partOf_15 (by decide) rfl ?_
    exact pw_sub [1, 2, 3, 4, 0] rfl h
set_option maxRecDepth 4000 in
theorem sg_X3_partOf_17 {x : gw_X} {G : gw_G} {Φ : Int32 → gw_S → Prop} (C : XC x G RX3 cX3_partOf 6 (some .int)) (hR : gw_ok x 0) (hT : RT x G (fi Φ)) (b : Nat) (hb : gw_plan b) (v1 : Int32) (v2 : Int32) (v3 : Int32) (v4 : Int32) (σ : gw_S)
    (h : ((σ.1 b 4) ≤ v4 → PW x G 6 6 [(0, .ref (G.1 + b)), (1, .int v1), (2, .int v2), (3, .int (v3 + 1))] [] σ) ∧ (¬ ((σ.1 b 4) ≤ v4) → vp_in v4 14 ∧ (PW x G 6 17 [(0, .ref (G.1 + b)), (1, .int v1), (2, .int (v2 ||| (if (v2 &&& (((1 : Int32) <<< ((σ.1 (b + 4) v4.toNatClampNeg) &&& 31)) ||| ((1 : Int32) <<< ((σ.1 (b + 5) v4.toNatClampNeg) &&& 31)))) = 0 then 0 else ((1 : Int32) <<< ((σ.1 (b + 4) v4.toNatClampNeg) &&& 31)) ||| ((1 : Int32) <<< ((σ.1 (b + 5) v4.toNatClampNeg) &&& 31)) : Int32))), (3, .int v3), (4, .int (v4 + 1))] [] σ))) : PW x G 6 17 [(0, .ref (G.1 + b)), (1, .int v1), (2, .int v2), (3, .int v3), (4, .int v4)] [] σ := by
  refine pw_iload C dX3_partOf_17 4 rfl ?_
  refine pw_aload_n C dX3_partOf_19 rfl 0 rfl ?_
  refine pw_geti C dX3_partOf_20 gf_RX3_40 (gw_p0 hb) hb.2.1 rfl ?_
  refine pw_icmp_ge (tgt := 69) C dX3_partOf_23 (by decide) (fun q => ?_) (fun q => ?_)
  · replace h := h.1 q
    refine pw_iinc (v := (v3 + 1)) (j := 3) C dX3_partOf_69 rfl rfl (by decide) rfl ?_
    refine pw_goto (tgt := 6) C dX3_partOf_72 (by decide) ?_
    exact pw_sub [1, 2, 3, 0] rfl h
  · replace h := h.2 q
    refine pw_iconst (v := 1) C dX3_partOf_26 (by decide) ?_
    refine pw_aload_n C dX3_partOf_27 rfl 0 rfl ?_
    refine pw_getr C dX3_partOf_28 gf_RX3_21 (gw_p0 hb) hb.2.1 rfl ?_
    refine pw_iload C dX3_partOf_31 4 rfl ?_
    obtain ⟨g1, h⟩ := h
    refine pw_iald C dX3_partOf_33 (gw_pn hb 4 (by decide)) hb.2.2.2.2.2.1 g1 ?_
    refine pw_ishl C dX3_partOf_34 ?_
    refine pw_iconst (v := 1) C dX3_partOf_35 (by decide) ?_
    refine pw_aload_n C dX3_partOf_36 rfl 0 rfl ?_
    refine pw_getr C dX3_partOf_37 gf_RX3_24 (gw_p0 hb) hb.2.1 rfl ?_
    refine pw_iload C dX3_partOf_40 4 rfl ?_
    refine pw_iald C dX3_partOf_42 (gw_pn hb 5 (by decide)) hb.2.2.2.2.2.2.1 g1 ?_
    refine pw_ishl C dX3_partOf_43 ?_
    refine pw_ior C dX3_partOf_44 ?_
    refine pw_istore C dX3_partOf_45 (by decide) rfl ?_
    refine pw_iload_n C dX3_partOf_47 rfl 3 rfl ?_
    refine pw_iload_n C dX3_partOf_48 rfl 3 rfl ?_
    refine pw_iload C dX3_partOf_49 0 rfl ?_
    refine pw_iand C dX3_partOf_51 ?_
    have hJ : ∀ w0 : Int32, (if (v2 &&& (((1 : Int32) <<< ((σ.1 (b + 4) v4.toNatClampNeg) &&& 31)) ||| ((1 : Int32) <<< ((σ.1 (b + 5) v4.toNatClampNeg) &&& 31)))) = 0 then 0 else ((1 : Int32) <<< ((σ.1 (b + 4) v4.toNatClampNeg) &&& 31)) ||| ((1 : Int32) <<< ((σ.1 (b + 5) v4.toNatClampNeg) &&& 31)) : Int32) = w0 → PW x G 6 61 [(5, .int (((1 : Int32) <<< ((σ.1 (b + 4) v4.toNatClampNeg) &&& 31)) ||| ((1 : Int32) <<< ((σ.1 (b + 5) v4.toNatClampNeg) &&& 31)))), (0, .ref (G.1 + b)), (1, .int v1), (2, .int v2), (3, .int v3), (4, .int v4)] [.int w0, .int v2] σ := by
      rintro _ rfl
      refine pw_ior C dX3_partOf_61 ?_
      refine pw_istore_n C dX3_partOf_62 rfl (by decide) rfl ?_
      refine pw_iinc (v := (v4 + 1)) (j := 5) C dX3_partOf_63 rfl rfl (by decide) rfl ?_
      refine pw_goto (tgt := 17) C dX3_partOf_66 (by decide) ?_
      exact pw_sub [3, 4, 1, 5, 0] rfl h
    clear h
    refine pw_if_eq (tgt := 60) C dX3_partOf_52 (by decide) (fun q2 => ?_) (fun q2 => ?_)
    · refine pw_iconst (v := 0) C dX3_partOf_60 (by decide) ?_
      exact hJ 0 (if_pos q2)
    · refine pw_iload C dX3_partOf_55 0 rfl ?_
      refine pw_goto (tgt := 61) C dX3_partOf_57 (by decide) ?_
      exact hJ (((1 : Int32) <<< ((σ.1 (b + 4) v4.toNatClampNeg) &&& 31)) ||| ((1 : Int32) <<< ((σ.1 (b + 5) v4.toNatClampNeg) &&& 31))) (if_neg q2)
set_option maxRecDepth 4000 in
theorem sg_X3_closesDeadLoop_0 {x : gw_X} {G : gw_G} {Φ : Bool → gw_S → Prop} (C : XC x G RX3 cX3_closesDeadLoop 3 (some .boolean)) (hR : gw_ok x 1) (hT : RT x G (fz Φ)) (b : Nat) (v1 : Int32) (v2 : Int32) (hb : gw_plan b) (σ : gw_S)
    (h : ∃ Φ1 : Int32 → gw_S → Prop, gw_M (xl x) G yX3_reached cX3_reached 6 (some .int) 0 [.ref (G.1 + b), .int ((1 : Int32) <<< (v2 &&& 31)), .int 0] σ (fi Φ1) ∧ ∀ (r3 : Int32) (τ2 : gw_S), Φ1 r3 τ2 → (Φ (if ((r3 >>> (v1 &&& 31)) &&& 1) = 0 then false else true : Bool) τ2)) : PW x G 3 0 [(0, .ref (G.1 + b)), (1, .int v1), (2, .int v2)] [] σ := by
  refine pw_aload_n C dX3_closesDeadLoop_0 rfl 0 rfl ?_
  refine pw_iconst (v := 1) C dX3_closesDeadLoop_1 (by decide) ?_
  refine pw_iload_n C dX3_closesDeadLoop_2 rfl 2 rfl ?_
  refine pw_ishl C dX3_closesDeadLoop_3 ?_
  refine pw_iconst (v := 0) C dX3_closesDeadLoop_4 (by decide) ?_
  obtain ⟨Φ1, hM, h⟩ := h
  refine pw_callV C dX3_closesDeadLoop_5 hM gm_X3_reached gl_RX3_115 rfl hR (by decide) (by decide) (by decide) rfl (gw_p0 hb) hb.2.1 rfl (Nat.le_of_ble_eq_true rfl) ?_
  rintro _ τ2 ⟨r3, rfl, hv⟩
  replace h := h r3 τ2 hv
  show PW x G 3 8 [(0, .ref (G.1 + b)), (1, .int v1), (2, .int v2)] [.int r3] τ2
  refine pw_iload_n C dX3_closesDeadLoop_8 rfl 1 rfl ?_
  refine pw_ishr C dX3_closesDeadLoop_9 ?_
  refine pw_iconst (v := 1) C dX3_closesDeadLoop_10 (by decide) ?_
  refine pw_iand C dX3_closesDeadLoop_11 ?_
  have hJ : ∀ w0 : Bool, (if ((r3 >>> (v1 &&& 31)) &&& 1) = 0 then false else true : Bool) = w0 → PW x G 3 20 [(0, .ref (G.1 + b)), (1, .int v1), (2, .int v2)] [.int (gz w0)] τ2 := by
    rintro _ rfl
    exact pw_zret (b := (if ((r3 >>> (v1 &&& 31)) &&& 1) = 0 then false else true : Bool)) C hT dX3_closesDeadLoop_20 h
  clear h
  refine pw_if_eq (tgt := 19) C dX3_closesDeadLoop_12 (by decide) (fun q1 => ?_) (fun q1 => ?_)
  · refine pw_iconst (v := 0) C dX3_closesDeadLoop_19 (by decide) ?_
    exact hJ false (if_pos q1)
  · refine pw_iconst (v := 1) C dX3_closesDeadLoop_15 (by decide) ?_
    refine pw_goto (tgt := 20) C dX3_closesDeadLoop_16 (by decide) ?_
    exact hJ true (if_neg q1)
set_option maxRecDepth 4000 in
theorem sg_X3_reached_0 {x : gw_X} {G : gw_G} {Φ : Int32 → gw_S → Prop} (C : XC x G RX3 cX3_reached 6 (some .int)) (hR : gw_ok x 0) (hT : RT x G (fi Φ)) (b : Nat) (v1 : Int32) (v2 : Int32) (hb : gw_plan b) (σ : gw_S)
    (h : PW x G 6 5 [(0, .ref (G.1 + b)), (1, .int v1), (2, .int v2), (3, .int v1), (4, .int 1)] [] σ) : PW x G 6 0 [(0, .ref (G.1 + b)), (1, .int v1), (2, .int v2)] [] σ := by
  refine pw_iload_n C dX3_reached_0 rfl 1 rfl ?_
  refine pw_istore_n C dX3_reached_1 rfl (by decide) rfl ?_
  refine pw_iconst (v := 1) C dX3_reached_2 (by decide) ?_
  refine pw_istore C dX3_reached_3 (by decide) rfl ?_
  exact pw_sub [2, 3, 4, 1, 0] rfl h
set_option maxRecDepth 4000 in
theorem sg_X3_reached_5 {x : gw_X} {G : gw_G} {Φ : Int32 → gw_S → Prop} (C : XC x G RX3 cX3_reached 6 (some .int)) (hR : gw_ok x 0) (hT : RT x G (fi Φ)) (b : Nat) (hb : gw_plan b) (v1 : Int32) (v2 : Int32) (v3 : Int32) (v4 : Int32) (σ : gw_S)
    (h : ((σ.1 b 0) ≤ v4 → Φ v3 σ) ∧ (¬ ((σ.1 b 0) ≤ v4) → PW x G 6 17 [(0, .ref (G.1 + b)), (1, .int v1), (2, .int v2), (3, .int v3), (4, .int v4), (5, .int 0)] [] σ)) : PW x G 6 5 [(0, .ref (G.1 + b)), (1, .int v1), (2, .int v2), (3, .int v3), (4, .int v4)] [] σ := by
  refine pw_iload C dX3_reached_5 4 rfl ?_
  refine pw_aload_n C dX3_reached_7 rfl 0 rfl ?_
  refine pw_geti C dX3_reached_8 gf_RX3_36 (gw_p0 hb) hb.2.1 rfl ?_
  refine pw_icmp_ge (tgt := 75) C dX3_reached_11 (by decide) (fun q => ?_) (fun q => ?_)
  · replace h := h.1 q
    refine pw_iload_n C dX3_reached_75 rfl 3 rfl ?_
    exact pw_iret C hT dX3_reached_76 h
  · replace h := h.2 q
    refine pw_iconst (v := 0) C dX3_reached_14 (by decide) ?_
    refine pw_istore C dX3_reached_15 (by decide) rfl ?_
    exact pw_sub [1, 2, 3, 4, 5, 0] rfl h
set_option maxRecDepth 4000 in
theorem sg_X3_reached_17 {x : gw_X} {G : gw_G} {Φ : Int32 → gw_S → Prop} (C : XC x G RX3 cX3_reached 6 (some .int)) (hR : gw_ok x 0) (hT : RT x G (fi Φ)) (b : Nat) (hb : gw_plan b) (v1 : Int32) (v2 : Int32) (v3 : Int32) (v4 : Int32) (v5 : Int32) (σ : gw_S)
    (h : ((σ.1 b 4) ≤ v5 → PW x G 6 5 [(0, .ref (G.1 + b)), (1, .int v1), (2, .int v2), (3, .int v3), (4, .int (v4 + 1))] [] σ) ∧ (¬ ((σ.1 b 4) ≤ v5) → vp_in v5 14 ∧ (PW x G 6 17 [(0, .ref (G.1 + b)), (1, .int v1), (2, .int v2), (3, .int (if v2 < (σ.1 (b + 8) v5.toNatClampNeg) then v3 else (if ((v3 >>> ((σ.1 (b + 4) v5.toNatClampNeg) &&& 31)) &&& 1) = 0 then v3 else v3 ||| ((1 : Int32) <<< ((σ.1 (b + 5) v5.toNatClampNeg) &&& 31)) : Int32) : Int32)), (4, .int v4), (5, .int (v5 + 1))] [] σ))) : PW x G 6 17 [(0, .ref (G.1 + b)), (1, .int v1), (2, .int v2), (3, .int v3), (4, .int v4), (5, .int v5)] [] σ := by
  refine pw_iload C dX3_reached_17 5 rfl ?_
  refine pw_aload_n C dX3_reached_19 rfl 0 rfl ?_
  refine pw_geti C dX3_reached_20 gf_RX3_40 (gw_p0 hb) hb.2.1 rfl ?_
  refine pw_icmp_ge (tgt := 69) C dX3_reached_23 (by decide) (fun q => ?_) (fun q => ?_)
  · replace h := h.1 q
    refine pw_iinc (v := (v4 + 1)) (j := 4) C dX3_reached_69 rfl rfl (by decide) rfl ?_
    refine pw_goto (tgt := 5) C dX3_reached_72 (by decide) ?_
    exact pw_sub [1, 2, 3, 4, 0] rfl h
  · replace h := h.2 q
    refine pw_aload_n C dX3_reached_26 rfl 0 rfl ?_
    refine pw_getr C dX3_reached_27 gf_RX3_33 (gw_p0 hb) hb.2.1 rfl ?_
    refine pw_iload C dX3_reached_30 5 rfl ?_
    obtain ⟨g1, h⟩ := h
    refine pw_iald C dX3_reached_32 (gw_pn hb 8 (by decide)) hb.2.2.2.2.2.2.2.2.2 g1 ?_
    refine pw_iload_n C dX3_reached_33 rfl 2 rfl ?_
    have hJ : ∀ w0 : Int32, (if v2 < (σ.1 (b + 8) v5.toNatClampNeg) then v3 else (if ((v3 >>> ((σ.1 (b + 4) v5.toNatClampNeg) &&& 31)) &&& 1) = 0 then v3 else v3 ||| ((1 : Int32) <<< ((σ.1 (b + 5) v5.toNatClampNeg) &&& 31)) : Int32) : Int32) = w0 → PW x G 6 63 [(0, .ref (G.1 + b)), (1, .int v1), (2, .int v2), (3, .int w0), (4, .int v4), (5, .int v5)] [] σ := by
      rintro _ rfl
      refine pw_iinc (v := (v5 + 1)) (j := 5) C dX3_reached_63 rfl rfl (by decide) rfl ?_
      refine pw_goto (tgt := 17) C dX3_reached_66 (by decide) ?_
      exact pw_sub [1, 2, 3, 4, 5, 0] rfl h
    clear h
    refine pw_icmp_gt (tgt := 63) C dX3_reached_34 (by decide) (fun q2 => ?_) (fun q2 => ?_)
    exact hJ v3 (if_pos q2)
    · refine pw_iload_n C dX3_reached_37 rfl 3 rfl ?_
      refine pw_aload_n C dX3_reached_38 rfl 0 rfl ?_
      refine pw_getr C dX3_reached_39 gf_RX3_21 (gw_p0 hb) hb.2.1 rfl ?_
      refine pw_iload C dX3_reached_42 5 rfl ?_
      refine pw_iald C dX3_reached_44 (gw_pn hb 4 (by decide)) hb.2.2.2.2.2.1 g1 ?_
      refine pw_ishr C dX3_reached_45 ?_
      refine pw_iconst (v := 1) C dX3_reached_46 (by decide) ?_
      refine pw_iand C dX3_reached_47 ?_
      refine pw_if_eq (tgt := 63) C dX3_reached_48 (by decide) (fun q3 => ?_) (fun q3 => ?_)
      exact hJ v3 ((if_neg q2).trans (if_pos q3))
      · refine pw_iload_n C dX3_reached_51 rfl 3 rfl ?_
        refine pw_iconst (v := 1) C dX3_reached_52 (by decide) ?_
        refine pw_aload_n C dX3_reached_53 rfl 0 rfl ?_
        refine pw_getr C dX3_reached_54 gf_RX3_24 (gw_p0 hb) hb.2.1 rfl ?_
        refine pw_iload C dX3_reached_57 5 rfl ?_
        refine pw_iald C dX3_reached_59 (gw_pn hb 5 (by decide)) hb.2.2.2.2.2.2.1 g1 ?_
        refine pw_ishl C dX3_reached_60 ?_
        refine pw_ior C dX3_reached_61 ?_
        refine pw_istore_n C dX3_reached_62 rfl (by decide) rfl ?_
        exact pw_sub [1, 2, 3, 0, 4, 5] rfl (hJ (v3 ||| ((1 : Int32) <<< ((σ.1 (b + 5) v5.toNatClampNeg) &&& 31))) ((if_neg q2).trans (if_neg q3)))
