set_option maxRecDepth 4000 in
theorem sg_X3_marksBehind_0 {x : gw_X} {G : gw_G} {Φ : Int32 → gw_S → Prop} (C : XC x G RX3 cX3_marksBehind 3 (some .int)) (hR : gw_ok x 0) (hT : RT x G (fi Φ)) (b : Nat) (v1 : Int32) (v2 : Int32) (hb : gw_plan b) (σ : gw_S)
    (h : vp_in v2 14 ∧ (Φ (((σ.1 (b + 8) v2.toNatClampNeg) - (if (σ.1 (b + 5) v2.toNatClampNeg) = v1 then σ.1 (b + 7) v2.toNatClampNeg else 0)) + (if (σ.1 (b + 4) v2.toNatClampNeg) = v1 then σ.1 (b + 6) v2.toNatClampNeg else 0)) σ)) : PW x G 3 0 [(0, .ref (G.1 + b)), (1, .int v1), (2, .int v2)] [] σ := by
  refine pw_aload_n C dX3_marksBehind_0 rfl 0 rfl ?_
  refine pw_getr C dX3_marksBehind_1 gf_RX3_33 (gw_p0 hb) hb.2.1 rfl ?_
  refine pw_iload_n C dX3_marksBehind_4 rfl 2 rfl ?_
  obtain ⟨g1, h⟩ := h
  refine pw_iald C dX3_marksBehind_5 (gw_pn hb 8 (by decide)) hb.2.2.2.2.2.2.2.2.2 g1 ?_
  refine pw_aload_n C dX3_marksBehind_6 rfl 0 rfl ?_
  refine pw_getr C dX3_marksBehind_7 gf_RX3_24 (gw_p0 hb) hb.2.1 rfl ?_
  refine pw_iload_n C dX3_marksBehind_10 rfl 2 rfl ?_
  refine pw_iald C dX3_marksBehind_11 (gw_pn hb 5 (by decide)) hb.2.2.2.2.2.2.1 g1 ?_
  refine pw_iload_n C dX3_marksBehind_12 rfl 1 rfl ?_
  have hJ : PW x G 3 26 [(0, .ref (G.1 + b)), (1, .int v1), (2, .int v2)] [.int (if (σ.1 (b + 5) v2.toNatClampNeg) = v1 then σ.1 (b + 7) v2.toNatClampNeg else 0), .int (σ.1 (b + 8) v2.toNatClampNeg)] σ := by
    refine pw_isub C dX3_marksBehind_26 ?_
    refine pw_aload_n C dX3_marksBehind_27 rfl 0 rfl ?_
    refine pw_getr C dX3_marksBehind_28 gf_RX3_21 (gw_p0 hb) hb.2.1 rfl ?_
    refine pw_iload_n C dX3_marksBehind_31 rfl 2 rfl ?_
    refine pw_iald C dX3_marksBehind_32 (gw_pn hb 4 (by decide)) hb.2.2.2.2.2.1 g1 ?_
    refine pw_iload_n C dX3_marksBehind_33 rfl 1 rfl ?_
    have hJ : PW x G 3 47 [(0, .ref (G.1 + b)), (1, .int v1), (2, .int v2)] [.int (if (σ.1 (b + 4) v2.toNatClampNeg) = v1 then σ.1 (b + 6) v2.toNatClampNeg else 0), .int ((σ.1 (b + 8) v2.toNatClampNeg) - (if (σ.1 (b + 5) v2.toNatClampNeg) = v1 then σ.1 (b + 7) v2.toNatClampNeg else 0))] σ := by
      refine pw_iadd C dX3_marksBehind_47 ?_
      exact pw_iret C hT dX3_marksBehind_48 h
    clear h
    refine pw_icmp_ne (tgt := 46) C dX3_marksBehind_34 (by decide) (fun q2 => ?_) (fun q2 => ?_)
    · refine pw_iconst (v := 0) C dX3_marksBehind_46 (by decide) ?_
      try simp only [if_neg q2, gz_t, gz_f] at hJ
      exact hJ
    · refine pw_aload_n C dX3_marksBehind_37 rfl 0 rfl ?_
      refine pw_getr C dX3_marksBehind_38 gf_RX3_27 (gw_p0 hb) hb.2.1 rfl ?_
      refine pw_iload_n C dX3_marksBehind_41 rfl 2 rfl ?_
      refine pw_iald C dX3_marksBehind_42 (gw_pn hb 6 (by decide)) hb.2.2.2.2.2.2.2.1 g1 ?_
      refine pw_goto (tgt := 47) C dX3_marksBehind_43 (by decide) ?_
      try simp only [if_pos q2, gz_t, gz_f] at hJ
      exact hJ
  clear h
  refine pw_icmp_ne (tgt := 25) C dX3_marksBehind_13 (by decide) (fun q1 => ?_) (fun q1 => ?_)
  · refine pw_iconst (v := 0) C dX3_marksBehind_25 (by decide) ?_
    try simp only [if_neg q1, gz_t, gz_f] at hJ
    exact hJ
  · refine pw_aload_n C dX3_marksBehind_16 rfl 0 rfl ?_
    refine pw_getr C dX3_marksBehind_17 gf_RX3_30 (gw_p0 hb) hb.2.1 rfl ?_
    refine pw_iload_n C dX3_marksBehind_20 rfl 2 rfl ?_
    refine pw_iald C dX3_marksBehind_21 (gw_pn hb 7 (by decide)) hb.2.2.2.2.2.2.2.2.1 g1 ?_
    refine pw_goto (tgt := 26) C dX3_marksBehind_22 (by decide) ?_
    try simp only [if_pos q1, gz_t, gz_f] at hJ
    exact hJ
theorem k_X3_marksBehind {l : Launch} {G : gw_G} (b : Nat) (v1 : Int32) (v2 : Int32) (hb : gw_plan b) (σ : gw_S) (g0 : vp_in v2 14) : gw_M l G yX3_marksBehind cX3_marksBehind 3 (some .int) 0 [.ref (G.1 + b), .int v1, .int v2] σ (fi (fun r τ => σ.1 (b + 8) v2.toNatClampNeg - (if σ.1 (b + 5) v2.toNatClampNeg = v1 then σ.1 (b + 7) v2.toNatClampNeg else 0) + (if σ.1 (b + 4) v2.toNatClampNeg = v1 then σ.1 (b + 6) v2.toNatClampNeg else 0) = r ∧ σ = τ)) := by
  refine gw_met (by decide) (Nat.le_of_ble_eq_true rfl) (fun x C hR hT => ?_)
  refine sg_X3_marksBehind_0 C hR hT b v1 v2 hb σ ?_
  sorry
set_option maxRecDepth 4000 in
theorem sg_X3_hasModule_0 {x : gw_X} {G : gw_G} {Φ : Bool → gw_S → Prop} (C : XC x G RX3 cX3_hasModule 2 (some .boolean)) (hR : gw_ok x 0) (hT : RT x G (fz Φ)) (b : Nat) (v1 : Int32) (hb : gw_plan b) (σ : gw_S)
    (h : Φ (if v1 < 0 then false else (if (σ.1 b 0) ≤ v1 then false else true)) σ) : PW x G 2 0 [(0, .ref (G.1 + b)), (1, .int v1)] [] σ := by
  refine pw_iload_n C dX3_hasModule_0 rfl 1 rfl ?_
  have hJ : PW x G 2 17 [(0, .ref (G.1 + b)), (1, .int v1)] [.int (gz (if v1 < 0 then false else (if (σ.1 b 0) ≤ v1 then false else true)))] σ := by
    exact pw_zret (b := (if v1 < 0 then false else (if (σ.1 b 0) ≤ v1 then false else true))) C hT dX3_hasModule_17 h
  clear h
  refine pw_if_lt (tgt := 16) C dX3_hasModule_1 (by decide) (fun q1 => ?_) (fun q1 => ?_)
  · refine pw_iconst (v := 0) C dX3_hasModule_16 (by decide) ?_
    try simp only [if_pos q1, gz_t, gz_f] at hJ
    exact hJ
  · refine pw_iload_n C dX3_hasModule_4 rfl 1 rfl ?_
    refine pw_aload_n C dX3_hasModule_5 rfl 0 rfl ?_
    refine pw_geti C dX3_hasModule_6 gf_RX3_36 (gw_p0 hb) hb.2.1 rfl ?_
    refine pw_icmp_ge (tgt := 16) C dX3_hasModule_9 (by decide) (fun q2 => ?_) (fun q2 => ?_)
    · refine pw_iconst (v := 0) C dX3_hasModule_16 (by decide) ?_
      try simp only [if_pos q2, if_neg q1, gz_t, gz_f] at hJ
      exact hJ
    · refine pw_iconst (v := 1) C dX3_hasModule_12 (by decide) ?_
      refine pw_goto (tgt := 17) C dX3_hasModule_13 (by decide) ?_
      try simp only [if_neg q2, if_neg q1, gz_t, gz_f] at hJ
      exact hJ
set_option maxRecDepth 4000 in
theorem sg_X3_allMarks_0 {x : gw_X} {G : gw_G} {Φ : Int32 → gw_S → Prop} (C : XC x G RX3 cX3_allMarks 3 (some .int)) (hR : gw_ok x 0) (hT : RT x G (fi Φ)) (b : Nat) (hb : gw_plan b) (σ : gw_S)
    (h : PW x G 3 4 [(0, .ref (G.1 + b)), (1, .int 0), (2, .int 0)] [] σ) : PW x G 3 0 [(0, .ref (G.1 + b))] [] σ := by
  refine pw_iconst (v := 0) C dX3_allMarks_0 (by decide) ?_
  refine pw_istore_n C dX3_allMarks_1 rfl (by decide) rfl ?_
  refine pw_iconst (v := 0) C dX3_allMarks_2 (by decide) ?_
  refine pw_istore_n C dX3_allMarks_3 rfl (by decide) rfl ?_
  exact pw_sub [2, 1, 0] rfl h
set_option maxRecDepth 4000 in
theorem sg_X3_allMarks_4 {x : gw_X} {G : gw_G} {Φ : Int32 → gw_S → Prop} (C : XC x G RX3 cX3_allMarks 3 (some .int)) (hR : gw_ok x 0) (hT : RT x G (fi Φ)) (b : Nat) (hb : gw_plan b) (v1 : Int32) (v2 : Int32) (σ : gw_S)
    (h : ((σ.1 b 4) ≤ v2 → Φ v1 σ) ∧ (¬ ((σ.1 b 4) ≤ v2) → vp_in v2 14 ∧ (PW x G 3 4 [(0, .ref (G.1 + b)), (1, .int (v1 + (σ.1 (b + 8) v2.toNatClampNeg))), (2, .int (v2 + 1))] [] σ))) : PW x G 3 4 [(0, .ref (G.1 + b)), (1, .int v1), (2, .int v2)] [] σ := by
  refine pw_iload_n C dX3_allMarks_4 rfl 2 rfl ?_
  refine pw_aload_n C dX3_allMarks_5 rfl 0 rfl ?_
  refine pw_geti C dX3_allMarks_6 gf_RX3_40 (gw_p0 hb) hb.2.1 rfl ?_
  refine pw_icmp_ge (tgt := 27) C dX3_allMarks_9 (by decide) (fun q => ?_) (fun q => ?_)
  · replace h := h.1 q
    refine pw_iload_n C dX3_allMarks_27 rfl 1 rfl ?_
    exact pw_iret C hT dX3_allMarks_28 h
  · replace h := h.2 q
    refine pw_iload_n C dX3_allMarks_12 rfl 1 rfl ?_
    refine pw_aload_n C dX3_allMarks_13 rfl 0 rfl ?_
    refine pw_getr C dX3_allMarks_14 gf_RX3_33 (gw_p0 hb) hb.2.1 rfl ?_
    refine pw_iload_n C dX3_allMarks_17 rfl 2 rfl ?_
    obtain ⟨g1, h⟩ := h
    refine pw_iald C dX3_allMarks_18 (gw_pn hb 8 (by decide)) hb.2.2.2.2.2.2.2.2.2 g1 ?_
    refine pw_iadd C dX3_allMarks_19 ?_
    refine pw_istore_n C dX3_allMarks_20 rfl (by decide) rfl ?_
    refine pw_iinc (v := (v2 + 1)) (j := 2) C dX3_allMarks_21 rfl rfl (by decide) rfl ?_
    refine pw_goto (tgt := 4) C dX3_allMarks_24 (by decide) ?_
    exact pw_sub [2, 1, 0] rfl h
set_option maxRecDepth 4000 in
theorem sg_X3_canWork_0 {x : gw_X} {G : gw_G} {Φ : Bool → gw_S → Prop} (C : XC x G RX3 cX3_canWork 3 (some .boolean)) (hR : gw_ok x 1) (hT : RT x G (fz Φ)) (b : Nat) (v1 : Int32) (hb : gw_plan b) (σ : gw_S)
    (h : PW x G 3 2 [(0, .ref (G.1 + b)), (1, .int v1), (2, .int 0)] [] σ) : PW x G 3 0 [(0, .ref (G.1 + b)), (1, .int v1)] [] σ := by
  refine pw_iconst (v := 0) C dX3_canWork_0 (by decide) ?_
  refine pw_istore_n C dX3_canWork_1 rfl (by decide) rfl ?_
  exact pw_sub [1, 2, 0] rfl h
set_option maxRecDepth 4000 in
theorem sg_X3_canWork_2 {x : gw_X} {G : gw_G} {Φ : Bool → gw_S → Prop} (C : XC x G RX3 cX3_canWork 3 (some .boolean)) (hR : gw_ok x 1) (hT : RT x G (fz Φ)) (b : Nat) (hb : gw_plan b) (v1 : Int32) (v2 : Int32) (σ : gw_S)
    (h : ((σ.1 b 4) ≤ v2 → Φ true σ) ∧ (¬ ((σ.1 b 4) ≤ v2) → vp_in v2 14 ∧ ((¬ ((σ.1 (b + 5) v2.toNatClampNeg) = v1) → ((σ.1 (b + 8) v2.toNatClampNeg - (if σ.1 (b + 5) v2.toNatClampNeg = v1 then σ.1 (b + 7) v2.toNatClampNeg else 0) + (if σ.1 (b + 4) v2.toNatClampNeg = v1 then σ.1 (b + 6) v2.toNatClampNeg else 0)) ≤ 999 → PW x G 3 2 [(0, .ref (G.1 + b)), (1, .int v1), (2, .int (v2 + 1))] [] σ) ∧ (¬ ((σ.1 (b + 8) v2.toNatClampNeg - (if σ.1 (b + 5) v2.toNatClampNeg = v1 then σ.1 (b + 7) v2.toNatClampNeg else 0) + (if σ.1 (b + 4) v2.toNatClampNeg = v1 then σ.1 (b + 6) v2.toNatClampNeg else 0)) ≤ 999) → Φ false σ)) ∧ ((σ.1 (b + 5) v2.toNatClampNeg) = v1 → ((σ.1 (b + 8) v2.toNatClampNeg) < (σ.1 (b + 7) v2.toNatClampNeg) → Φ false σ) ∧ (¬ ((σ.1 (b + 8) v2.toNatClampNeg) < (σ.1 (b + 7) v2.toNatClampNeg)) → ((σ.1 (b + 8) v2.toNatClampNeg - (if σ.1 (b + 5) v2.toNatClampNeg = v1 then σ.1 (b + 7) v2.toNatClampNeg else 0) + (if σ.1 (b + 4) v2.toNatClampNeg = v1 then σ.1 (b + 6) v2.toNatClampNeg else 0)) ≤ 999 → PW x G 3 2 [(0, .ref (G.1 + b)), (1, .int v1), (2, .int (v2 + 1))] [] σ) ∧ (¬ ((σ.1 (b + 8) v2.toNatClampNeg - (if σ.1 (b + 5) v2.toNatClampNeg = v1 then σ.1 (b + 7) v2.toNatClampNeg else 0) + (if σ.1 (b + 4) v2.toNatClampNeg = v1 then σ.1 (b + 6) v2.toNatClampNeg else 0)) ≤ 999) → Φ false σ)))))) : PW x G 3 2 [(0, .ref (G.1 + b)), (1, .int v1), (2, .int v2)] [] σ := by
  refine pw_iload_n C dX3_canWork_2 rfl 2 rfl ?_
  refine pw_aload_n C dX3_canWork_3 rfl 0 rfl ?_
  refine pw_geti C dX3_canWork_4 gf_RX3_40 (gw_p0 hb) hb.2.1 rfl ?_
  refine pw_icmp_ge (tgt := 55) C dX3_canWork_7 (by decide) (fun q => ?_) (fun q => ?_)
  · replace h := h.1 q
    refine pw_iconst (v := 1) C dX3_canWork_55 (by decide) ?_
    exact pw_zret (b := true) C hT dX3_canWork_56 h
  · replace h := h.2 q
    refine pw_aload_n C dX3_canWork_10 rfl 0 rfl ?_
    refine pw_getr C dX3_canWork_11 gf_RX3_24 (gw_p0 hb) hb.2.1 rfl ?_
    refine pw_iload_n C dX3_canWork_14 rfl 2 rfl ?_
    obtain ⟨g1, h⟩ := h
    refine pw_iald C dX3_canWork_15 (gw_pn hb 5 (by decide)) hb.2.2.2.2.2.2.1 g1 ?_
    refine pw_iload_n C dX3_canWork_16 rfl 1 rfl ?_
    refine pw_icmp_ne (tgt := 35) C dX3_canWork_17 (by decide) (fun q => ?_) (fun q => ?_)
    · replace h := h.1 q
      refine pw_aload_n C dX3_canWork_35 rfl 0 rfl ?_
      refine pw_iload_n C dX3_canWork_36 rfl 1 rfl ?_
      refine pw_iload_n C dX3_canWork_37 rfl 2 rfl ?_
      refine pw_callV C dX3_canWork_38 (k_X3_marksBehind b v1 v2 hb σ g1) gm_X3_marksBehind gl_RX3_78 rfl hR (by decide) (by decide) (by decide) rfl (gw_p0 hb) hb.2.1 rfl (Nat.le_of_ble_eq_true rfl) ?_
      rintro _ _ ⟨_, rfl, rfl, rfl⟩
      show PW x G 3 41 [(0, .ref (G.1 + b)), (1, .int v1), (2, .int v2)] [.int (σ.1 (b + 8) v2.toNatClampNeg - (if σ.1 (b + 5) v2.toNatClampNeg = v1 then σ.1 (b + 7) v2.toNatClampNeg else 0) + (if σ.1 (b + 4) v2.toNatClampNeg = v1 then σ.1 (b + 6) v2.toNatClampNeg else 0))] σ
      refine pw_sipush (v := 999) C dX3_canWork_41 (by decide) ?_
      refine pw_icmp_le (tgt := 49) C dX3_canWork_44 (by decide) (fun q => ?_) (fun q => ?_)
      · replace h := h.1 q
        refine pw_iinc (v := (v2 + 1)) (j := 2) C dX3_canWork_49 rfl rfl (by decide) rfl ?_
        refine pw_goto (tgt := 2) C dX3_canWork_52 (by decide) ?_
        exact pw_sub [1, 2, 0] rfl h
      · replace h := h.2 q
        refine pw_iconst (v := 0) C dX3_canWork_47 (by decide) ?_
        exact pw_zret (b := false) C hT dX3_canWork_48 h
    · replace h := h.2 q
      refine pw_aload_n C dX3_canWork_20 rfl 0 rfl ?_
      refine pw_getr C dX3_canWork_21 gf_RX3_33 (gw_p0 hb) hb.2.1 rfl ?_
      refine pw_iload_n C dX3_canWork_24 rfl 2 rfl ?_
      refine pw_iald C dX3_canWork_25 (gw_pn hb 8 (by decide)) hb.2.2.2.2.2.2.2.2.2 g1 ?_
      refine pw_aload_n C dX3_canWork_26 rfl 0 rfl ?_
      refine pw_getr C dX3_canWork_27 gf_RX3_30 (gw_p0 hb) hb.2.1 rfl ?_
      refine pw_iload_n C dX3_canWork_30 rfl 2 rfl ?_
      refine pw_iald C dX3_canWork_31 (gw_pn hb 7 (by decide)) hb.2.2.2.2.2.2.2.2.1 g1 ?_
      refine pw_icmp_lt (tgt := 47) C dX3_canWork_32 (by decide) (fun q => ?_) (fun q => ?_)
      · replace h := h.1 q
        refine pw_iconst (v := 0) C dX3_canWork_47 (by decide) ?_
        exact pw_zret (b := false) C hT dX3_canWork_48 h
      · replace h := h.2 q
        refine pw_aload_n C dX3_canWork_35 rfl 0 rfl ?_
        refine pw_iload_n C dX3_canWork_36 rfl 1 rfl ?_
        refine pw_iload_n C dX3_canWork_37 rfl 2 rfl ?_
        refine pw_callV C dX3_canWork_38 (k_X3_marksBehind b v1 v2 hb σ g1) gm_X3_marksBehind gl_RX3_78 rfl hR (by decide) (by decide) (by decide) rfl (gw_p0 hb) hb.2.1 rfl (Nat.le_of_ble_eq_true rfl) ?_
        rintro _ _ ⟨_, rfl, rfl, rfl⟩
        show PW x G 3 41 [(0, .ref (G.1 + b)), (1, .int v1), (2, .int v2)] [.int (σ.1 (b + 8) v2.toNatClampNeg - (if σ.1 (b + 5) v2.toNatClampNeg = v1 then σ.1 (b + 7) v2.toNatClampNeg else 0) + (if σ.1 (b + 4) v2.toNatClampNeg = v1 then σ.1 (b + 6) v2.toNatClampNeg else 0))] σ
        refine pw_sipush (v := 999) C dX3_canWork_41 (by decide) ?_
        refine pw_icmp_le (tgt := 49) C dX3_canWork_44 (by decide) (fun q => ?_) (fun q => ?_)
        · replace h := h.1 q
          refine pw_iinc (v := (v2 + 1)) (j := 2) C dX3_canWork_49 rfl rfl (by decide) rfl ?_
          refine pw_goto (tgt := 2) C dX3_canWork_52 (by decide) ?_
          exact pw_sub [1, 2, 0] rfl h
        · replace h := h.2 q
          refine pw_iconst (v := 0) C dX3_canWork_47 (by decide) ?_
          exact pw_zret (b := false) C hT dX3_canWork_48 h
set_option maxRecDepth 4000 in
theorem sg_X3_doWork_0 {x : gw_X} {G : gw_G} {Φ : gw_S → Prop} (C : XC x G RX3 cX3_doWork 3 none) (hR : gw_ok x 1) (hT : RT x G (fv Φ)) (b : Nat) (v1 : Int32) (hb : gw_plan b) (σ : gw_S)
    (h : PW x G 3 2 [(0, .ref (G.1 + b)), (1, .int v1), (2, .int 0)] [] σ) : PW x G 3 0 [(0, .ref (G.1 + b)), (1, .int v1)] [] σ := by
  refine pw_iconst (v := 0) C dX3_doWork_0 (by decide) ?_
  refine pw_istore_n C dX3_doWork_1 rfl (by decide) rfl ?_
  exact pw_sub [1, 2, 0] rfl h
set_option maxRecDepth 4000 in
theorem sg_X3_doWork_2 {x : gw_X} {G : gw_G} {Φ : gw_S → Prop} (C : XC x G RX3 cX3_doWork 3 none) (hR : gw_ok x 1) (hT : RT x G (fv Φ)) (b : Nat) (hb : gw_plan b) (v1 : Int32) (v2 : Int32) (σ : gw_S)
    (h : ((σ.1 b 4) ≤ v2 → vp_in v1 8 ∧ (Φ (gw_u σ (b + 3) v1.toNatClampNeg ((σ.1 (b + 3) v1.toNatClampNeg) + 1)))) ∧ (¬ ((σ.1 b 4) ≤ v2) → vp_in v2 14 ∧ (PW x G 3 2 [(0, .ref (G.1 + b)), (1, .int v1), (2, .int (v2 + 1))] [] (gw_u σ (b + 8) v2.toNatClampNeg (σ.1 (b + 8) v2.toNatClampNeg - (if σ.1 (b + 5) v2.toNatClampNeg = v1 then σ.1 (b + 7) v2.toNatClampNeg else 0) + (if σ.1 (b + 4) v2.toNatClampNeg = v1 then σ.1 (b + 6) v2.toNatClampNeg else 0)))))) : PW x G 3 2 [(0, .ref (G.1 + b)), (1, .int v1), (2, .int v2)] [] σ := by
  refine pw_iload_n C dX3_doWork_2 rfl 2 rfl ?_
  refine pw_aload_n C dX3_doWork_3 rfl 0 rfl ?_
  refine pw_geti C dX3_doWork_4 gf_RX3_40 (gw_p0 hb) hb.2.1 rfl ?_
  refine pw_icmp_ge (tgt := 28) C dX3_doWork_7 (by decide) (fun q => ?_) (fun q => ?_)
  · replace h := h.1 q
    refine pw_aload_n C dX3_doWork_28 rfl 0 rfl ?_
    refine pw_getr C dX3_doWork_29 gf_RX3_18 (gw_p0 hb) hb.2.1 rfl ?_
    refine pw_iload_n C dX3_doWork_32 rfl 1 rfl ?_
    refine pw_dup2 C dX3_doWork_33 rfl rfl ?_
    obtain ⟨g1, h⟩ := h
    refine pw_iald C dX3_doWork_34 (gw_pn hb 3 (by decide)) hb.2.2.2.2.1 g1 ?_
    refine pw_iconst (v := 1) C dX3_doWork_35 (by decide) ?_
    refine pw_iadd C dX3_doWork_36 ?_
    refine pw_iast C dX3_doWork_37 (gw_pn hb 3 (by decide)) hb.2.2.2.2.1 g1 ?_
    exact pw_vret C hT dX3_doWork_38 h
  · replace h := h.2 q
    refine pw_aload_n C dX3_doWork_10 rfl 0 rfl ?_
    refine pw_getr C dX3_doWork_11 gf_RX3_33 (gw_p0 hb) hb.2.1 rfl ?_
    refine pw_iload_n C dX3_doWork_14 rfl 2 rfl ?_
    refine pw_aload_n C dX3_doWork_15 rfl 0 rfl ?_
    refine pw_iload_n C dX3_doWork_16 rfl 1 rfl ?_
    refine pw_iload_n C dX3_doWork_17 rfl 2 rfl ?_
    obtain ⟨g2, h⟩ := h
    refine pw_callV C dX3_doWork_18 (k_X3_marksBehind b v1 v2 hb σ g2) gm_X3_marksBehind gl_RX3_78 rfl hR (by decide) (by decide) (by decide) rfl (gw_p0 hb) hb.2.1 rfl (Nat.le_of_ble_eq_true rfl) ?_
    rintro _ _ ⟨_, rfl, rfl, rfl⟩
    show PW x G 3 21 [(0, .ref (G.1 + b)), (1, .int v1), (2, .int v2)] [.int (σ.1 (b + 8) v2.toNatClampNeg - (if σ.1 (b + 5) v2.toNatClampNeg = v1 then σ.1 (b + 7) v2.toNatClampNeg else 0) + (if σ.1 (b + 4) v2.toNatClampNeg = v1 then σ.1 (b + 6) v2.toNatClampNeg else 0)), .int v2, .ref (G.1 + (b + 8))] σ
    refine pw_iast C dX3_doWork_21 (gw_pn hb 8 (by decide)) hb.2.2.2.2.2.2.2.2.2 g2 ?_
    refine pw_iinc (v := (v2 + 1)) (j := 2) C dX3_doWork_22 rfl rfl (by decide) rfl ?_
    refine pw_goto (tgt := 2) C dX3_doWork_25 (by decide) ?_
    exact pw_sub [1, 2, 0] rfl h
set_option maxRecDepth 4000 in
theorem sg_X3_reached_0 {x : gw_X} {G : gw_G} {Φ : Int32 → gw_S → Prop} (C : XC x G RX3 cX3_reached 6 (some .int)) (hR : gw_ok x 0) (hT : RT x G (fi Φ)) (b : Nat) (v1 : Int32) (v2 : Int32) (hb : gw_plan b) (σ : gw_S)
    (h : PW x G 6 5 [(0, .ref (G.1 + b)), (1, .int v1), (2, .int v2), (3, .int v1), (4, .int 1)] [] σ) : PW x G 6 0 [(0, .ref (G.1 + b)), (1, .int v1), (2, .int v2)] [] σ := by
  refine pw_iload_n C dX3_reached_0 rfl 1 rfl ?_
  refine pw_istore_n C dX3_reached_1 rfl (by decide) rfl ?_
  refine pw_iconst (v := 1) C dX3_reached_2 (by decide) ?_
  refine pw_istore C dX3_reached_3 (by decide) rfl ?_
  exact pw_sub [2, 3, 4, 1, 0] rfl h
set_option maxRecDepth 4000 in
theorem sg_X3_reached_5 {x : gw_X} {G : gw_G} {Φ : Int32 → gw_S → Prop} (C : XC x G RX3 cX3_reached 6 (some .int)) (hR : gw_ok x 0) (hT : RT x G (fi Φ)) (b : Nat) (hb : gw_plan b) (v1 : Int32) (v2 : Int32) (v3 : Int32) (v4 : Int32) (σ : gw_S)
    (h : ((σ.1 b 0) ≤ v4 → Φ v3 σ) ∧ (¬ ((σ.1 b 0) ≤ v4) → PW x G 6 17 [(0, .ref (G.1 + b)), (1, .int v1), (2, .int v2), (3, .int v3), (4, .int v4), (5, .int 0)] [] σ)) : PW x G 6 5 [(0, .ref (G.1 + b)), (1, .int v1), (2, .int v2), (3, .int v3), (4, .int v4)] [] σ := by
  refine pw_iload C dX3_reached_5 4 rfl ?_
  refine pw_aload_n C dX3_reached_7 rfl 0 rfl ?_
  refine pw_geti C dX3_reached_8 gf_RX3_36 (gw_p0 hb) hb.2.1 rfl ?_
  refine pw_icmp_ge (tgt := 75) C dX3_reached_11 (by decide) (fun q => ?_) (fun q => ?_)
  · replace h := h.1 q
    refine pw_iload_n C dX3_reached_75 rfl 3 rfl ?_
    exact pw_iret C hT dX3_reached_76 h
  · replace h := h.2 q
    refine pw_iconst (v := 0) C dX3_reached_14 (by decide) ?_
    refine pw_istore C dX3_reached_15 (by decide) rfl ?_
    exact pw_sub [1, 2, 3, 4, 5, 0] rfl h
set_option maxRecDepth 4000 in
theorem sg_X3_reached_17 {x : gw_X} {G : gw_G} {Φ : Int32 → gw_S → Prop} (C : XC x G RX3 cX3_reached 6 (some .int)) (hR : gw_ok x 0) (hT : RT x G (fi Φ)) (b : Nat) (hb : gw_plan b) (v1 : Int32) (v2 : Int32) (v3 : Int32) (v4 : Int32) (v5 : Int32) (σ : gw_S)
    (h : ((σ.1 b 4) ≤ v5 → PW x G 6 5 [(0, .ref (G.1 + b)), (1, .int v1), (2, .int v2), (3, .int v3), (4, .int (v4 + 1))] [] σ) ∧ (¬ ((σ.1 b 4) ≤ v5) → vp_in v5 14 ∧ (PW x G 6 17 [(0, .ref (G.1 + b)), (1, .int v1), (2, .int v2), (3, .int (if v2 < (σ.1 (b + 8) v5.toNatClampNeg) then v3 else (if ((v3 >>> ((σ.1 (b + 4) v5.toNatClampNeg) &&& 31)) &&& 1) = 0 then v3 else v3 ||| (1 <<< ((σ.1 (b + 5) v5.toNatClampNeg) &&& 31))))), (4, .int v4), (5, .int (v5 + 1))] [] σ))) : PW x G 6 17 [(0, .ref (G.1 + b)), (1, .int v1), (2, .int v2), (3, .int v3), (4, .int v4), (5, .int v5)] [] σ := by
  refine pw_iload C dX3_reached_17 5 rfl ?_
  refine pw_aload_n C dX3_reached_19 rfl 0 rfl ?_
  refine pw_geti C dX3_reached_20 gf_RX3_40 (gw_p0 hb) hb.2.1 rfl ?_
  refine pw_icmp_ge (tgt := 69) C dX3_reached_23 (by decide) (fun q => ?_) (fun q => ?_)
  · replace h := h.1 q
    refine pw_iinc (v := (v4 + 1)) (j := 4) C dX3_reached_69 rfl rfl (by decide) rfl ?_
    refine pw_goto (tgt := 5) C dX3_reached_72 (by decide) ?_
    exact pw_sub [1, 2, 3, 4, 0] rfl h
  · replace h := h.2 q
    refine pw_aload_n C dX3_reached_26 rfl 0 rfl ?_
    refine pw_getr C dX3_reached_27 gf_RX3_33 (gw_p0 hb) hb.2.1 rfl ?_
    refine pw_iload C dX3_reached_30 5 rfl ?_
    obtain ⟨g1, h⟩ := h
    refine pw_iald C dX3_reached_32 (gw_pn hb 8 (by decide)) hb.2.2.2.2.2.2.2.2.2 g1 ?_
    refine pw_iload_n C dX3_reached_33 rfl 2 rfl ?_
    have hJ : PW x G 6 63 [(0, .ref (G.1 + b)), (1, .int v1), (2, .int v2), (3, .int (if v2 < (σ.1 (b + 8) v5.toNatClampNeg) then v3 else (if ((v3 >>> ((σ.1 (b + 4) v5.toNatClampNeg) &&& 31)) &&& 1) = 0 then v3 else v3 ||| (1 <<< ((σ.1 (b + 5) v5.toNatClampNeg) &&& 31))))), (4, .int v4), (5, .int v5)] [] σ := by
      refine pw_iinc (v := (v5 + 1)) (j := 5) C dX3_reached_63 rfl rfl (by decide) rfl ?_
      refine pw_goto (tgt := 17) C dX3_reached_66 (by decide) ?_
      exact pw_sub [1, 2, 3, 4, 5, 0] rfl h
    clear h
    refine pw_icmp_gt (tgt := 63) C dX3_reached_34 (by decide) (fun q2 => ?_) (fun q2 => ?_)
    try simp only [if_pos q2, gz_t, gz_f] at hJ
    exact hJ
    · refine pw_iload_n C dX3_reached_37 rfl 3 rfl ?_
      refine pw_aload_n C dX3_reached_38 rfl 0 rfl ?_
      refine pw_getr C dX3_reached_39 gf_RX3_21 (gw_p0 hb) hb.2.1 rfl ?_
      refine pw_iload C dX3_reached_42 5 rfl ?_
      refine pw_iald C dX3_reached_44 (gw_pn hb 4 (by decide)) hb.2.2.2.2.2.1 g1 ?_
      refine pw_ishr C dX3_reached_45 ?_
      refine pw_iconst (v := 1) C dX3_reached_46 (by decide) ?_
      refine pw_iand C dX3_reached_47 ?_
      refine pw_if_eq (tgt := 63) C dX3_reached_48 (by decide) (fun q3 => ?_) (fun q3 => ?_)
      try simp only [if_pos q3, if_neg q2, gz_t, gz_f] at hJ
      exact hJ
      · refine pw_iload_n C dX3_reached_51 rfl 3 rfl ?_
        refine pw_iconst (v := 1) C dX3_reached_52 (by decide) ?_
        refine pw_aload_n C dX3_reached_53 rfl 0 rfl ?_
        refine pw_getr C dX3_reached_54 gf_RX3_24 (gw_p0 hb) hb.2.1 rfl ?_
        refine pw_iload C dX3_reached_57 5 rfl ?_
        refine pw_iald C dX3_reached_59 (gw_pn hb 5 (by decide)) hb.2.2.2.2.2.2.1 g1 ?_
        refine pw_ishl C dX3_reached_60 ?_
        refine pw_ior C dX3_reached_61 ?_
        refine pw_istore_n C dX3_reached_62 rfl (by decide) rfl ?_
        try simp only [if_neg q3, if_neg q2, gz_t, gz_f] at hJ
        exact pw_sub [1, 2, 3, 0, 4, 5] rfl hJ
