set_option maxRecDepth 4000 in
theorem sg_X3_marksBehind_0 {x : gw_X} {G : gw_G} {Φ : Int32 → gw_S → Prop} (C : XC x G RX3 cX3_marksBehind 3 (some .int)) (hR : gw_ok x 0) (hT : RT x G (fi Φ)) (b : Nat) (v1 : Int32) (v2 : Int32) (hb : gw_plan b) (σ : gw_S)
    (h : vp_in v2 14 ∧ (Φ (((σ.1 (b + 8) v2.toNatClampNeg) - (if (σ.1 (b + 5) v2.toNatClampNeg) = v1 then σ.1 (b + 7) v2.toNatClampNeg else 0 : Int32)) + (if (σ.1 (b + 4) v2.toNatClampNeg) = v1 then σ.1 (b + 6) v2.toNatClampNeg else 0 : Int32)) σ)) : PW x G 3 0 [(0, .ref (G.1 + b)), (1, .int v1), (2, .int v2)] [] σ := by
  refine pw_aload_n C dX3_marksBehind_0 rfl 0 rfl ?_
  refine pw_getr C dX3_marksBehind_1 gf_RX3_33 (gw_p0 hb) hb.2.1 rfl ?_
  refine pw_iload_n C dX3_marksBehind_4 rfl 2 rfl ?_
  obtain ⟨g1, h⟩ := h
  refine pw_iald C dX3_marksBehind_5 (gw_pn hb 8 (by decide)) hb.2.2.2.2.2.2.2.2.2 g1 ?_
  refine pw_aload_n C dX3_marksBehind_6 rfl 0 rfl ?_
  refine pw_getr C dX3_marksBehind_7 gf_RX3_24 (gw_p0 hb) hb.2.1 rfl ?_
  refine pw_iload_n C dX3_marksBehind_10 rfl 2 rfl ?_
  refine pw_iald C dX3_marksBehind_11 (gw_pn hb 5 (by decide)) hb.2.2.2.2.2.2.1 g1 ?_
  refine pw_iload_n C dX3_marksBehind_12 rfl 1 rfl ?_
  have hJ : ∀ w0 : Int32, (if (σ.1 (b + 5) v2.toNatClampNeg) = v1 then σ.1 (b + 7) v2.toNatClampNeg else 0 : Int32) = w0 → PW x G 3 26 [(0, .ref (G.1 + b)), (1, .int v1), (2, .int v2)] [.int w0, .int (σ.1 (b + 8) v2.toNatClampNeg)] σ := by
    rintro _ rfl
    refine pw_isub C dX3_marksBehind_26 ?_
    refine pw_aload_n C dX3_marksBehind_27 rfl 0 rfl ?_
    refine pw_getr C dX3_marksBehind_28 gf_RX3_21 (gw_p0 hb) hb.2.1 rfl ?_
    refine pw_iload_n C dX3_marksBehind_31 rfl 2 rfl ?_
    refine pw_iald C dX3_marksBehind_32 (gw_pn hb 4 (by decide)) hb.2.2.2.2.2.1 g1 ?_
    refine pw_iload_n C dX3_marksBehind_33 rfl 1 rfl ?_
    have hJ : ∀ w0 : Int32, (if (σ.1 (b + 4) v2.toNatClampNeg) = v1 then σ.1 (b + 6) v2.toNatClampNeg else 0 : Int32) = w0 → PW x G 3 47 [(0, .ref (G.1 + b)), (1, .int v1), (2, .int v2)] [.int w0, .int ((σ.1 (b + 8) v2.toNatClampNeg) - (if (σ.1 (b + 5) v2.toNatClampNeg) = v1 then σ.1 (b + 7) v2.toNatClampNeg else 0 : Int32))] σ := by
      rintro _ rfl
      refine pw_iadd C dX3_marksBehind_47 ?_
      exact pw_iret C hT dX3_marksBehind_48 h
    clear h
    refine pw_icmp_ne (tgt := 46) C dX3_marksBehind_34 (by decide) (fun q2 => ?_) (fun q2 => ?_)
    · refine pw_iconst (v := 0) C dX3_marksBehind_46 (by decide) ?_
      exact hJ 0 (if_neg q2)
    · refine pw_aload_n C dX3_marksBehind_37 rfl 0 rfl ?_
      refine pw_getr C dX3_marksBehind_38 gf_RX3_27 (gw_p0 hb) hb.2.1 rfl ?_
      refine pw_iload_n C dX3_marksBehind_41 rfl 2 rfl ?_
      refine pw_iald C dX3_marksBehind_42 (gw_pn hb 6 (by decide)) hb.2.2.2.2.2.2.2.1 g1 ?_
      refine pw_goto (tgt := 47) C dX3_marksBehind_43 (by decide) ?_
      exact hJ (σ.1 (b + 6) v2.toNatClampNeg) (if_pos q2)
  clear h
  refine pw_icmp_ne (tgt := 25) C dX3_marksBehind_13 (by decide) (fun q1 => ?_) (fun q1 => ?_)
  · refine pw_iconst (v := 0) C dX3_marksBehind_25 (by decide) ?_
    exact hJ 0 (if_neg q1)
  · refine pw_aload_n C dX3_marksBehind_16 rfl 0 rfl ?_
    refine pw_getr C dX3_marksBehind_17 gf_RX3_30 (gw_p0 hb) hb.2.1 rfl ?_
    refine pw_iload_n C dX3_marksBehind_20 rfl 2 rfl ?_
    refine pw_iald C dX3_marksBehind_21 (gw_pn hb 7 (by decide)) hb.2.2.2.2.2.2.2.2.1 g1 ?_
    refine pw_goto (tgt := 26) C dX3_marksBehind_22 (by decide) ?_
    exact hJ (σ.1 (b + 7) v2.toNatClampNeg) (if_pos q1)
theorem k_X3_marksBehind {l : Launch} {G : gw_G} (b : Nat) (v1 : Int32) (v2 : Int32) (hb : gw_plan b) (σ : gw_S) (g0 : vp_in v2 14) : gw_M l G yX3_marksBehind cX3_marksBehind 3 (some .int) 0 [.ref (G.1 + b), .int v1, .int v2] σ (fi (fun r τ => ((σ.1 (b + 8) v2.toNatClampNeg) - (if (σ.1 (b + 5) v2.toNatClampNeg) = v1 then σ.1 (b + 7) v2.toNatClampNeg else 0 : Int32)) + (if (σ.1 (b + 4) v2.toNatClampNeg) = v1 then σ.1 (b + 6) v2.toNatClampNeg else 0 : Int32) = r ∧ σ = τ)) :=
  gw_met (by decide) (Nat.le_of_ble_eq_true rfl) (fun x C hR hT => sg_X3_marksBehind_0 C hR hT b v1 v2 hb σ ⟨g0, ⟨rfl, rfl⟩⟩)
set_option maxRecDepth 4000 in
theorem sg_X3_hasModule_0 {x : gw_X} {G : gw_G} {Φ : Bool → gw_S → Prop} (C : XC x G RX3 cX3_hasModule 2 (some .boolean)) (hR : gw_ok x 0) (hT : RT x G (fz Φ)) (b : Nat) (v1 : Int32) (hb : gw_plan b) (σ : gw_S)
    (h : Φ (if v1 < 0 then false else (if (σ.1 b 0) ≤ v1 then false else true : Bool) : Bool) σ) : PW x G 2 0 [(0, .ref (G.1 + b)), (1, .int v1)] [] σ := by
  refine pw_iload_n C dX3_hasModule_0 rfl 1 rfl ?_
  have hJ : ∀ w0 : Bool, (if v1 < 0 then false else (if (σ.1 b 0) ≤ v1 then false else true : Bool) : Bool) = w0 → PW x G 2 17 [(0, .ref (G.1 + b)), (1, .int v1)] [.int (gz w0)] σ := by
    rintro _ rfl
    exact pw_zret (b := (if v1 < 0 then false else (if (σ.1 b 0) ≤ v1 then false else true : Bool) : Bool)) C hT dX3_hasModule_17 h
  clear h
  refine pw_if_lt (tgt := 16) C dX3_hasModule_1 (by decide) (fun q1 => ?_) (fun q1 => ?_)
  · refine pw_iconst (v := 0) C dX3_hasModule_16 (by decide) ?_
    exact hJ false (if_pos q1)
  · refine pw_iload_n C dX3_hasModule_4 rfl 1 rfl ?_
    refine pw_aload_n C dX3_hasModule_5 rfl 0 rfl ?_
    refine pw_geti C dX3_hasModule_6 gf_RX3_36 (gw_p0 hb) hb.2.1 rfl ?_
    refine pw_icmp_ge (tgt := 16) C dX3_hasModule_9 (by decide) (fun q2 => ?_) (fun q2 => ?_)
    · refine pw_iconst (v := 0) C dX3_hasModule_16 (by decide) ?_
      exact hJ false ((if_neg q1).trans (if_pos q2))
    · refine pw_iconst (v := 1) C dX3_hasModule_12 (by decide) ?_
      refine pw_goto (tgt := 17) C dX3_hasModule_13 (by decide) ?_
      exact hJ true ((if_neg q1).trans (if_neg q2))
theorem k_X3_hasModule {l : Launch} {G : gw_G} (b : Nat) (v1 : Int32) (hb : gw_plan b) (σ : gw_S)  : gw_M l G yX3_hasModule cX3_hasModule 2 (some .boolean) 0 [.ref (G.1 + b), .int v1] σ (fz (fun r τ => (if v1 < 0 then false else (if (σ.1 b 0) ≤ v1 then false else true : Bool) : Bool) = r ∧ σ = τ)) :=
  gw_met (by decide) (Nat.le_of_ble_eq_true rfl) (fun x C hR hT => sg_X3_hasModule_0 C hR hT b v1 hb σ ⟨rfl, rfl⟩)
set_option maxRecDepth 4000 in
theorem sg_X3_hasWire_0 {x : gw_X} {G : gw_G} {Φ : Bool → gw_S → Prop} (C : XC x G RX3 cX3_hasWire 2 (some .boolean)) (hR : gw_ok x 0) (hT : RT x G (fz Φ)) (b : Nat) (v1 : Int32) (hb : gw_plan b) (σ : gw_S)
    (h : Φ (if v1 < 0 then false else (if (σ.1 b 4) ≤ v1 then false else true : Bool) : Bool) σ) : PW x G 2 0 [(0, .ref (G.1 + b)), (1, .int v1)] [] σ := by
  refine pw_iload_n C dX3_hasWire_0 rfl 1 rfl ?_
  have hJ : ∀ w0 : Bool, (if v1 < 0 then false else (if (σ.1 b 4) ≤ v1 then false else true : Bool) : Bool) = w0 → PW x G 2 17 [(0, .ref (G.1 + b)), (1, .int v1)] [.int (gz w0)] σ := by
    rintro _ rfl
    exact pw_zret (b := (if v1 < 0 then false else (if (σ.1 b 4) ≤ v1 then false else true : Bool) : Bool)) C hT dX3_hasWire_17 h
  clear h
  refine pw_if_lt (tgt := 16) C dX3_hasWire_1 (by decide) (fun q1 => ?_) (fun q1 => ?_)
  · refine pw_iconst (v := 0) C dX3_hasWire_16 (by decide) ?_
    exact hJ false (if_pos q1)
  · refine pw_iload_n C dX3_hasWire_4 rfl 1 rfl ?_
    refine pw_aload_n C dX3_hasWire_5 rfl 0 rfl ?_
    refine pw_geti C dX3_hasWire_6 gf_RX3_40 (gw_p0 hb) hb.2.1 rfl ?_
    refine pw_icmp_ge (tgt := 16) C dX3_hasWire_9 (by decide) (fun q2 => ?_) (fun q2 => ?_)
    · refine pw_iconst (v := 0) C dX3_hasWire_16 (by decide) ?_
      exact hJ false ((if_neg q1).trans (if_pos q2))
    · refine pw_iconst (v := 1) C dX3_hasWire_12 (by decide) ?_
      refine pw_goto (tgt := 17) C dX3_hasWire_13 (by decide) ?_
      exact hJ true ((if_neg q1).trans (if_neg q2))
theorem k_X3_hasWire {l : Launch} {G : gw_G} (b : Nat) (v1 : Int32) (hb : gw_plan b) (σ : gw_S)  : gw_M l G yX3_hasWire cX3_hasWire 2 (some .boolean) 0 [.ref (G.1 + b), .int v1] σ (fz (fun r τ => (if v1 < 0 then false else (if (σ.1 b 4) ≤ v1 then false else true : Bool) : Bool) = r ∧ σ = τ)) :=
  gw_met (by decide) (Nat.le_of_ble_eq_true rfl) (fun x C hR hT => sg_X3_hasWire_0 C hR hT b v1 hb σ ⟨rfl, rfl⟩)
set_option maxRecDepth 4000 in
theorem sg_X3_moduleFault_0 {x : gw_X} {G : gw_G} {Φ : Nat → gw_S → Prop} (C : XC x G RX3 cX3_moduleFault 2 (some (.object "RateWires$Fault"))) (hR : gw_ok x 1) (hT : RT x G (fe G Φ)) (b : Nat) (v1 : Int32) (hb : gw_plan b) (σ : gw_S)
    (h : Φ (if (if v1 < 0 then false else (if (σ.1 b 0) ≤ v1 then false else true : Bool) : Bool) = false then 1 else 0 : Nat) σ) : PW x G 2 0 [(0, .ref (G.1 + b)), (1, .int v1)] [] σ := by
  refine pw_aload_n C dX3_moduleFault_0 rfl 0 rfl ?_
  refine pw_iload_n C dX3_moduleFault_1 rfl 1 rfl ?_
  refine pw_callV C dX3_moduleFault_2 (k_X3_hasModule b v1 hb σ ) gm_X3_hasModule gl_RX3_49 rfl hR (by decide) (by decide) (by decide) rfl (gw_p0 hb) hb.2.1 rfl (Nat.le_of_ble_eq_true rfl) ?_
  rintro _ _ ⟨_, rfl, rfl, rfl⟩
  show PW x G 2 5 [(0, .ref (G.1 + b)), (1, .int v1)] [.int (gz (if v1 < 0 then false else (if (σ.1 b 0) ≤ v1 then false else true : Bool) : Bool))] σ
  have hJ : ∀ w0 : Nat, (if (if v1 < 0 then false else (if (σ.1 b 0) ≤ v1 then false else true : Bool) : Bool) = false then 1 else 0 : Nat) = w0 → PW x G 2 17 [(0, .ref (G.1 + b)), (1, .int v1)] [.ref (G.2.2.2 w0)] σ := by
    rintro _ rfl
    exact pw_eret C hT dX3_moduleFault_17 (by repeat' first | decide | split) h
  clear h
  refine pw_z_eq (tgt := 14) C dX3_moduleFault_5 (by decide) (fun q1 => ?_) (fun q1 => ?_)
  · refine pw_gets (i := 1) C dX3_moduleFault_14 (by decide) gl_RX3_59 ?_
    exact hJ 1 (if_pos q1)
  · refine pw_gets (i := 0) C dX3_moduleFault_8 (by decide) gl_RX3_53 ?_
    refine pw_goto (tgt := 17) C dX3_moduleFault_11 (by decide) ?_
    exact hJ 0 (if_neg q1)
theorem k_X3_moduleFault {l : Launch} {G : gw_G} (b : Nat) (v1 : Int32) (hb : gw_plan b) (σ : gw_S)  : gw_M l G yX3_moduleFault cX3_moduleFault 2 (some (.object "RateWires$Fault")) 1 [.ref (G.1 + b), .int v1] σ (fe G (fun r τ => (if (if v1 < 0 then false else (if (σ.1 b 0) ≤ v1 then false else true : Bool) : Bool) = false then 1 else 0 : Nat) = r ∧ σ = τ)) :=
  gw_met (by decide) (Nat.le_of_ble_eq_true rfl) (fun x C hR hT => sg_X3_moduleFault_0 C hR hT b v1 hb σ ⟨rfl, rfl⟩)
set_option maxRecDepth 4000 in
theorem sg_X3_wireFault_0 {x : gw_X} {G : gw_G} {Φ : Nat → gw_S → Prop} (C : XC x G RX3 cX3_wireFault 2 (some (.object "RateWires$Fault"))) (hR : gw_ok x 1) (hT : RT x G (fe G Φ)) (b : Nat) (v1 : Int32) (hb : gw_plan b) (σ : gw_S)
    (h : Φ (if (if v1 < 0 then false else (if (σ.1 b 4) ≤ v1 then false else true : Bool) : Bool) = false then 1 else 0 : Nat) σ) : PW x G 2 0 [(0, .ref (G.1 + b)), (1, .int v1)] [] σ := by
  refine pw_aload_n C dX3_wireFault_0 rfl 0 rfl ?_
  refine pw_iload_n C dX3_wireFault_1 rfl 1 rfl ?_
  refine pw_callV C dX3_wireFault_2 (k_X3_hasWire b v1 hb σ ) gm_X3_hasWire gl_RX3_62 rfl hR (by decide) (by decide) (by decide) rfl (gw_p0 hb) hb.2.1 rfl (Nat.le_of_ble_eq_true rfl) ?_
  rintro _ _ ⟨_, rfl, rfl, rfl⟩
  show PW x G 2 5 [(0, .ref (G.1 + b)), (1, .int v1)] [.int (gz (if v1 < 0 then false else (if (σ.1 b 4) ≤ v1 then false else true : Bool) : Bool))] σ
  have hJ : ∀ w0 : Nat, (if (if v1 < 0 then false else (if (σ.1 b 4) ≤ v1 then false else true : Bool) : Bool) = false then 1 else 0 : Nat) = w0 → PW x G 2 17 [(0, .ref (G.1 + b)), (1, .int v1)] [.ref (G.2.2.2 w0)] σ := by
    rintro _ rfl
    exact pw_eret C hT dX3_wireFault_17 (by repeat' first | decide | split) h
  clear h
  refine pw_z_eq (tgt := 14) C dX3_wireFault_5 (by decide) (fun q1 => ?_) (fun q1 => ?_)
  · refine pw_gets (i := 1) C dX3_wireFault_14 (by decide) gl_RX3_59 ?_
    exact hJ 1 (if_pos q1)
  · refine pw_gets (i := 0) C dX3_wireFault_8 (by decide) gl_RX3_53 ?_
    refine pw_goto (tgt := 17) C dX3_wireFault_11 (by decide) ?_
    exact hJ 0 (if_neg q1)
theorem k_X3_wireFault {l : Launch} {G : gw_G} (b : Nat) (v1 : Int32) (hb : gw_plan b) (σ : gw_S)  : gw_M l G yX3_wireFault cX3_wireFault 2 (some (.object "RateWires$Fault")) 1 [.ref (G.1 + b), .int v1] σ (fe G (fun r τ => (if (if v1 < 0 then false else (if (σ.1 b 4) ≤ v1 then false else true : Bool) : Bool) = false then 1 else 0 : Nat) = r ∧ σ = τ)) :=
  gw_met (by decide) (Nat.le_of_ble_eq_true rfl) (fun x C hR hT => sg_X3_wireFault_0 C hR hT b v1 hb σ ⟨rfl, rfl⟩)
set_option maxRecDepth 4000 in
theorem sg_X7_range_0 {x : gw_X} {G : gw_G} {Φ : Nat → gw_S → Prop} (C : XC x G RX7 cX7_range 3 (some (.object "RateWires$Fault"))) (hR : gw_ok x 0) (hT : RT x G (fe G Φ)) (v0 : Int32) (v1 : Int32) (v2 : Int32) (σ : gw_S)
    (h : Φ (if v0 < v1 then 2 else (if v0 ≤ v2 then 0 else 2 : Nat) : Nat) σ) : PW x G 3 0 [(0, .int v0), (1, .int v1), (2, .int v2)] [] σ := by
  refine pw_iload_n C dX7_range_0 rfl 0 rfl ?_
  refine pw_iload_n C dX7_range_1 rfl 1 rfl ?_
  have hJ : ∀ w0 : Nat, (if v0 < v1 then 2 else (if v0 ≤ v2 then 0 else 2 : Nat) : Nat) = w0 → PW x G 3 19 [(0, .int v0), (1, .int v1), (2, .int v2)] [.ref (G.2.2.2 w0)] σ := by
    rintro _ rfl
    exact pw_eret C hT dX7_range_19 (by repeat' first | decide | split) h
  clear h
  refine pw_icmp_lt (tgt := 10) C dX7_range_2 (by decide) (fun q1 => ?_) (fun q1 => ?_)
  · refine pw_gets (i := 2) C dX7_range_10 (by decide) gl_RX7_242 ?_
    refine pw_goto (tgt := 19) C dX7_range_13 (by decide) ?_
    exact hJ 2 (if_pos q1)
  · refine pw_iload_n C dX7_range_5 rfl 0 rfl ?_
    refine pw_iload_n C dX7_range_6 rfl 2 rfl ?_
    refine pw_icmp_le (tgt := 16) C dX7_range_7 (by decide) (fun q2 => ?_) (fun q2 => ?_)
    · refine pw_gets (i := 0) C dX7_range_16 (by decide) gl_RX7_80 ?_
      exact hJ 0 ((if_neg q1).trans (if_pos q2))
    · refine pw_gets (i := 2) C dX7_range_10 (by decide) gl_RX7_242 ?_
      refine pw_goto (tgt := 19) C dX7_range_13 (by decide) ?_
      exact hJ 2 ((if_neg q1).trans (if_neg q2))
theorem k_X7_range {l : Launch} {G : gw_G} (v0 : Int32) (v1 : Int32) (v2 : Int32) (σ : gw_S)  : gw_M l G yX7_range cX7_range 3 (some (.object "RateWires$Fault")) 0 [.int v0, .int v1, .int v2] σ (fe G (fun r τ => (if v0 < v1 then 2 else (if v0 ≤ v2 then 0 else 2 : Nat) : Nat) = r ∧ σ = τ)) :=
  gw_met (by decide) (Nat.le_of_ble_eq_true rfl) (fun x C hR hT => sg_X7_range_0 C hR hT v0 v1 v2 σ ⟨rfl, rfl⟩)
set_option maxRecDepth 4000 in
theorem sg_X7_ruleFault_0 {x : gw_X} {G : gw_G} {Φ : Nat → gw_S → Prop} (C : XC x G RX7 cX7_ruleFault 1 (some (.object "RateWires$Fault"))) (hR : gw_ok x 1) (hT : RT x G (fe G Φ)) (v0 : Int32) (σ : gw_S)
    (h : Φ (if v0 < 0 then 2 else (if v0 ≤ 2 then 0 else 2 : Nat) : Nat) σ) : PW x G 1 0 [(0, .int v0)] [] σ := by
  refine pw_iload_n C dX7_ruleFault_0 rfl 0 rfl ?_
  refine pw_iconst (v := 0) C dX7_ruleFault_1 (by decide) ?_
  refine pw_iconst (v := 2) C dX7_ruleFault_2 (by decide) ?_
  refine pw_callS C dX7_ruleFault_3 (k_X7_range v0 0 2 σ ) gm_X7_range gl_RX7_62 rfl hR (by decide) (by decide) rfl (Nat.le_of_ble_eq_true rfl) ?_
  rintro _ _ ⟨_, -, rfl, rfl, rfl⟩
  show PW x G 1 6 [(0, .int v0)] [.ref (G.2.2.2 (if v0 < 0 then 2 else (if v0 ≤ 2 then 0 else 2 : Nat) : Nat))] σ
  exact pw_eret C hT dX7_ruleFault_6 (by repeat' first | decide | split) h
theorem k_X7_ruleFault {l : Launch} {G : gw_G} (v0 : Int32) (σ : gw_S)  : gw_M l G yX7_ruleFault cX7_ruleFault 1 (some (.object "RateWires$Fault")) 1 [.int v0] σ (fe G (fun r τ => (if v0 < 0 then 2 else (if v0 ≤ 2 then 0 else 2 : Nat) : Nat) = r ∧ σ = τ)) :=
  gw_met (by decide) (Nat.le_of_ble_eq_true rfl) (fun x C hR hT => sg_X7_ruleFault_0 C hR hT v0 σ ⟨rfl, rfl⟩)
set_option maxRecDepth 4000 in
theorem sg_X7_slotFault_0 {x : gw_X} {G : gw_G} {Φ : Nat → gw_S → Prop} (C : XC x G RX7 cX7_slotFault 1 (some (.object "RateWires$Fault"))) (hR : gw_ok x 0) (hT : RT x G (fe G Φ)) (v0 : Int32) (σ : gw_S)
    (h : Φ (if v0 < 0 then 1 else (if v0 < 2 then 0 else 1 : Nat) : Nat) σ) : PW x G 1 0 [(0, .int v0)] [] σ := by
  refine pw_iload_n C dX7_slotFault_0 rfl 0 rfl ?_
  have hJ : ∀ w0 : Nat, (if v0 < 0 then 1 else (if v0 < 2 then 0 else 1 : Nat) : Nat) = w0 → PW x G 1 18 [(0, .int v0)] [.ref (G.2.2.2 w0)] σ := by
    rintro _ rfl
    exact pw_eret C hT dX7_slotFault_18 (by repeat' first | decide | split) h
  clear h
  refine pw_if_lt (tgt := 9) C dX7_slotFault_1 (by decide) (fun q1 => ?_) (fun q1 => ?_)
  · refine pw_gets (i := 1) C dX7_slotFault_9 (by decide) gl_RX7_292 ?_
    refine pw_goto (tgt := 18) C dX7_slotFault_12 (by decide) ?_
    exact hJ 1 (if_pos q1)
  · refine pw_iload_n C dX7_slotFault_4 rfl 0 rfl ?_
    refine pw_iconst (v := 2) C dX7_slotFault_5 (by decide) ?_
    refine pw_icmp_lt (tgt := 15) C dX7_slotFault_6 (by decide) (fun q2 => ?_) (fun q2 => ?_)
    · refine pw_gets (i := 0) C dX7_slotFault_15 (by decide) gl_RX7_80 ?_
      exact hJ 0 ((if_neg q1).trans (if_pos q2))
    · refine pw_gets (i := 1) C dX7_slotFault_9 (by decide) gl_RX7_292 ?_
      refine pw_goto (tgt := 18) C dX7_slotFault_12 (by decide) ?_
      exact hJ 1 ((if_neg q1).trans (if_neg q2))
theorem k_X7_slotFault {l : Launch} {G : gw_G} (v0 : Int32) (σ : gw_S)  : gw_M l G yX7_slotFault cX7_slotFault 1 (some (.object "RateWires$Fault")) 0 [.int v0] σ (fe G (fun r τ => (if v0 < 0 then 1 else (if v0 < 2 then 0 else 1 : Nat) : Nat) = r ∧ σ = τ)) :=
  gw_met (by decide) (Nat.le_of_ble_eq_true rfl) (fun x C hR hT => sg_X7_slotFault_0 C hR hT v0 σ ⟨rfl, rfl⟩)
set_option maxRecDepth 4000 in
theorem sg_X0_isComplete_0 {x : gw_X} {G : gw_G} {Φ : Bool → gw_S → Prop} (C : XC x G RX0 cX0_isComplete 1 (some .boolean)) (hR : gw_ok x 0) (hT : RT x G (fz Φ))  (σ : gw_S)
    (h : Φ (if (σ.1 151 6) = 0 then false else (if (σ.1 151 8) = (σ.1 151 7) then true else false : Bool) : Bool) σ) : PW x G 1 0 [(0, .ref (G.1 + 151))] [] σ := by
  refine pw_aload_n C dX0_isComplete_0 rfl 0 rfl ?_
  refine pw_geti C dX0_isComplete_1 gf_RX0_46 gk_151.1 gk_151.2 rfl ?_
  have hJ : ∀ w0 : Bool, (if (σ.1 151 6) = 0 then false else (if (σ.1 151 8) = (σ.1 151 7) then true else false : Bool) : Bool) = w0 → PW x G 1 23 [(0, .ref (G.1 + 151))] [.int (gz w0)] σ := by
    rintro _ rfl
    exact pw_zret (b := (if (σ.1 151 6) = 0 then false else (if (σ.1 151 8) = (σ.1 151 7) then true else false : Bool) : Bool)) C hT dX0_isComplete_23 h
  clear h
  refine pw_if_eq (tgt := 22) C dX0_isComplete_4 (by decide) (fun q1 => ?_) (fun q1 => ?_)
  · refine pw_iconst (v := 0) C dX0_isComplete_22 (by decide) ?_
    exact hJ false (if_pos q1)
  · refine pw_aload_n C dX0_isComplete_7 rfl 0 rfl ?_
    refine pw_geti C dX0_isComplete_8 gf_RX0_57 gk_151.1 gk_151.2 rfl ?_
    refine pw_aload_n C dX0_isComplete_11 rfl 0 rfl ?_
    refine pw_geti C dX0_isComplete_12 gf_RX0_54 gk_151.1 gk_151.2 rfl ?_
    refine pw_icmp_ne (tgt := 22) C dX0_isComplete_15 (by decide) (fun q2 => ?_) (fun q2 => ?_)
    · refine pw_iconst (v := 0) C dX0_isComplete_22 (by decide) ?_
      exact hJ false ((if_neg q1).trans (if_neg q2))
    · refine pw_iconst (v := 1) C dX0_isComplete_18 (by decide) ?_
      refine pw_goto (tgt := 23) C dX0_isComplete_19 (by decide) ?_
      exact hJ true ((if_neg q1).trans (if_pos q2))
theorem k_X0_isComplete {l : Launch} {G : gw_G}  (σ : gw_S)  : gw_M l G yX0_isComplete cX0_isComplete 1 (some .boolean) 0 [.ref (G.1 + 151)] σ (fz (fun r τ => (if (σ.1 151 6) = 0 then false else (if (σ.1 151 8) = (σ.1 151 7) then true else false : Bool) : Bool) = r ∧ σ = τ)) :=
  gw_met (by decide) (Nat.le_of_ble_eq_true rfl) (fun x C hR hT => sg_X0_isComplete_0 C hR hT  σ ⟨rfl, rfl⟩)
set_option maxRecDepth 4000 in
theorem sg_X2_isEmpty_0 {x : gw_X} {G : gw_G} {Φ : Bool → gw_S → Prop} (C : XC x G RX2 cX2_isEmpty 1 (some .boolean)) (hR : gw_ok x 0) (hT : RT x G (fz Φ))  (σ : gw_S)
    (h : Φ (if (σ.1 12 2) = 0 then true else false : Bool) σ) : PW x G 1 0 [(0, .ref (G.1 + 12))] [] σ := by
  refine pw_aload_n C dX2_isEmpty_0 rfl 0 rfl ?_
  refine pw_geti C dX2_isEmpty_1 gf_RX2_18 gk_12.1 gk_12.2 rfl ?_
  have hJ : ∀ w0 : Bool, (if (σ.1 12 2) = 0 then true else false : Bool) = w0 → PW x G 1 12 [(0, .ref (G.1 + 12))] [.int (gz w0)] σ := by
    rintro _ rfl
    exact pw_zret (b := (if (σ.1 12 2) = 0 then true else false : Bool)) C hT dX2_isEmpty_12 h
  clear h
  refine pw_if_ne (tgt := 11) C dX2_isEmpty_4 (by decide) (fun q1 => ?_) (fun q1 => ?_)
  · refine pw_iconst (v := 0) C dX2_isEmpty_11 (by decide) ?_
    exact hJ false (if_neg q1)
  · refine pw_iconst (v := 1) C dX2_isEmpty_7 (by decide) ?_
    refine pw_goto (tgt := 12) C dX2_isEmpty_8 (by decide) ?_
    exact hJ true (if_pos q1)
theorem k_X2_isEmpty {l : Launch} {G : gw_G}  (σ : gw_S)  : gw_M l G yX2_isEmpty cX2_isEmpty 1 (some .boolean) 0 [.ref (G.1 + 12)] σ (fz (fun r τ => (if (σ.1 12 2) = 0 then true else false : Bool) = r ∧ σ = τ)) :=
  gw_met (by decide) (Nat.le_of_ble_eq_true rfl) (fun x C hR hT => sg_X2_isEmpty_0 C hR hT  σ ⟨rfl, rfl⟩)
set_option maxRecDepth 4000 in
theorem sg_X2_forget_0 {x : gw_X} {G : gw_G} {Φ : gw_S → Prop} (C : XC x G RX2 cX2_forget 1 none) (hR : gw_ok x 0) (hT : RT x G (fv Φ))  (σ : gw_S)
    (h : Φ (gw_u σ 12 2 0)) : PW x G 1 0 [(0, .ref (G.1 + 12))] [] σ := by
  refine pw_aload_n C dX2_forget_0 rfl 0 rfl ?_
  refine pw_iconst (v := 0) C dX2_forget_1 (by decide) ?_
  refine pw_puti C dX2_forget_2 gf_RX2_18 rfl rfl rfl gk_12.1 gk_12.2 rfl ?_
  exact pw_vret C hT dX2_forget_5 h
theorem k_X2_forget {l : Launch} {G : gw_G}  (σ : gw_S)  : gw_M l G yX2_forget cX2_forget 1 none 0 [.ref (G.1 + 12)] σ (fv (fun τ => gw_u σ 12 2 0 = τ)) :=
  gw_met (by decide) (Nat.le_of_ble_eq_true rfl) (fun x C hR hT => sg_X2_forget_0 C hR hT  σ rfl)
set_option maxRecDepth 4000 in
theorem sg_X3_empty_0 {x : gw_X} {G : gw_G} {Φ : gw_S → Prop} (C : XC x G RX3 cX3_empty 1 none) (hR : gw_ok x 0) (hT : RT x G (fv Φ)) (b : Nat) (hb : gw_plan b) (σ : gw_S)
    (h : Φ (gw_u (gw_u σ b 0 0) b 4 0)) : PW x G 1 0 [(0, .ref (G.1 + b))] [] σ := by
  refine pw_aload_n C dX3_empty_0 rfl 0 rfl ?_
  refine pw_iconst (v := 0) C dX3_empty_1 (by decide) ?_
  refine pw_puti C dX3_empty_2 gf_RX3_36 rfl rfl rfl (gw_p0 hb) hb.2.1 rfl ?_
  refine pw_aload_n C dX3_empty_5 rfl 0 rfl ?_
  refine pw_iconst (v := 0) C dX3_empty_6 (by decide) ?_
  refine pw_puti C dX3_empty_7 gf_RX3_40 rfl rfl rfl (gw_p0 hb) hb.2.1 rfl ?_
  exact pw_vret C hT dX3_empty_10 h
theorem k_X3_empty {l : Launch} {G : gw_G} (b : Nat) (hb : gw_plan b) (σ : gw_S)  : gw_M l G yX3_empty cX3_empty 1 none 0 [.ref (G.1 + b)] σ (fv (fun τ => gw_u (gw_u σ b 0 0) b 4 0 = τ)) :=
  gw_met (by decide) (Nat.le_of_ble_eq_true rfl) (fun x C hR hT => sg_X3_empty_0 C hR hT b hb σ rfl)
set_option maxRecDepth 4000 in
theorem sg_X5_isFull_0 {x : gw_X} {G : gw_G} {Φ : Bool → gw_S → Prop} (C : XC x G RX5 cX5_isFull 1 (some .boolean)) (hR : gw_ok x 0) (hT : RT x G (fz Φ))  (σ : gw_S)
    (h : Φ (if (σ.1 1 1) < 120 then false else true : Bool) σ) : PW x G 1 0 [(0, .ref (G.1 + 1))] [] σ := by
  refine pw_aload_n C dX5_isFull_0 rfl 0 rfl ?_
  refine pw_geti C dX5_isFull_1 gf_RX5_15 gk_1.1 gk_1.2 rfl ?_
  refine pw_bipush (v := 120) C dX5_isFull_4 (by decide) ?_
  have hJ : ∀ w0 : Bool, (if (σ.1 1 1) < 120 then false else true : Bool) = w0 → PW x G 1 14 [(0, .ref (G.1 + 1))] [.int (gz w0)] σ := by
    rintro _ rfl
    exact pw_zret (b := (if (σ.1 1 1) < 120 then false else true : Bool)) C hT dX5_isFull_14 h
  clear h
  refine pw_icmp_lt (tgt := 13) C dX5_isFull_6 (by decide) (fun q1 => ?_) (fun q1 => ?_)
  · refine pw_iconst (v := 0) C dX5_isFull_13 (by decide) ?_
    exact hJ false (if_pos q1)
  · refine pw_iconst (v := 1) C dX5_isFull_9 (by decide) ?_
    refine pw_goto (tgt := 14) C dX5_isFull_10 (by decide) ?_
    exact hJ true (if_neg q1)
theorem k_X5_isFull {l : Launch} {G : gw_G}  (σ : gw_S)  : gw_M l G yX5_isFull cX5_isFull 1 (some .boolean) 0 [.ref (G.1 + 1)] σ (fz (fun r τ => (if (σ.1 1 1) < 120 then false else true : Bool) = r ∧ σ = τ)) :=
  gw_met (by decide) (Nat.le_of_ble_eq_true rfl) (fun x C hR hT => sg_X5_isFull_0 C hR hT  σ ⟨rfl, rfl⟩)
set_option maxRecDepth 4000 in
theorem sg_X5_size_0 {x : gw_X} {G : gw_G} {Φ : Int32 → gw_S → Prop} (C : XC x G RX5 cX5_size 1 (some .int)) (hR : gw_ok x 0) (hT : RT x G (fi Φ))  (σ : gw_S)
    (h : Φ (σ.1 1 1) σ) : PW x G 1 0 [(0, .ref (G.1 + 1))] [] σ := by
  refine pw_aload_n C dX5_size_0 rfl 0 rfl ?_
  refine pw_geti C dX5_size_1 gf_RX5_15 gk_1.1 gk_1.2 rfl ?_
  exact pw_iret C hT dX5_size_4 h
theorem k_X5_size {l : Launch} {G : gw_G}  (σ : gw_S)  : gw_M l G yX5_size cX5_size 1 (some .int) 0 [.ref (G.1 + 1)] σ (fi (fun r τ => σ.1 1 1 = r ∧ σ = τ)) :=
  gw_met (by decide) (Nat.le_of_ble_eq_true rfl) (fun x C hR hT => sg_X5_size_0 C hR hT  σ ⟨rfl, rfl⟩)
set_option maxRecDepth 4000 in
theorem sg_X5_empty_0 {x : gw_X} {G : gw_G} {Φ : Int32 → gw_S → Prop} (C : XC x G RX5 cX5_empty 2 (some .int)) (hR : gw_ok x 0) (hT : RT x G (fi Φ))  (σ : gw_S)
    (h : Φ (σ.1 1 1) (gw_u σ 1 1 0)) : PW x G 2 0 [(0, .ref (G.1 + 1))] [] σ := by
  refine pw_aload_n C dX5_empty_0 rfl 0 rfl ?_
  refine pw_geti C dX5_empty_1 gf_RX5_15 gk_1.1 gk_1.2 rfl ?_
  refine pw_istore_n C dX5_empty_4 rfl (by decide) rfl ?_
  refine pw_aload_n C dX5_empty_5 rfl 1 rfl ?_
  refine pw_iconst (v := 0) C dX5_empty_6 (by decide) ?_
  refine pw_puti C dX5_empty_7 gf_RX5_15 rfl rfl rfl gk_1.1 gk_1.2 rfl ?_
  refine pw_iload_n C dX5_empty_10 rfl 0 rfl ?_
  exact pw_iret C hT dX5_empty_11 h
theorem k_X5_empty {l : Launch} {G : gw_G}  (σ : gw_S)  : gw_M l G yX5_empty cX5_empty 2 (some .int) 0 [.ref (G.1 + 1)] σ (fi (fun r τ => σ.1 1 1 = r ∧ gw_u σ 1 1 0 = τ)) :=
  gw_met (by decide) (Nat.le_of_ble_eq_true rfl) (fun x C hR hT => sg_X5_empty_0 C hR hT  σ ⟨rfl, rfl⟩)
set_option maxRecDepth 4000 in
theorem sg_X8_thrown_0 {x : gw_X} {G : gw_G} {Φ : Int32 → gw_S → Prop} (C : XC x G RX8 cX8_thrown 1 (some .int)) (hR : gw_ok x 0) (hT : RT x G (fi Φ))  (σ : gw_S)
    (h : Φ (σ.1 189 0) σ) : PW x G 1 0 [(0, .ref (G.1 + 189))] [] σ := by
  refine pw_aload_n C dX8_thrown_0 rfl 0 rfl ?_
  refine pw_geti C dX8_thrown_1 gf_RX8_60 gk_189.1 gk_189.2 rfl ?_
  exact pw_iret C hT dX8_thrown_4 h
theorem k_X8_thrown {l : Launch} {G : gw_G}  (σ : gw_S)  : gw_M l G yX8_thrown cX8_thrown 1 (some .int) 0 [.ref (G.1 + 189)] σ (fi (fun r τ => σ.1 189 0 = r ∧ σ = τ)) :=
  gw_met (by decide) (Nat.le_of_ble_eq_true rfl) (fun x C hR hT => sg_X8_thrown_0 C hR hT  σ ⟨rfl, rfl⟩)
set_option maxRecDepth 4000 in
theorem sg_X8_refused_0 {x : gw_X} {G : gw_G} {Φ : Bool → gw_S → Prop} (C : XC x G RX8 cX8_refused 2 (some .boolean)) (hR : gw_ok x 0) (hT : RT x G (fz Φ)) (v1 : Int32) (σ : gw_S)
    (h : Φ (if v1 ≤ 0 then false else true : Bool) (gw_u σ 189 0 v1)) : PW x G 2 0 [(0, .ref (G.1 + 189)), (1, .int v1)] [] σ := by
  refine pw_aload_n C dX8_refused_0 rfl 0 rfl ?_
  refine pw_iload_n C dX8_refused_1 rfl 1 rfl ?_
  refine pw_puti C dX8_refused_2 gf_RX8_60 rfl rfl rfl gk_189.1 gk_189.2 rfl ?_
  refine pw_iload_n C dX8_refused_5 rfl 1 rfl ?_
  have hJ : ∀ w0 : Bool, (if v1 ≤ 0 then false else true : Bool) = w0 → PW x G 2 14 [(0, .ref (G.1 + 189)), (1, .int v1)] [.int (gz w0)] (gw_u σ 189 0 v1) := by
    rintro _ rfl
    exact pw_zret (b := (if v1 ≤ 0 then false else true : Bool)) C hT dX8_refused_14 h
  clear h
  refine pw_if_le (tgt := 13) C dX8_refused_6 (by decide) (fun q1 => ?_) (fun q1 => ?_)
  · refine pw_iconst (v := 0) C dX8_refused_13 (by decide) ?_
    exact hJ false (if_pos q1)
  · refine pw_iconst (v := 1) C dX8_refused_9 (by decide) ?_
    refine pw_goto (tgt := 14) C dX8_refused_10 (by decide) ?_
    exact hJ true (if_neg q1)
theorem k_X8_refused {l : Launch} {G : gw_G} (v1 : Int32) (σ : gw_S)  : gw_M l G yX8_refused cX8_refused 2 (some .boolean) 0 [.ref (G.1 + 189), .int v1] σ (fz (fun r τ => (if v1 ≤ 0 then false else true : Bool) = r ∧ gw_u σ 189 0 v1 = τ)) :=
  gw_met (by decide) (Nat.le_of_ble_eq_true rfl) (fun x C hR hT => sg_X8_refused_0 C hR hT v1 σ ⟨rfl, rfl⟩)
set_option maxRecDepth 4000 in
theorem sg_X8_in_0 {x : gw_X} {G : gw_G} {Φ : Bool → gw_S → Prop} (C : XC x G RX8 cX8_in 6 (some .boolean)) (hR : gw_ok x 0) (hT : RT x G (fz Φ)) (v0 : Int64) (v2 : Int64) (v4 : Int64) (σ : gw_S)
    (h : Φ (if (lg_cmp v0 v2) < 0 then false else (if 0 < (lg_cmp v0 v4) then false else true : Bool) : Bool) σ) : PW x G 6 0 [(0, .long v0), (2, .long v2), (4, .long v4)] [] σ := by
  refine pw_lload_n C dX8_in_0 rfl 0 rfl ?_
  refine pw_lload_n C dX8_in_1 rfl 1 rfl ?_
  refine pw_lcmp C dX8_in_2 ?_
  have hJ : ∀ w0 : Bool, (if (lg_cmp v0 v2) < 0 then false else (if 0 < (lg_cmp v0 v4) then false else true : Bool) : Bool) = w0 → PW x G 6 18 [(0, .long v0), (2, .long v2), (4, .long v4)] [.int (gz w0)] σ := by
    rintro _ rfl
    exact pw_zret (b := (if (lg_cmp v0 v2) < 0 then false else (if 0 < (lg_cmp v0 v4) then false else true : Bool) : Bool)) C hT dX8_in_18 h
  clear h
  refine pw_if_lt (tgt := 17) C dX8_in_3 (by decide) (fun q1 => ?_) (fun q1 => ?_)
  · refine pw_iconst (v := 0) C dX8_in_17 (by decide) ?_
    exact hJ false (if_pos q1)
  · refine pw_lload_n C dX8_in_6 rfl 0 rfl ?_
    refine pw_lload C dX8_in_7 2 rfl ?_
    refine pw_lcmp C dX8_in_9 ?_
    refine pw_if_gt (tgt := 17) C dX8_in_10 (by decide) (fun q2 => ?_) (fun q2 => ?_)
    · refine pw_iconst (v := 0) C dX8_in_17 (by decide) ?_
      exact hJ false ((if_neg q1).trans (if_pos q2))
    · refine pw_iconst (v := 1) C dX8_in_13 (by decide) ?_
      refine pw_goto (tgt := 18) C dX8_in_14 (by decide) ?_
      exact hJ true ((if_neg q1).trans (if_neg q2))
theorem k_X8_in {l : Launch} {G : gw_G} (v0 : Int64) (v2 : Int64) (v4 : Int64) (σ : gw_S)  : gw_M l G yX8_in cX8_in 6 (some .boolean) 0 [.long v0, .long v2, .long v4] σ (fz (fun r τ => (if (lg_cmp v0 v2) < 0 then false else (if 0 < (lg_cmp v0 v4) then false else true : Bool) : Bool) = r ∧ σ = τ)) :=
  gw_met (by decide) (Nat.le_of_ble_eq_true rfl) (fun x C hR hT => sg_X8_in_0 C hR hT v0 v2 v4 σ ⟨rfl, rfl⟩)
set_option maxRecDepth 4000 in
theorem sg_X8_moduleAt_0 {x : gw_X} {G : gw_G} {Φ : Int32 → gw_S → Prop} (C : XC x G RX8 cX8_moduleAt 2 (some .int)) (hR : gw_ok x 0) (hT : RT x G (fi Φ)) (v0 : Int32) (v1 : Int32) (σ : gw_S)
    (h : Φ ((2 + (3 * v0)) + v1) σ) : PW x G 2 0 [(0, .int v0), (1, .int v1)] [] σ := by
  refine pw_iconst (v := 2) C dX8_moduleAt_0 (by decide) ?_
  refine pw_iconst (v := 3) C dX8_moduleAt_1 (by decide) ?_
  refine pw_iload_n C dX8_moduleAt_2 rfl 0 rfl ?_
  refine pw_imul C dX8_moduleAt_3 ?_
  refine pw_iadd C dX8_moduleAt_4 ?_
  refine pw_iload_n C dX8_moduleAt_5 rfl 1 rfl ?_
  refine pw_iadd C dX8_moduleAt_6 ?_
  exact pw_iret C hT dX8_moduleAt_7 h
theorem k_X8_moduleAt {l : Launch} {G : gw_G} (v0 : Int32) (v1 : Int32) (σ : gw_S)  : gw_M l G yX8_moduleAt cX8_moduleAt 2 (some .int) 0 [.int v0, .int v1] σ (fi (fun r τ => (2 + (3 * v0)) + v1 = r ∧ σ = τ)) :=
  gw_met (by decide) (Nat.le_of_ble_eq_true rfl) (fun x C hR hT => sg_X8_moduleAt_0 C hR hT v0 v1 σ ⟨rfl, rfl⟩)
set_option maxRecDepth 4000 in
theorem sg_X8_wireAt_0 {x : gw_X} {G : gw_G} {Φ : Int32 → gw_S → Prop} (C : XC x G RX8 cX8_wireAt 2 (some .int)) (hR : gw_ok x 0) (hT : RT x G (fi Φ)) (v0 : Int32) (v1 : Int32) (σ : gw_S)
    (h : Φ ((26 + (5 * v0)) + v1) σ) : PW x G 2 0 [(0, .int v0), (1, .int v1)] [] σ := by
  refine pw_bipush (v := 26) C dX8_wireAt_0 (by decide) ?_
  refine pw_iconst (v := 5) C dX8_wireAt_2 (by decide) ?_
  refine pw_iload_n C dX8_wireAt_3 rfl 0 rfl ?_
  refine pw_imul C dX8_wireAt_4 ?_
  refine pw_iadd C dX8_wireAt_5 ?_
  refine pw_iload_n C dX8_wireAt_6 rfl 1 rfl ?_
  refine pw_iadd C dX8_wireAt_7 ?_
  exact pw_iret C hT dX8_wireAt_8 h
theorem k_X8_wireAt {l : Launch} {G : gw_G} (v0 : Int32) (v1 : Int32) (σ : gw_S)  : gw_M l G yX8_wireAt cX8_wireAt 2 (some .int) 0 [.int v0, .int v1] σ (fi (fun r τ => (26 + (5 * v0)) + v1 = r ∧ σ = τ)) :=
  gw_met (by decide) (Nat.le_of_ble_eq_true rfl) (fun x C hR hT => sg_X8_wireAt_0 C hR hT v0 v1 σ ⟨rfl, rfl⟩)
set_option maxRecDepth 4000 in
theorem sg_X8_isNext_0 {x : gw_X} {G : gw_G} {Φ : Bool → gw_S → Prop} (C : XC x G RX8 cX8_isNext 2 (some .boolean)) (hR : gw_ok x 0) (hT : RT x G (fz Φ)) (v1 : Int32) (σ : gw_S)
    (h : (((σ.1 189 2) ≤ (σ.1 189 3) → True) ∧ (¬ ((σ.1 189 2) ≤ (σ.1 189 3)) → vp_in (σ.1 189 3) 120 ∧ (True))) ∧ (Φ (if (σ.1 189 2) ≤ (σ.1 189 3) then false else (if (σ.1 190 ((σ.1 189 3).toNatClampNeg)) = v1 then true else false : Bool) : Bool) σ)) : PW x G 2 0 [(0, .ref (G.1 + 189)), (1, .int v1)] [] σ := by
  refine pw_aload_n C dX8_isNext_0 rfl 0 rfl ?_
  refine pw_geti C dX8_isNext_1 gf_RX8_157 gk_189.1 gk_189.2 rfl ?_
  refine pw_aload_n C dX8_isNext_4 rfl 0 rfl ?_
  refine pw_geti C dX8_isNext_5 gf_RX8_150 gk_189.1 gk_189.2 rfl ?_
  obtain ⟨hs, h⟩ := h
  have hJ : ∀ w0 : Bool, (if (σ.1 189 2) ≤ (σ.1 189 3) then false else (if (σ.1 190 ((σ.1 189 3).toNatClampNeg)) = v1 then true else false : Bool) : Bool) = w0 → PW x G 2 29 [(0, .ref (G.1 + 189)), (1, .int v1)] [.int (gz w0)] σ := by
    rintro _ rfl
    exact pw_zret (b := (if (σ.1 189 2) ≤ (σ.1 189 3) then false else (if (σ.1 190 ((σ.1 189 3).toNatClampNeg)) = v1 then true else false : Bool) : Bool)) C hT dX8_isNext_29 h
  clear h
  refine pw_icmp_ge (tgt := 28) C dX8_isNext_8 (by decide) (fun q1 => ?_) (fun q1 => ?_)
  · replace hs := hs.1 q1
    refine pw_iconst (v := 0) C dX8_isNext_28 (by decide) ?_
    exact hJ false (if_pos q1)
  · replace hs := hs.2 q1
    refine pw_aload_n C dX8_isNext_11 rfl 0 rfl ?_
    refine pw_getr C dX8_isNext_12 gf_RX8_7 gk_189.1 gk_189.2 rfl ?_
    refine pw_aload_n C dX8_isNext_15 rfl 0 rfl ?_
    refine pw_geti C dX8_isNext_16 gf_RX8_157 gk_189.1 gk_189.2 rfl ?_
    obtain ⟨g1, hs⟩ := hs
    refine pw_iald C dX8_isNext_19 gk_190.1 gk_190.2 g1 ?_
    refine pw_iload_n C dX8_isNext_20 rfl 1 rfl ?_
    refine pw_icmp_ne (tgt := 28) C dX8_isNext_21 (by decide) (fun q2 => ?_) (fun q2 => ?_)
    · refine pw_iconst (v := 0) C dX8_isNext_28 (by decide) ?_
      exact hJ false ((if_neg q1).trans (if_neg q2))
    · refine pw_iconst (v := 1) C dX8_isNext_24 (by decide) ?_
      refine pw_goto (tgt := 29) C dX8_isNext_25 (by decide) ?_
      exact hJ true ((if_neg q1).trans (if_pos q2))
theorem k_X8_isNext {l : Launch} {G : gw_G} (v1 : Int32) (σ : gw_S) (g0 : (((σ.1 189 2) ≤ (σ.1 189 3) → True) ∧ (¬ ((σ.1 189 2) ≤ (σ.1 189 3)) → vp_in (σ.1 189 3) 120 ∧ (True)))) : gw_M l G yX8_isNext cX8_isNext 2 (some .boolean) 0 [.ref (G.1 + 189), .int v1] σ (fz (fun r τ => (if (σ.1 189 2) ≤ (σ.1 189 3) then false else (if (σ.1 190 ((σ.1 189 3).toNatClampNeg)) = v1 then true else false : Bool) : Bool) = r ∧ σ = τ)) :=
  gw_met (by decide) (Nat.le_of_ble_eq_true rfl) (fun x C hR hT => sg_X8_isNext_0 C hR hT v1 σ ⟨g0, ⟨rfl, rfl⟩⟩)
set_option maxRecDepth 4000 in
theorem sg_X8_isModule_0 {x : gw_X} {G : gw_G} {Φ : Bool → gw_S → Prop} (C : XC x G RX8 cX8_isModule 2 (some .boolean)) (hR : gw_ok x 1) (hT : RT x G (fz Φ)) (v1 : Int32) (σ : gw_S)
    (h : Φ (if (lg_cmp v1.toInt64 0) < 0 then false else (if 0 < (lg_cmp v1.toInt64 (((σ.1 192 ((0 : Int32).toNatClampNeg)) - 1).toInt64)) then false else true : Bool) : Bool) σ) : PW x G 2 0 [(0, .ref (G.1 + 189)), (1, .int v1)] [] σ := by
  refine pw_iload_n C dX8_isModule_0 rfl 1 rfl ?_
  refine pw_i2l (v := v1.toInt64) C dX8_isModule_1 rfl ?_
  refine pw_lconst (v := 0) C dX8_isModule_2 (by decide) ?_
  refine pw_aload_n C dX8_isModule_3 rfl 0 rfl ?_
  refine pw_getr C dX8_isModule_4 gf_RX8_16 gk_189.1 gk_189.2 rfl ?_
  refine pw_iconst (v := 0) C dX8_isModule_7 (by decide) ?_
  refine pw_iald C dX8_isModule_8 gk_192.1 gk_192.2 (by show ¬ (_ ∨ _); decide) ?_
  refine pw_iconst (v := 1) C dX8_isModule_9 (by decide) ?_
  refine pw_isub C dX8_isModule_10 ?_
  refine pw_i2l (v := (((σ.1 192 ((0 : Int32).toNatClampNeg)) - 1).toInt64)) C dX8_isModule_11 rfl ?_
  refine pw_callS C dX8_isModule_12 (k_X8_in v1.toInt64 0 (((σ.1 192 ((0 : Int32).toNatClampNeg)) - 1).toInt64) σ ) gm_X8_in gl_RX8_146 rfl hR (by decide) (by decide) rfl (Nat.le_of_ble_eq_true rfl) ?_
  rintro _ _ ⟨_, rfl, rfl, rfl⟩
  show PW x G 2 15 [(0, .ref (G.1 + 189)), (1, .int v1)] [.int (gz (if (lg_cmp v1.toInt64 0) < 0 then false else (if 0 < (lg_cmp v1.toInt64 (((σ.1 192 ((0 : Int32).toNatClampNeg)) - 1).toInt64)) then false else true : Bool) : Bool))] σ
  exact pw_zret (b := (if (lg_cmp v1.toInt64 0) < 0 then false else (if 0 < (lg_cmp v1.toInt64 (((σ.1 192 ((0 : Int32).toNatClampNeg)) - 1).toInt64)) then false else true : Bool) : Bool)) C hT dX8_isModule_15 h
theorem k_X8_isModule {l : Launch} {G : gw_G} (v1 : Int32) (σ : gw_S)  : gw_M l G yX8_isModule cX8_isModule 2 (some .boolean) 1 [.ref (G.1 + 189), .int v1] σ (fz (fun r τ => (if (lg_cmp v1.toInt64 0) < 0 then false else (if 0 < (lg_cmp v1.toInt64 (((σ.1 192 ((0 : Int32).toNatClampNeg)) - 1).toInt64)) then false else true : Bool) : Bool) = r ∧ σ = τ)) :=
  gw_met (by decide) (Nat.le_of_ble_eq_true rfl) (fun x C hR hT => sg_X8_isModule_0 C hR hT v1 σ ⟨rfl, rfl⟩)
set_option maxRecDepth 4000 in
theorem sg_X8_isWire_0 {x : gw_X} {G : gw_G} {Φ : Bool → gw_S → Prop} (C : XC x G RX8 cX8_isWire 2 (some .boolean)) (hR : gw_ok x 1) (hT : RT x G (fz Φ)) (v1 : Int32) (σ : gw_S)
    (h : Φ (if (lg_cmp v1.toInt64 0) < 0 then false else (if 0 < (lg_cmp v1.toInt64 (((σ.1 192 ((1 : Int32).toNatClampNeg)) - 1).toInt64)) then false else true : Bool) : Bool) σ) : PW x G 2 0 [(0, .ref (G.1 + 189)), (1, .int v1)] [] σ := by
  refine pw_iload_n C dX8_isWire_0 rfl 1 rfl ?_
  refine pw_i2l (v := v1.toInt64) C dX8_isWire_1 rfl ?_
  refine pw_lconst (v := 0) C dX8_isWire_2 (by decide) ?_
  refine pw_aload_n C dX8_isWire_3 rfl 0 rfl ?_
  refine pw_getr C dX8_isWire_4 gf_RX8_16 gk_189.1 gk_189.2 rfl ?_
  refine pw_iconst (v := 1) C dX8_isWire_7 (by decide) ?_
  refine pw_iald C dX8_isWire_8 gk_192.1 gk_192.2 (by show ¬ (_ ∨ _); decide) ?_
  refine pw_iconst (v := 1) C dX8_isWire_9 (by decide) ?_
  refine pw_isub C dX8_isWire_10 ?_
  refine pw_i2l (v := (((σ.1 192 ((1 : Int32).toNatClampNeg)) - 1).toInt64)) C dX8_isWire_11 rfl ?_
  refine pw_callS C dX8_isWire_12 (k_X8_in v1.toInt64 0 (((σ.1 192 ((1 : Int32).toNatClampNeg)) - 1).toInt64) σ ) gm_X8_in gl_RX8_146 rfl hR (by decide) (by decide) rfl (Nat.le_of_ble_eq_true rfl) ?_
  rintro _ _ ⟨_, rfl, rfl, rfl⟩
  show PW x G 2 15 [(0, .ref (G.1 + 189)), (1, .int v1)] [.int (gz (if (lg_cmp v1.toInt64 0) < 0 then false else (if 0 < (lg_cmp v1.toInt64 (((σ.1 192 ((1 : Int32).toNatClampNeg)) - 1).toInt64)) then false else true : Bool) : Bool))] σ
  exact pw_zret (b := (if (lg_cmp v1.toInt64 0) < 0 then false else (if 0 < (lg_cmp v1.toInt64 (((σ.1 192 ((1 : Int32).toNatClampNeg)) - 1).toInt64)) then false else true : Bool) : Bool)) C hT dX8_isWire_15 h
theorem k_X8_isWire {l : Launch} {G : gw_G} (v1 : Int32) (σ : gw_S)  : gw_M l G yX8_isWire cX8_isWire 2 (some .boolean) 1 [.ref (G.1 + 189), .int v1] σ (fz (fun r τ => (if (lg_cmp v1.toInt64 0) < 0 then false else (if 0 < (lg_cmp v1.toInt64 (((σ.1 192 ((1 : Int32).toNatClampNeg)) - 1).toInt64)) then false else true : Bool) : Bool) = r ∧ σ = τ)) :=
  gw_met (by decide) (Nat.le_of_ble_eq_true rfl) (fun x C hR hT => sg_X8_isWire_0 C hR hT v1 σ ⟨rfl, rfl⟩)
set_option maxRecDepth 4000 in
theorem sg_X8_isKind_0 {x : gw_X} {G : gw_G} {Φ : Bool → gw_S → Prop} (C : XC x G RX8 cX8_isKind 1 (some .boolean)) (hR : gw_ok x 1) (hT : RT x G (fz Φ)) (v0 : Int32) (σ : gw_S)
    (h : Φ (if (lg_cmp v0.toInt64 0) < 0 then false else (if 0 < (lg_cmp v0.toInt64 3) then false else true : Bool) : Bool) σ) : PW x G 1 0 [(0, .int v0)] [] σ := by
  refine pw_iload_n C dX8_isKind_0 rfl 0 rfl ?_
  refine pw_i2l (v := v0.toInt64) C dX8_isKind_1 rfl ?_
  refine pw_lconst (v := 0) C dX8_isKind_2 (by decide) ?_
  refine pw_ldc2 C dX8_isKind_3 gl_RX8_247 ?_
  refine pw_callS C dX8_isKind_6 (k_X8_in v0.toInt64 0 3 σ ) gm_X8_in gl_RX8_146 rfl hR (by decide) (by decide) rfl (Nat.le_of_ble_eq_true rfl) ?_
  rintro _ _ ⟨_, rfl, rfl, rfl⟩
  show PW x G 1 9 [(0, .int v0)] [.int (gz (if (lg_cmp v0.toInt64 0) < 0 then false else (if 0 < (lg_cmp v0.toInt64 3) then false else true : Bool) : Bool))] σ
  exact pw_zret (b := (if (lg_cmp v0.toInt64 0) < 0 then false else (if 0 < (lg_cmp v0.toInt64 3) then false else true : Bool) : Bool)) C hT dX8_isKind_9 h
theorem k_X8_isKind {l : Launch} {G : gw_G} (v0 : Int32) (σ : gw_S)  : gw_M l G yX8_isKind cX8_isKind 1 (some .boolean) 1 [.int v0] σ (fz (fun r τ => (if (lg_cmp v0.toInt64 0) < 0 then false else (if 0 < (lg_cmp v0.toInt64 3) then false else true : Bool) : Bool) = r ∧ σ = τ)) :=
  gw_met (by decide) (Nat.le_of_ble_eq_true rfl) (fun x C hR hT => sg_X8_isKind_0 C hR hT v0 σ ⟨rfl, rfl⟩)
set_option maxRecDepth 4000 in
theorem sg_X8_isRate_0 {x : gw_X} {G : gw_G} {Φ : Bool → gw_S → Prop} (C : XC x G RX8 cX8_isRate 1 (some .boolean)) (hR : gw_ok x 1) (hT : RT x G (fz Φ)) (v0 : Int32) (σ : gw_S)
    (h : Φ (if (lg_cmp v0.toInt64 1) < 0 then false else (if 0 < (lg_cmp v0.toInt64 6) then false else true : Bool) : Bool) σ) : PW x G 1 0 [(0, .int v0)] [] σ := by
  refine pw_iload_n C dX8_isRate_0 rfl 0 rfl ?_
  refine pw_i2l (v := v0.toInt64) C dX8_isRate_1 rfl ?_
  refine pw_lconst (v := 1) C dX8_isRate_2 (by decide) ?_
  refine pw_ldc2 C dX8_isRate_3 gl_RX8_255 ?_
  refine pw_callS C dX8_isRate_6 (k_X8_in v0.toInt64 1 6 σ ) gm_X8_in gl_RX8_146 rfl hR (by decide) (by decide) rfl (Nat.le_of_ble_eq_true rfl) ?_
  rintro _ _ ⟨_, rfl, rfl, rfl⟩
  show PW x G 1 9 [(0, .int v0)] [.int (gz (if (lg_cmp v0.toInt64 1) < 0 then false else (if 0 < (lg_cmp v0.toInt64 6) then false else true : Bool) : Bool))] σ
  exact pw_zret (b := (if (lg_cmp v0.toInt64 1) < 0 then false else (if 0 < (lg_cmp v0.toInt64 6) then false else true : Bool) : Bool)) C hT dX8_isRate_9 h
theorem k_X8_isRate {l : Launch} {G : gw_G} (v0 : Int32) (σ : gw_S)  : gw_M l G yX8_isRate cX8_isRate 1 (some .boolean) 1 [.int v0] σ (fz (fun r τ => (if (lg_cmp v0.toInt64 1) < 0 then false else (if 0 < (lg_cmp v0.toInt64 6) then false else true : Bool) : Bool) = r ∧ σ = τ)) :=
  gw_met (by decide) (Nat.le_of_ble_eq_true rfl) (fun x C hR hT => sg_X8_isRate_0 C hR hT v0 σ ⟨rfl, rfl⟩)
set_option maxRecDepth 4000 in
theorem sg_X8_isMarks_0 {x : gw_X} {G : gw_G} {Φ : Bool → gw_S → Prop} (C : XC x G RX8 cX8_isMarks 1 (some .boolean)) (hR : gw_ok x 1) (hT : RT x G (fz Φ)) (v0 : Int32) (σ : gw_S)
    (h : Φ (if (lg_cmp v0.toInt64 0) < 0 then false else (if 0 < (lg_cmp v0.toInt64 99) then false else true : Bool) : Bool) σ) : PW x G 1 0 [(0, .int v0)] [] σ := by
  refine pw_iload_n C dX8_isMarks_0 rfl 0 rfl ?_
  refine pw_i2l (v := v0.toInt64) C dX8_isMarks_1 rfl ?_
  refine pw_lconst (v := 0) C dX8_isMarks_2 (by decide) ?_
  refine pw_ldc2 C dX8_isMarks_3 gl_RX8_257 ?_
  refine pw_callS C dX8_isMarks_6 (k_X8_in v0.toInt64 0 99 σ ) gm_X8_in gl_RX8_146 rfl hR (by decide) (by decide) rfl (Nat.le_of_ble_eq_true rfl) ?_
  rintro _ _ ⟨_, rfl, rfl, rfl⟩
  show PW x G 1 9 [(0, .int v0)] [.int (gz (if (lg_cmp v0.toInt64 0) < 0 then false else (if 0 < (lg_cmp v0.toInt64 99) then false else true : Bool) : Bool))] σ
  exact pw_zret (b := (if (lg_cmp v0.toInt64 0) < 0 then false else (if 0 < (lg_cmp v0.toInt64 99) then false else true : Bool) : Bool)) C hT dX8_isMarks_9 h
theorem k_X8_isMarks {l : Launch} {G : gw_G} (v0 : Int32) (σ : gw_S)  : gw_M l G yX8_isMarks cX8_isMarks 1 (some .boolean) 1 [.int v0] σ (fz (fun r τ => (if (lg_cmp v0.toInt64 0) < 0 then false else (if 0 < (lg_cmp v0.toInt64 99) then false else true : Bool) : Bool) = r ∧ σ = τ)) :=
  gw_met (by decide) (Nat.le_of_ble_eq_true rfl) (fun x C hR hT => sg_X8_isMarks_0 C hR hT v0 σ ⟨rfl, rfl⟩)
set_option maxRecDepth 4000 in
theorem sg_X8_isRule_0 {x : gw_X} {G : gw_G} {Φ : Bool → gw_S → Prop} (C : XC x G RX8 cX8_isRule 1 (some .boolean)) (hR : gw_ok x 1) (hT : RT x G (fz Φ)) (v0 : Int32) (σ : gw_S)
    (h : Φ (if (lg_cmp v0.toInt64 0) < 0 then false else (if 0 < (lg_cmp v0.toInt64 2) then false else true : Bool) : Bool) σ) : PW x G 1 0 [(0, .int v0)] [] σ := by
  refine pw_iload_n C dX8_isRule_0 rfl 0 rfl ?_
  refine pw_i2l (v := v0.toInt64) C dX8_isRule_1 rfl ?_
  refine pw_lconst (v := 0) C dX8_isRule_2 (by decide) ?_
  refine pw_ldc2 C dX8_isRule_3 gl_RX8_268 ?_
  refine pw_callS C dX8_isRule_6 (k_X8_in v0.toInt64 0 2 σ ) gm_X8_in gl_RX8_146 rfl hR (by decide) (by decide) rfl (Nat.le_of_ble_eq_true rfl) ?_
  rintro _ _ ⟨_, rfl, rfl, rfl⟩
  show PW x G 1 9 [(0, .int v0)] [.int (gz (if (lg_cmp v0.toInt64 0) < 0 then false else (if 0 < (lg_cmp v0.toInt64 2) then false else true : Bool) : Bool))] σ
  exact pw_zret (b := (if (lg_cmp v0.toInt64 0) < 0 then false else (if 0 < (lg_cmp v0.toInt64 2) then false else true : Bool) : Bool)) C hT dX8_isRule_9 h
theorem k_X8_isRule {l : Launch} {G : gw_G} (v0 : Int32) (σ : gw_S)  : gw_M l G yX8_isRule cX8_isRule 1 (some .boolean) 1 [.int v0] σ (fz (fun r τ => (if (lg_cmp v0.toInt64 0) < 0 then false else (if 0 < (lg_cmp v0.toInt64 2) then false else true : Bool) : Bool) = r ∧ σ = τ)) :=
  gw_met (by decide) (Nat.le_of_ble_eq_true rfl) (fun x C hR hT => sg_X8_isRule_0 C hR hT v0 σ ⟨rfl, rfl⟩)
