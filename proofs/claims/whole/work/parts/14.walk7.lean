set_option maxRecDepth 4000 in
theorem sg_X7_append_0 {x : gw_X} {G : gw_G} {Φ : Int32 → gw_S → Prop} {K : Nat → gw_S → Prop} (hX : TX x G RX7 cX7_append 2 K) (C : XC x G RX7 cX7_append 2 (some .int)) (hR : gw_ok x 7) (hT : RT x G (fi Φ)) (v1 : Int32) (σ : gw_S)
    (h : (¬ (if v1 < 0 then 2 else (if v1 ≤ 255 then 0 else 2 : Nat) : Nat) = 0 → K (if v1 < 0 then 2 else (if v1 ≤ 255 then 0 else 2 : Nat) : Nat) σ) ∧ ((if v1 < 0 then 2 else (if v1 ≤ 255 then 0 else 2 : Nat) : Nat) = 0 → (¬ (if (if (σ.1 1 1) < 120 then false else true : Bool) = false then 0 else 3 : Nat) = 0 → K (if (if (σ.1 1 1) < 120 then false else true : Bool) = false then 0 else 3 : Nat) σ) ∧ ((if (if (σ.1 1 1) < 120 then false else true : Bool) = false then 0 else 3 : Nat) = 0 → ∃ Φ1 : Int32 → gw_S → Prop, gw_M (xl x) G yX5_add cX5_add 2 (some .int) 0 [.ref (G.1 + 1), .int ((v1.toUInt32 % 65536).toInt32)] σ (fi Φ1) ∧ ∀ (r3 : Int32) (τ2 : gw_S), Φ1 r3 τ2 → (Φ r3 τ2)))) : PW x G 2 0 [(0, .ref (G.1 + 0)), (1, .int v1)] [] σ := by
  refine pw_iload_n C dX7_append_0 rfl 1 rfl ?_
  refine pw_iconst (v := 0) C dX7_append_1 (by decide) ?_
  refine pw_sipush (v := 255) C dX7_append_2 (by decide) ?_
  refine pw_callS C dX7_append_5 (k_X7_range v1 0 255 σ ) gm_X7_range gl_RX7_62 rfl hR (by decide) (by decide) rfl (Nat.le_of_ble_eq_true rfl) ?_
  rintro _ _ ⟨_, -, rfl, rfl, rfl⟩
  show PW x G 2 8 [(0, .ref (G.1 + 0)), (1, .int v1)] [.ref (G.2.2.2 (if v1 < 0 then 2 else (if v1 ≤ 255 then 0 else 2 : Nat) : Nat))] σ
  refine hX _ _ _ _ _ dX7_append_8 gl_RX7_66 (by repeat' first | decide | split) h.1 (fun q => ?_)
  replace h := h.2 q
  refine pw_aload_n C dX7_append_11 rfl 0 rfl ?_
  refine pw_getr C dX7_append_12 gf_RX7_10 gk_0.1 gk_0.2 rfl ?_
  refine pw_callV C dX7_append_15 (k_X5_isFull  σ ) gm_X5_isFull gl_RX7_70 rfl hR (by decide) (by decide) (by decide) rfl gk_1.1 gk_1.2 rfl (Nat.le_of_ble_eq_true rfl) ?_
  rintro _ _ ⟨_, rfl, rfl, rfl⟩
  show PW x G 2 18 [(0, .ref (G.1 + 0)), (1, .int v1)] [.int (gz (if (σ.1 1 1) < 120 then false else true : Bool))] σ
  have hJ : ∀ w0 : Nat, (if (if (σ.1 1 1) < 120 then false else true : Bool) = false then 0 else 3 : Nat) = w0 → PW x G 2 30 [(0, .ref (G.1 + 0)), (1, .int v1)] [.ref (G.2.2.2 w0)] σ := by
    rintro _ rfl
    refine hX _ _ _ _ _ dX7_append_30 gl_RX7_66 (by repeat' first | decide | split) h.1 (fun q => ?_)
    replace h := h.2 q
    refine pw_aload_n C dX7_append_33 rfl 0 rfl ?_
    refine pw_getr C dX7_append_34 gf_RX7_10 gk_0.1 gk_0.2 rfl ?_
    refine pw_iload_n C dX7_append_37 rfl 1 rfl ?_
    refine pw_i2c (v := ((v1.toUInt32 % 65536).toInt32)) C dX7_append_38 rfl ?_
    obtain ⟨Φ1, hM, h⟩ := h
    refine pw_callV C dX7_append_39 hM gm_X5_add gl_RX7_83 rfl hR (by decide) (by decide) (by decide) rfl gk_1.1 gk_1.2 rfl (Nat.le_of_ble_eq_true rfl) ?_
    rintro _ τ2 ⟨r3, rfl, hv⟩
    replace h := h r3 τ2 hv
    show PW x G 2 42 [(0, .ref (G.1 + 0)), (1, .int v1)] [.int r3] τ2
    exact pw_iret C hT dX7_append_42 h
  clear h
  refine pw_z_eq (tgt := 27) C dX7_append_18 (by decide) (fun q1 => ?_) (fun q1 => ?_)
  · refine pw_gets (i := 0) C dX7_append_27 (by decide) gl_RX7_80 ?_
    exact hJ 0 (if_pos q1)
  · refine pw_gets (i := 3) C dX7_append_21 (by decide) gl_RX7_74 ?_
    refine pw_goto (tgt := 30) C dX7_append_24 (by decide) ?_
    exact hJ 3 (if_neg q1)
set_option maxRecDepth 4000 in
theorem sg_X7_clearText_0 {x : gw_X} {G : gw_G} {Φ : Int32 → gw_S → Prop} (C : XC x G RX7 cX7_clearText 1 (some .int)) (hR : gw_ok x 1) (hT : RT x G (fi Φ))  (σ : gw_S)
    (h : ∀ τ1 : gw_S, τ1 = gw_u σ 1 1 0 → (Φ (σ.1 1 1) τ1)) : PW x G 1 0 [(0, .ref (G.1 + 0))] [] σ := by
  refine pw_aload_n C dX7_clearText_0 rfl 0 rfl ?_
  refine pw_getr C dX7_clearText_1 gf_RX7_10 gk_0.1 gk_0.2 rfl ?_
  refine pw_callV C dX7_clearText_4 (k_X5_empty  σ ) gm_X5_empty gl_RX7_87 rfl hR (by decide) (by decide) (by decide) rfl gk_1.1 gk_1.2 rfl (Nat.le_of_ble_eq_true rfl) ?_
  rintro _ _ ⟨_, rfl, rfl, rfl⟩
  generalize hτ1 : gw_u σ 1 1 0 = τ1
  replace h := h τ1 hτ1.symm
  show PW x G 1 7 [(0, .ref (G.1 + 0))] [.int (σ.1 1 1)] τ1
  show PW x G 1 7 [(0, .ref (G.1 + 0))] [.int (σ.1 1 1)] τ1
  exact pw_iret C hT dX7_clearText_7 h
set_option maxRecDepth 4000 in
theorem sg_X7_errorPosition_0 {x : gw_X} {G : gw_G} {Φ : Int32 → gw_S → Prop} (C : XC x G RX7 cX7_errorPosition 1 (some .int)) (hR : gw_ok x 3) (hT : RT x G (fi Φ))  (σ : gw_S)
    (h : ∃ Φ1 : Int32 → gw_S → Prop, gw_M (xl x) G yX5_firstError cX5_firstError 3 (some .int) 2 [.ref (G.1 + 1)] σ (fi Φ1) ∧ ∀ (r3 : Int32) (τ2 : gw_S), Φ1 r3 τ2 → (Φ r3 τ2)) : PW x G 1 0 [(0, .ref (G.1 + 0))] [] σ := by
  refine pw_aload_n C dX7_errorPosition_0 rfl 0 rfl ?_
  refine pw_getr C dX7_errorPosition_1 gf_RX7_10 gk_0.1 gk_0.2 rfl ?_
  obtain ⟨Φ1, hM, h⟩ := h
  refine pw_callV C dX7_errorPosition_4 hM gm_X5_firstError gl_RX7_91 rfl hR (by decide) (by decide) (by decide) rfl gk_1.1 gk_1.2 rfl (Nat.le_of_ble_eq_true rfl) ?_
  rintro _ τ2 ⟨r3, rfl, hv⟩
  replace h := h r3 τ2 hv
  show PW x G 1 7 [(0, .ref (G.1 + 0))] [.int r3] τ2
  exact pw_iret C hT dX7_errorPosition_7 h
set_option maxRecDepth 4000 in
theorem sg_X7_load_0 {x : gw_X} {G : gw_G} {Φ : Int32 → gw_S → Prop} {K : Nat → gw_S → Prop} (hX : TX x G RX7 cX7_load 3 K) (C : XC x G RX7 cX7_load 3 (some .int)) (hR : gw_ok x 7) (hT : RT x G (fi Φ))  (σ : gw_S)
    (h : ∃ Φ1 : Int32 → gw_S → Prop, gw_M (xl x) G yX5_firstError cX5_firstError 3 (some .int) 2 [.ref (G.1 + 1)] σ (fi Φ1) ∧ ∀ (r3 : Int32) (τ2 : gw_S), Φ1 r3 τ2 → ((¬ (if r3 = (-1) then 0 else 3 : Nat) = 0 → K (if r3 = (-1) then 0 else 3 : Nat) τ2) ∧ ((if r3 = (-1) then 0 else 3 : Nat) = 0 → ∀ τ4 : gw_S, τ4 = gw_u (gw_u τ2 3 0 0) 3 4 0 → (∀ τ5 : gw_S, τ5 = gw_u τ4 12 2 0 → (PW x G 3 39 [(0, .ref (G.1 + 0)), (1, .int 0)] [] τ5))))) : PW x G 3 0 [(0, .ref (G.1 + 0))] [] σ := by
  refine pw_aload_n C dX7_load_0 rfl 0 rfl ?_
  refine pw_getr C dX7_load_1 gf_RX7_10 gk_0.1 gk_0.2 rfl ?_
  obtain ⟨Φ1, hM, h⟩ := h
  refine pw_callV C dX7_load_4 hM gm_X5_firstError gl_RX7_91 rfl hR (by decide) (by decide) (by decide) rfl gk_1.1 gk_1.2 rfl (Nat.le_of_ble_eq_true rfl) ?_
  rintro _ τ2 ⟨r3, rfl, hv⟩
  replace h := h r3 τ2 hv
  show PW x G 3 7 [(0, .ref (G.1 + 0))] [.int r3] τ2
  refine pw_iconst (v := (-1)) C dX7_load_7 (by decide) ?_
  have hJ : ∀ w0 : Nat, (if r3 = (-1) then 0 else 3 : Nat) = w0 → PW x G 3 20 [(0, .ref (G.1 + 0))] [.ref (G.2.2.2 w0)] τ2 := by
    rintro _ rfl
    refine hX _ _ _ _ _ dX7_load_20 gl_RX7_66 (by repeat' first | decide | split) h.1 (fun q => ?_)
    replace h := h.2 q
    refine pw_aload_n C dX7_load_23 rfl 0 rfl ?_
    refine pw_getr C dX7_load_24 gf_RX7_19 gk_0.1 gk_0.2 rfl ?_
    refine pw_callV C dX7_load_27 (k_X3_empty 3 gp_3 τ2 ) gm_X3_empty gl_RX7_94 rfl hR (by decide) (by decide) (by decide) rfl gk_3.1 gk_3.2 rfl (Nat.le_of_ble_eq_true rfl) ?_
    rintro _ _ ⟨rfl, rfl⟩
    generalize hτ4 : gw_u (gw_u τ2 3 0 0) 3 4 0 = τ4
    replace h := h τ4 hτ4.symm
    show PW x G 3 30 [(0, .ref (G.1 + 0))] [] τ4
    show PW x G 3 30 [(0, .ref (G.1 + 0))] [] τ4
    refine pw_aload_n C dX7_load_30 rfl 0 rfl ?_
    refine pw_getr C dX7_load_31 gf_RX7_26 gk_0.1 gk_0.2 rfl ?_
    refine pw_callV C dX7_load_34 (k_X2_forget  τ4 ) gm_X2_forget gl_RX7_96 rfl hR (by decide) (by decide) (by decide) rfl gk_12.1 gk_12.2 rfl (Nat.le_of_ble_eq_true rfl) ?_
    rintro _ _ ⟨rfl, rfl⟩
    generalize hτ5 : gw_u τ4 12 2 0 = τ5
    replace h := h τ5 hτ5.symm
    show PW x G 3 37 [(0, .ref (G.1 + 0))] [] τ5
    show PW x G 3 37 [(0, .ref (G.1 + 0))] [] τ5
    refine pw_iconst (v := 0) C dX7_load_37 (by decide) ?_
    refine pw_istore_n C dX7_load_38 rfl (by decide) rfl ?_
    exact pw_sub [1, 0] rfl h
  clear h
  refine pw_icmp_ne (tgt := 17) C dX7_load_8 (by decide) (fun q1 => ?_) (fun q1 => ?_)
  · refine pw_gets (i := 3) C dX7_load_17 (by decide) gl_RX7_74 ?_
    exact hJ 3 (if_neg q1)
  · refine pw_gets (i := 0) C dX7_load_11 (by decide) gl_RX7_80 ?_
    refine pw_goto (tgt := 20) C dX7_load_14 (by decide) ?_
    exact hJ 0 (if_pos q1)
set_option maxRecDepth 4000 in
theorem sg_X7_load_39 {x : gw_X} {G : gw_G} {Φ : Int32 → gw_S → Prop} {K : Nat → gw_S → Prop} (hX : TX x G RX7 cX7_load 3 K) (C : XC x G RX7 cX7_load 3 (some .int)) (hR : gw_ok x 7) (hT : RT x G (fi Φ)) (v1 : Int32) (σ : gw_S)
    (h : (2 ≤ v1 → PW x G 3 61 [(0, .ref (G.1 + 0)), (1, .int 0), (2, .int 1)] [] σ) ∧ (¬ (2 ≤ v1) → vp_in v1 2 ∧ (∀ τ2 : gw_S, τ2 = gw_u σ 141 v1.toNatClampNeg 0 → (PW x G 3 39 [(0, .ref (G.1 + 0)), (1, .int (v1 + 1))] [] τ2)))) : PW x G 3 39 [(0, .ref (G.1 + 0)), (1, .int v1)] [] σ := by
  refine pw_iload_n C dX7_load_39 rfl 1 rfl ?_
  refine pw_iconst (v := 2) C dX7_load_40 (by decide) ?_
  refine pw_icmp_ge (tgt := 57) C dX7_load_41 (by decide) (fun q => ?_) (fun q => ?_)
  · replace h := h.1 q
    refine pw_iconst (v := 0) C dX7_load_57 (by decide) ?_
    refine pw_istore_n C dX7_load_58 rfl (by decide) rfl ?_
    refine pw_iconst (v := 1) C dX7_load_59 (by decide) ?_
    refine pw_istore_n C dX7_load_60 rfl (by decide) rfl ?_
    exact pw_sub [2, 1, 0] rfl h
  · replace h := h.2 q
    refine pw_aload_n C dX7_load_44 rfl 0 rfl ?_
    refine pw_getr C dX7_load_45 gf_RX7_34 gk_0.1 gk_0.2 rfl ?_
    refine pw_iload_n C dX7_load_48 rfl 1 rfl ?_
    refine pw_iconst (v := 0) C dX7_load_49 (by decide) ?_
    obtain ⟨g1, h⟩ := h
    refine pw_bast C dX7_load_50 gk_141.1 gk_141.2 g1 rfl ?_
    generalize hτ2 : gw_u σ 141 v1.toNatClampNeg 0 = τ2
    replace h := h τ2 hτ2.symm
    show PW x G 3 51 [(0, .ref (G.1 + 0)), (1, .int v1)] [] τ2
    refine pw_iinc (v := (v1 + 1)) (j := 1) C dX7_load_51 rfl rfl (by decide) rfl ?_
    refine pw_goto (tgt := 39) C dX7_load_54 (by decide) ?_
    exact pw_sub [1, 0] rfl h
set_option maxRecDepth 4000 in
theorem sg_X7_load_61 {x : gw_X} {G : gw_G} {Φ : Int32 → gw_S → Prop} {K : Nat → gw_S → Prop} (hX : TX x G RX7 cX7_load 3 K) (C : XC x G RX7 cX7_load 3 (some .int)) (hR : gw_ok x 7) (hT : RT x G (fi Φ)) (v1 : Int32) (v2 : Int32) (σ : gw_S)
    (h : ((σ.1 1 1) ≤ v2 → Φ v1 σ) ∧ (¬ ((σ.1 1 1) ≤ v2) → ∃ Φ1 : Bool → gw_S → Prop, gw_M (xl x) G yX7_obeysText cX7_obeysText 2 (some .boolean) 4 [.ref (G.1 + 0), .int v2] σ (fz Φ1) ∧ ∀ (r3 : Bool) (τ2 : gw_S), Φ1 r3 τ2 → (∃ Φ4 : Int32 → gw_S → Prop, gw_M (xl x) G yX5_at cX5_at 2 (some .char) 0 [.ref (G.1 + 1), .int v2] τ2 (fi Φ4) ∧ ∀ (r6 : Int32) (τ5 : gw_S), Φ4 r6 τ5 → (∃ Φ7 : Int32 → gw_S → Prop, gw_M (xl x) G yX5_digitsOf cX5_digitsOf 1 (some .int) 0 [.int r6] τ5 (fi Φ7) ∧ ∀ (r9 : Int32) (τ8 : gw_S), Φ7 r9 τ8 → (PW x G 3 61 [(0, .ref (G.1 + 0)), (1, .int (if r3 = false then v1 + 1 else v1 : Int32)), (2, .int (v2 + (1 + r9)))] [] τ8))))) : PW x G 3 61 [(0, .ref (G.1 + 0)), (1, .int v1), (2, .int v2)] [] σ := by
  refine pw_iload_n C dX7_load_61 rfl 2 rfl ?_
  refine pw_aload_n C dX7_load_62 rfl 0 rfl ?_
  refine pw_getr C dX7_load_63 gf_RX7_10 gk_0.1 gk_0.2 rfl ?_
  refine pw_callV C dX7_load_66 (k_X5_size  σ ) gm_X5_size gl_RX7_99 rfl hR (by decide) (by decide) (by decide) rfl gk_1.1 gk_1.2 rfl (Nat.le_of_ble_eq_true rfl) ?_
  rintro _ _ ⟨_, rfl, rfl, rfl⟩
  show PW x G 3 69 [(0, .ref (G.1 + 0)), (1, .int v1), (2, .int v2)] [.int (σ.1 1 1), .int v2] σ
  refine pw_icmp_ge (tgt := 102) C dX7_load_69 (by decide) (fun q => ?_) (fun q => ?_)
  · replace h := h.1 q
    refine pw_iload_n C dX7_load_102 rfl 1 rfl ?_
    exact pw_iret C hT dX7_load_103 h
  · replace h := h.2 q
    refine pw_aload_n C dX7_load_72 rfl 0 rfl ?_
    refine pw_iload_n C dX7_load_73 rfl 2 rfl ?_
    obtain ⟨Φ1, hM, h⟩ := h
    refine pw_callV C dX7_load_74 hM gm_X7_obeysText gl_RX7_102 rfl hR (by decide) (by decide) (by decide) rfl gk_0.1 gk_0.2 rfl (Nat.le_of_ble_eq_true rfl) ?_
    rintro _ τ2 ⟨r3, rfl, hv⟩
    replace h := h r3 τ2 hv
    show PW x G 3 77 [(0, .ref (G.1 + 0)), (1, .int v1), (2, .int v2)] [.int (gz r3)] τ2
    have hJ : ∀ w0 : Int32, (if r3 = false then v1 + 1 else v1 : Int32) = w0 → PW x G 3 83 [(1, .int w0), (0, .ref (G.1 + 0)), (2, .int v2)] [] τ2 := by
      rintro _ rfl
      refine pw_iload_n C dX7_load_83 rfl 2 rfl ?_
      refine pw_iconst (v := 1) C dX7_load_84 (by decide) ?_
      refine pw_aload_n C dX7_load_85 rfl 1 rfl ?_
      refine pw_getr C dX7_load_86 gf_RX7_10 gk_0.1 gk_0.2 rfl ?_
      refine pw_iload_n C dX7_load_89 rfl 2 rfl ?_
      obtain ⟨Φ4, hM, h⟩ := h
      refine pw_callV C dX7_load_90 hM gm_X5_at gl_RX7_106 rfl hR (by decide) (by decide) (by decide) rfl gk_1.1 gk_1.2 rfl (Nat.le_of_ble_eq_true rfl) ?_
      rintro _ τ5 ⟨r6, rfl, hv⟩
      replace h := h r6 τ5 hv
      show PW x G 3 93 [(1, .int (if r3 = false then v1 + 1 else v1 : Int32)), (0, .ref (G.1 + 0)), (2, .int v2)] [.int r6, .int 1, .int v2] τ5
      obtain ⟨Φ7, hM, h⟩ := h
      refine pw_callS C dX7_load_93 hM gm_X5_digitsOf gl_RX7_110 rfl hR (by decide) (by decide) rfl (Nat.le_of_ble_eq_true rfl) ?_
      rintro _ τ8 ⟨r9, rfl, hv⟩
      replace h := h r9 τ8 hv
      show PW x G 3 96 [(1, .int (if r3 = false then v1 + 1 else v1 : Int32)), (0, .ref (G.1 + 0)), (2, .int v2)] [.int r9, .int 1, .int v2] τ8
      refine pw_iadd C dX7_load_96 ?_
      refine pw_iadd C dX7_load_97 ?_
      refine pw_istore_n C dX7_load_98 rfl (by decide) rfl ?_
      refine pw_goto (tgt := 61) C dX7_load_99 (by decide) ?_
      exact pw_sub [2, 1, 0] rfl h
    clear h
    refine pw_z_ne (tgt := 83) C dX7_load_77 (by decide) (fun q2 => ?_) (fun q2 => ?_)
    exact pw_sub [1, 0, 2] rfl (hJ v1 (if_neg q2))
    · refine pw_iinc (v := (v1 + 1)) (j := 1) C dX7_load_80 rfl rfl (by decide) rfl ?_
      exact hJ (v1 + 1) (if_pos q2)
set_option maxRecDepth 4000 in
theorem sg_X7_about_0 {x : gw_X} {G : gw_G} {Φ : Int32 → gw_S → Prop} {K : Nat → gw_S → Prop} (hX : TX x G RX7 cX7_about 2 K) (C : XC x G RX7 cX7_about 2 (some .int)) (hR : gw_ok x 7) (hT : RT x G (fi Φ)) (v1 : Int32) (σ : gw_S)
    (h : (¬ (if v1 < 0 then 2 else (if v1 ≤ 8 then 0 else 2 : Nat) : Nat) = 0 → K (if v1 < 0 then 2 else (if v1 ≤ 8 then 0 else 2 : Nat) : Nat) σ) ∧ ((if v1 < 0 then 2 else (if v1 ≤ 8 then 0 else 2 : Nat) : Nat) = 0 → (v1.toInt < 0 ∨ 7 < v1.toInt → ∃ Φ1 : Int32 → gw_S → Prop, gw_M (xl x) G yX3_onLoops cX3_onLoops 5 (some .int) 1 [.ref (G.1 + 3)] σ (fi Φ1) ∧ ∀ (r3 : Int32) (τ2 : gw_S), Φ1 r3 τ2 → (Φ r3 τ2)) ∧ (v1.toInt = 0 → Φ (σ.1 3 0) σ) ∧ (v1.toInt = 1 → Φ (σ.1 3 4) σ) ∧ (v1.toInt = 2 → ∃ Φ4 : Int32 → gw_S → Prop, gw_M (xl x) G yX3_allMarks cX3_allMarks 3 (some .int) 0 [.ref (G.1 + 3)] σ (fi Φ4) ∧ ∀ (r6 : Int32) (τ5 : gw_S), Φ4 r6 τ5 → (Φ r6 τ5)) ∧ (v1.toInt = 3 → ∃ Φ7 : Int32 → gw_S → Prop, gw_M (xl x) G yX3_allWorks cX3_allWorks 3 (some .int) 0 [.ref (G.1 + 3)] σ (fi Φ7) ∧ ∀ (r9 : Int32) (τ8 : gw_S), Φ7 r9 τ8 → (Φ r9 τ8)) ∧ (v1.toInt = 4 → ∃ Φ10 : Bool → gw_S → Prop, gw_M (xl x) G yX4_agreeIn cX4_agreeIn 3 (some .boolean) 2 [.ref (G.1 + 167), .ref (G.1 + 3)] σ (fz Φ10) ∧ ∀ (r12 : Bool) (τ11 : gw_S), Φ10 r12 τ11 → (Φ (gz (if r12 = false then false else true : Bool)) τ11)) ∧ (v1.toInt = 5 → ∃ Φ13 : Int32 → gw_S → Prop, gw_M (xl x) G yX3_parts cX3_parts 4 (some .int) 1 [.ref (G.1 + 3)] σ (fi Φ13) ∧ ∀ (r15 : Int32) (τ14 : gw_S), Φ13 r15 τ14 → (Φ r15 τ14)) ∧ (v1.toInt = 6 → ∃ Φ16 : Bool → gw_S → Prop, gw_M (xl x) G yX4_agreeIn cX4_agreeIn 3 (some .boolean) 2 [.ref (G.1 + 167), .ref (G.1 + 3)] σ (fz Φ16) ∧ ∀ (r18 : Bool) (τ17 : gw_S), Φ16 r18 τ17 → ((r18 = false → Φ (-1) τ17) ∧ (¬ (r18 = false) → ∃ Φ19 : Int32 → gw_S → Prop, gw_M (xl x) G yX4_total cX4_total 3 (some .int) 0 [.ref (G.1 + 167)] τ17 (fi Φ19) ∧ ∀ (r21 : Int32) (τ20 : gw_S), Φ19 r21 τ20 → (Φ r21 τ20)))) ∧ (v1.toInt = 7 → ∃ Φ22 : Int32 → gw_S → Prop, gw_M (xl x) G yX3_ready cX3_ready 3 (some .int) 2 [.ref (G.1 + 3)] σ (fi Φ22) ∧ ∀ (r24 : Int32) (τ23 : gw_S), Φ22 r24 τ23 → (Φ r24 τ23)))) : PW x G 2 0 [(0, .ref (G.1 + 0)), (1, .int v1)] [] σ := by
  refine pw_iload_n C dX7_about_0 rfl 1 rfl ?_
  refine pw_iconst (v := 0) C dX7_about_1 (by decide) ?_
  refine pw_bipush (v := 8) C dX7_about_2 (by decide) ?_
  refine pw_callS C dX7_about_4 (k_X7_range v1 0 8 σ ) gm_X7_range gl_RX7_62 rfl hR (by decide) (by decide) rfl (Nat.le_of_ble_eq_true rfl) ?_
  rintro _ _ ⟨_, -, rfl, rfl, rfl⟩
  show PW x G 2 7 [(0, .ref (G.1 + 0)), (1, .int v1)] [.ref (G.2.2.2 (if v1 < 0 then 2 else (if v1 ≤ 8 then 0 else 2 : Nat) : Nat))] σ
  refine hX _ _ _ _ _ dX7_about_7 gl_RX7_66 (by repeat' first | decide | split) h.1 (fun q => ?_)
  replace h := h.2 q
  refine pw_iload_n C dX7_about_10 rfl 1 rfl ?_
  rcases Classical.em (v1.toInt < 0 ∨ 7 < v1.toInt) with q | q
  · replace h := h.1 q
    refine pw_tout (tgt := 150) C dX7_about_11 q (by decide) ?_
    refine pw_aload_n C dX7_about_150 rfl 0 rfl ?_
    refine pw_getr C dX7_about_151 gf_RX7_19 gk_0.1 gk_0.2 rfl ?_
    obtain ⟨Φ1, hM, h⟩ := h
    refine pw_callV C dX7_about_154 hM gm_X3_onLoops gl_RX7_139 rfl hR (by decide) (by decide) (by decide) rfl gk_3.1 gk_3.2 rfl (Nat.le_of_ble_eq_true rfl) ?_
    rintro _ τ2 ⟨r3, rfl, hv⟩
    replace h := h r3 τ2 hv
    show PW x G 2 157 [(0, .ref (G.1 + 0)), (1, .int v1)] [.int r3] τ2
    exact pw_iret C hT dX7_about_157 h
  · replace h := h.2
    have q2 : v1.toInt = 0 ∨ v1.toInt = 1 ∨ v1.toInt = 2 ∨ v1.toInt = 3 ∨ v1.toInt = 4 ∨ v1.toInt = 5 ∨ v1.toInt = 6 ∨ v1.toInt = 7 := by omega
    rcases q2 with q2 | q2 | q2 | q2 | q2 | q2 | q2 | q2
    · replace h := h.1 q2
      refine pw_tin (tgt := 56) (off := 45) C 0 dX7_about_11 q2 (by decide) (by decide) rfl (by decide) ?_
      refine pw_aload_n C dX7_about_56 rfl 0 rfl ?_
      refine pw_getr C dX7_about_57 gf_RX7_19 gk_0.1 gk_0.2 rfl ?_
      refine pw_getiN C dX7_about_60 gf_RX7_113 gk_3.1 gk_3.2 rfl ?_
      exact pw_iret C hT dX7_about_63 h
    · replace h := h.2.1 q2
      refine pw_tin (tgt := 64) (off := 53) C 1 dX7_about_11 q2 (by decide) (by decide) rfl (by decide) ?_
      refine pw_aload_n C dX7_about_64 rfl 0 rfl ?_
      refine pw_getr C dX7_about_65 gf_RX7_19 gk_0.1 gk_0.2 rfl ?_
      refine pw_getiN C dX7_about_68 gf_RX7_117 gk_3.1 gk_3.2 rfl ?_
      exact pw_iret C hT dX7_about_71 h
    · replace h := h.2.2.1 q2
      refine pw_tin (tgt := 72) (off := 61) C 2 dX7_about_11 q2 (by decide) (by decide) rfl (by decide) ?_
      refine pw_aload_n C dX7_about_72 rfl 0 rfl ?_
      refine pw_getr C dX7_about_73 gf_RX7_19 gk_0.1 gk_0.2 rfl ?_
      obtain ⟨Φ4, hM, h⟩ := h
      refine pw_callV C dX7_about_76 hM gm_X3_allMarks gl_RX7_120 rfl hR (by decide) (by decide) (by decide) rfl gk_3.1 gk_3.2 rfl (Nat.le_of_ble_eq_true rfl) ?_
      rintro _ τ5 ⟨r6, rfl, hv⟩
      replace h := h r6 τ5 hv
      show PW x G 2 79 [(0, .ref (G.1 + 0)), (1, .int v1)] [.int r6] τ5
      exact pw_iret C hT dX7_about_79 h
    · replace h := h.2.2.2.1 q2
      refine pw_tin (tgt := 80) (off := 69) C 3 dX7_about_11 q2 (by decide) (by decide) rfl (by decide) ?_
      refine pw_aload_n C dX7_about_80 rfl 0 rfl ?_
      refine pw_getr C dX7_about_81 gf_RX7_19 gk_0.1 gk_0.2 rfl ?_
      obtain ⟨Φ7, hM, h⟩ := h
      refine pw_callV C dX7_about_84 hM gm_X3_allWorks gl_RX7_123 rfl hR (by decide) (by decide) (by decide) rfl gk_3.1 gk_3.2 rfl (Nat.le_of_ble_eq_true rfl) ?_
      rintro _ τ8 ⟨r9, rfl, hv⟩
      replace h := h r9 τ8 hv
      show PW x G 2 87 [(0, .ref (G.1 + 0)), (1, .int v1)] [.int r9] τ8
      exact pw_iret C hT dX7_about_87 h
    · replace h := h.2.2.2.2.1 q2
      refine pw_tin (tgt := 88) (off := 77) C 4 dX7_about_11 q2 (by decide) (by decide) rfl (by decide) ?_
      refine pw_aload_n C dX7_about_88 rfl 0 rfl ?_
      refine pw_getr C dX7_about_89 gf_RX7_51 gk_0.1 gk_0.2 rfl ?_
      refine pw_aload_n C dX7_about_92 rfl 0 rfl ?_
      refine pw_getr C dX7_about_93 gf_RX7_19 gk_0.1 gk_0.2 rfl ?_
      obtain ⟨Φ10, hM, h⟩ := h
      refine pw_callV C dX7_about_96 hM gm_X4_agreeIn gl_RX7_126 rfl hR (by decide) (by decide) (by decide) rfl gk_167.1 gk_167.2 rfl (Nat.le_of_ble_eq_true rfl) ?_
      rintro _ τ11 ⟨r12, rfl, hv⟩
      replace h := h r12 τ11 hv
      show PW x G 2 99 [(0, .ref (G.1 + 0)), (1, .int v1)] [.int (gz r12)] τ11
      have hJ : ∀ w0 : Bool, (if r12 = false then false else true : Bool) = w0 → PW x G 2 107 [(0, .ref (G.1 + 0)), (1, .int v1)] [.int (gz w0)] τ11 := by
        rintro _ rfl
        exact pw_iret C hT dX7_about_107 h
      clear h
      refine pw_z_eq (tgt := 106) C dX7_about_99 (by decide) (fun q3 => ?_) (fun q3 => ?_)
      · refine pw_iconst (v := 0) C dX7_about_106 (by decide) ?_
        exact hJ false (if_pos q3)
      · refine pw_iconst (v := 1) C dX7_about_102 (by decide) ?_
        refine pw_goto (tgt := 107) C dX7_about_103 (by decide) ?_
        exact hJ true (if_neg q3)
    · replace h := h.2.2.2.2.2.1 q2
      refine pw_tin (tgt := 108) (off := 97) C 5 dX7_about_11 q2 (by decide) (by decide) rfl (by decide) ?_
      refine pw_aload_n C dX7_about_108 rfl 0 rfl ?_
      refine pw_getr C dX7_about_109 gf_RX7_19 gk_0.1 gk_0.2 rfl ?_
      obtain ⟨Φ13, hM, h⟩ := h
      refine pw_callV C dX7_about_112 hM gm_X3_parts gl_RX7_130 rfl hR (by decide) (by decide) (by decide) rfl gk_3.1 gk_3.2 rfl (Nat.le_of_ble_eq_true rfl) ?_
      rintro _ τ14 ⟨r15, rfl, hv⟩
      replace h := h r15 τ14 hv
      show PW x G 2 115 [(0, .ref (G.1 + 0)), (1, .int v1)] [.int r15] τ14
      exact pw_iret C hT dX7_about_115 h
    · replace h := h.2.2.2.2.2.2.1 q2
      refine pw_tin (tgt := 116) (off := 105) C 6 dX7_about_11 q2 (by decide) (by decide) rfl (by decide) ?_
      refine pw_aload_n C dX7_about_116 rfl 0 rfl ?_
      refine pw_getr C dX7_about_117 gf_RX7_51 gk_0.1 gk_0.2 rfl ?_
      refine pw_aload_n C dX7_about_120 rfl 0 rfl ?_
      refine pw_getr C dX7_about_121 gf_RX7_19 gk_0.1 gk_0.2 rfl ?_
      obtain ⟨Φ16, hM, h⟩ := h
      refine pw_callV C dX7_about_124 hM gm_X4_agreeIn gl_RX7_126 rfl hR (by decide) (by decide) (by decide) rfl gk_167.1 gk_167.2 rfl (Nat.le_of_ble_eq_true rfl) ?_
      rintro _ τ17 ⟨r18, rfl, hv⟩
      replace h := h r18 τ17 hv
      show PW x G 2 127 [(0, .ref (G.1 + 0)), (1, .int v1)] [.int (gz r18)] τ17
      refine pw_z_eq (tgt := 140) C dX7_about_127 (by decide) (fun q => ?_) (fun q => ?_)
      · replace h := h.1 q
        refine pw_iconst (v := (-1)) C dX7_about_140 (by decide) ?_
        exact pw_iret C hT dX7_about_141 h
      · replace h := h.2 q
        refine pw_aload_n C dX7_about_130 rfl 0 rfl ?_
        refine pw_getr C dX7_about_131 gf_RX7_51 gk_0.1 gk_0.2 rfl ?_
        obtain ⟨Φ19, hM, h⟩ := h
        refine pw_callV C dX7_about_134 hM gm_X4_total gl_RX7_133 rfl hR (by decide) (by decide) (by decide) rfl gk_167.1 gk_167.2 rfl (Nat.le_of_ble_eq_true rfl) ?_
        rintro _ τ20 ⟨r21, rfl, hv⟩
        replace h := h r21 τ20 hv
        show PW x G 2 137 [(0, .ref (G.1 + 0)), (1, .int v1)] [.int r21] τ20
        refine pw_goto (tgt := 141) C dX7_about_137 (by decide) ?_
        exact pw_iret C hT dX7_about_141 h
    · replace h := h.2.2.2.2.2.2.2 q2
      refine pw_tin (tgt := 142) (off := 131) C 7 dX7_about_11 q2 (by decide) (by decide) rfl (by decide) ?_
      refine pw_aload_n C dX7_about_142 rfl 0 rfl ?_
      refine pw_getr C dX7_about_143 gf_RX7_19 gk_0.1 gk_0.2 rfl ?_
      obtain ⟨Φ22, hM, h⟩ := h
      refine pw_callV C dX7_about_146 hM gm_X3_ready gl_RX7_136 rfl hR (by decide) (by decide) (by decide) rfl gk_3.1 gk_3.2 rfl (Nat.le_of_ble_eq_true rfl) ?_
      rintro _ τ23 ⟨r24, rfl, hv⟩
      replace h := h r24 τ23 hv
      show PW x G 2 149 [(0, .ref (G.1 + 0)), (1, .int v1)] [.int r24] τ23
      exact pw_iret C hT dX7_about_149 h
set_option maxRecDepth 4000 in
theorem sg_X7_module_0 {x : gw_X} {G : gw_G} {Φ : Int32 → gw_S → Prop} {K : Nat → gw_S → Prop} (hX : TX x G RX7 cX7_module 3 K) (C : XC x G RX7 cX7_module 3 (some .int)) (hR : gw_ok x 7) (hT : RT x G (fi Φ)) (v1 : Int32) (v2 : Int32) (σ : gw_S)
    (h : (¬ (if (if v1 < 0 then false else (if (σ.1 3 0) ≤ v1 then false else true : Bool) : Bool) = false then 1 else 0 : Nat) = 0 → K (if (if v1 < 0 then false else (if (σ.1 3 0) ≤ v1 then false else true : Bool) : Bool) = false then 1 else 0 : Nat) σ) ∧ ((if (if v1 < 0 then false else (if (σ.1 3 0) ≤ v1 then false else true : Bool) : Bool) = false then 1 else 0 : Nat) = 0 → (¬ (if v2 < 0 then 2 else (if v2 ≤ 5 then 0 else 2 : Nat) : Nat) = 0 → K (if v2 < 0 then 2 else (if v2 ≤ 5 then 0 else 2 : Nat) : Nat) σ) ∧ ((if v2 < 0 then 2 else (if v2 ≤ 5 then 0 else 2 : Nat) : Nat) = 0 → (v2.toInt < 0 ∨ 4 < v2.toInt → ∃ Φ1 : Int32 → gw_S → Prop, gw_M (xl x) G yX3_count cX3_count 5 (some .int) 0 [.ref (G.1 + 7), .int (σ.1 3 4), .int v1] σ (fi Φ1) ∧ ∀ (r3 : Int32) (τ2 : gw_S), Φ1 r3 τ2 → (Φ r3 τ2)) ∧ (v2.toInt = 0 → vp_in v1 8 ∧ (Φ (σ.1 4 v1.toNatClampNeg) σ)) ∧ (v2.toInt = 1 → vp_in v1 8 ∧ (Φ (σ.1 5 v1.toNatClampNeg) σ)) ∧ (v2.toInt = 2 → vp_in v1 8 ∧ (Φ (σ.1 6 v1.toNatClampNeg) σ)) ∧ (v2.toInt = 3 → ∃ Φ7 : Bool → gw_S → Prop, gw_M (xl x) G yX4_agreeIn cX4_agreeIn 3 (some .boolean) 2 [.ref (G.1 + 167), .ref (G.1 + 3)] σ (fz Φ7) ∧ ∀ (r9 : Bool) (τ8 : gw_S), Φ7 r9 τ8 → (((r9 = false → True) ∧ (¬ (r9 = false) → vp_in v1 8 ∧ (True))) ∧ (Φ (if r9 = false then (-1) else τ8.1 168 v1.toNatClampNeg : Int32) τ8))) ∧ (v2.toInt = 4 → ∃ Φ11 : Int32 → gw_S → Prop, gw_M (xl x) G yX3_count cX3_count 5 (some .int) 0 [.ref (G.1 + 8), .int (σ.1 3 4), .int v1] σ (fi Φ11) ∧ ∀ (r13 : Int32) (τ12 : gw_S), Φ11 r13 τ12 → (Φ r13 τ12))))) : PW x G 3 0 [(0, .ref (G.1 + 0)), (1, .int v1), (2, .int v2)] [] σ := by
  refine pw_aload_n C dX7_module_0 rfl 0 rfl ?_
  refine pw_getr C dX7_module_1 gf_RX7_19 gk_0.1 gk_0.2 rfl ?_
  refine pw_iload_n C dX7_module_4 rfl 1 rfl ?_
  refine pw_callV C dX7_module_5 (k_X3_moduleFault 3 v1 gp_3 σ ) gm_X3_moduleFault gl_RX7_142 rfl hR (by decide) (by decide) (by decide) rfl gk_3.1 gk_3.2 rfl (Nat.le_of_ble_eq_true rfl) ?_
  rintro _ _ ⟨_, -, rfl, rfl, rfl⟩
  show PW x G 3 8 [(0, .ref (G.1 + 0)), (1, .int v1), (2, .int v2)] [.ref (G.2.2.2 (if (if v1 < 0 then false else (if (σ.1 3 0) ≤ v1 then false else true : Bool) : Bool) = false then 1 else 0 : Nat))] σ
  refine hX _ _ _ _ _ dX7_module_8 gl_RX7_66 (by repeat' first | decide | split) h.1 (fun q => ?_)
  replace h := h.2 q
  refine pw_iload_n C dX7_module_11 rfl 2 rfl ?_
  refine pw_iconst (v := 0) C dX7_module_12 (by decide) ?_
  refine pw_iconst (v := 5) C dX7_module_13 (by decide) ?_
  refine pw_callS C dX7_module_14 (k_X7_range v2 0 5 σ ) gm_X7_range gl_RX7_62 rfl hR (by decide) (by decide) rfl (Nat.le_of_ble_eq_true rfl) ?_
  rintro _ _ ⟨_, -, rfl, rfl, rfl⟩
  show PW x G 3 17 [(0, .ref (G.1 + 0)), (1, .int v1), (2, .int v2)] [.ref (G.2.2.2 (if v2 < 0 then 2 else (if v2 ≤ 5 then 0 else 2 : Nat) : Nat))] σ
  refine hX _ _ _ _ _ dX7_module_17 gl_RX7_66 (by repeat' first | decide | split) h.1 (fun q => ?_)
  replace h := h.2 q
  refine pw_iload_n C dX7_module_20 rfl 2 rfl ?_
  rcases Classical.em (v2.toInt < 0 ∨ 4 < v2.toInt) with q | q
  · replace h := h.1 q
    refine pw_tout (tgt := 133) C dX7_module_21 q (by decide) ?_
    refine pw_aload_n C dX7_module_133 rfl 0 rfl ?_
    refine pw_getr C dX7_module_134 gf_RX7_19 gk_0.1 gk_0.2 rfl ?_
    refine pw_getrN C dX7_module_137 gf_RX7_166 gk_3.1 gk_3.2 rfl ?_
    refine pw_aload_n C dX7_module_140 rfl 0 rfl ?_
    refine pw_getr C dX7_module_141 gf_RX7_19 gk_0.1 gk_0.2 rfl ?_
    refine pw_getiN C dX7_module_144 gf_RX7_117 gk_3.1 gk_3.2 rfl ?_
    refine pw_iload_n C dX7_module_147 rfl 1 rfl ?_
    obtain ⟨Φ1, hM, h⟩ := h
    refine pw_callS C dX7_module_148 hM gm_X3_count gl_RX7_162 rfl hR (by decide) (by decide) rfl (Nat.le_of_ble_eq_true rfl) ?_
    rintro _ τ2 ⟨r3, rfl, hv⟩
    replace h := h r3 τ2 hv
    show PW x G 3 151 [(0, .ref (G.1 + 0)), (1, .int v1), (2, .int v2)] [.int r3] τ2
    exact pw_iret C hT dX7_module_151 h
  · replace h := h.2
    have q2 : v2.toInt = 0 ∨ v2.toInt = 1 ∨ v2.toInt = 2 ∨ v2.toInt = 3 ∨ v2.toInt = 4 := by omega
    rcases q2 with q2 | q2 | q2 | q2 | q2
    · replace h := h.1 q2
      refine pw_tin (tgt := 56) (off := 35) C 0 dX7_module_21 q2 (by decide) (by decide) rfl (by decide) ?_
      refine pw_aload_n C dX7_module_56 rfl 0 rfl ?_
      refine pw_getr C dX7_module_57 gf_RX7_19 gk_0.1 gk_0.2 rfl ?_
      refine pw_getrN C dX7_module_60 gf_RX7_146 gk_3.1 gk_3.2 rfl ?_
      refine pw_iload_n C dX7_module_63 rfl 1 rfl ?_
      obtain ⟨g4, h⟩ := h
      refine pw_iald C dX7_module_64 gk_4.1 gk_4.2 g4 ?_
      exact pw_iret C hT dX7_module_65 h
    · replace h := h.2.1 q2
      refine pw_tin (tgt := 66) (off := 45) C 1 dX7_module_21 q2 (by decide) (by decide) rfl (by decide) ?_
      refine pw_aload_n C dX7_module_66 rfl 0 rfl ?_
      refine pw_getr C dX7_module_67 gf_RX7_19 gk_0.1 gk_0.2 rfl ?_
      refine pw_getrN C dX7_module_70 gf_RX7_150 gk_3.1 gk_3.2 rfl ?_
      refine pw_iload_n C dX7_module_73 rfl 1 rfl ?_
      obtain ⟨g5, h⟩ := h
      refine pw_iald C dX7_module_74 gk_5.1 gk_5.2 g5 ?_
      exact pw_iret C hT dX7_module_75 h
    · replace h := h.2.2.1 q2
      refine pw_tin (tgt := 76) (off := 55) C 2 dX7_module_21 q2 (by decide) (by decide) rfl (by decide) ?_
      refine pw_aload_n C dX7_module_76 rfl 0 rfl ?_
      refine pw_getr C dX7_module_77 gf_RX7_19 gk_0.1 gk_0.2 rfl ?_
      refine pw_getrN C dX7_module_80 gf_RX7_153 gk_3.1 gk_3.2 rfl ?_
      refine pw_iload_n C dX7_module_83 rfl 1 rfl ?_
      obtain ⟨g6, h⟩ := h
      refine pw_iald C dX7_module_84 gk_6.1 gk_6.2 g6 ?_
      exact pw_iret C hT dX7_module_85 h
    · replace h := h.2.2.2.1 q2
      refine pw_tin (tgt := 86) (off := 65) C 3 dX7_module_21 q2 (by decide) (by decide) rfl (by decide) ?_
      refine pw_aload_n C dX7_module_86 rfl 0 rfl ?_
      refine pw_getr C dX7_module_87 gf_RX7_51 gk_0.1 gk_0.2 rfl ?_
      refine pw_aload_n C dX7_module_90 rfl 0 rfl ?_
      refine pw_getr C dX7_module_91 gf_RX7_19 gk_0.1 gk_0.2 rfl ?_
      obtain ⟨Φ7, hM, h⟩ := h
      refine pw_callV C dX7_module_94 hM gm_X4_agreeIn gl_RX7_126 rfl hR (by decide) (by decide) (by decide) rfl gk_167.1 gk_167.2 rfl (Nat.le_of_ble_eq_true rfl) ?_
      rintro _ τ8 ⟨r9, rfl, hv⟩
      replace h := h r9 τ8 hv
      show PW x G 3 97 [(0, .ref (G.1 + 0)), (1, .int v1), (2, .int v2)] [.int (gz r9)] τ8
      obtain ⟨hs, h⟩ := h
      have hJ : ∀ w0 : Int32, (if r9 = false then (-1) else τ8.1 168 v1.toNatClampNeg : Int32) = w0 → PW x G 3 113 [(0, .ref (G.1 + 0)), (1, .int v1), (2, .int v2)] [.int w0] τ8 := by
        rintro _ rfl
        exact pw_iret C hT dX7_module_113 h
      clear h
      refine pw_z_eq (tgt := 112) C dX7_module_97 (by decide) (fun q3 => ?_) (fun q3 => ?_)
      · replace hs := hs.1 q3
        refine pw_iconst (v := (-1)) C dX7_module_112 (by decide) ?_
        exact hJ (-1) (if_pos q3)
      · replace hs := hs.2 q3
        refine pw_aload_n C dX7_module_100 rfl 0 rfl ?_
        refine pw_getr C dX7_module_101 gf_RX7_51 gk_0.1 gk_0.2 rfl ?_
        refine pw_getrN C dX7_module_104 gf_RX7_156 gk_167.1 gk_167.2 rfl ?_
        refine pw_iload_n C dX7_module_107 rfl 1 rfl ?_
        obtain ⟨g10, hs⟩ := hs
        refine pw_iald C dX7_module_108 gk_168.1 gk_168.2 g10 ?_
        refine pw_goto (tgt := 113) C dX7_module_109 (by decide) ?_
        exact hJ (τ8.1 168 v1.toNatClampNeg) (if_neg q3)
    · replace h := h.2.2.2.2 q2
      refine pw_tin (tgt := 114) (off := 93) C 4 dX7_module_21 q2 (by decide) (by decide) rfl (by decide) ?_
      refine pw_aload_n C dX7_module_114 rfl 0 rfl ?_
      refine pw_getr C dX7_module_115 gf_RX7_19 gk_0.1 gk_0.2 rfl ?_
      refine pw_getrN C dX7_module_118 gf_RX7_159 gk_3.1 gk_3.2 rfl ?_
      refine pw_aload_n C dX7_module_121 rfl 0 rfl ?_
      refine pw_getr C dX7_module_122 gf_RX7_19 gk_0.1 gk_0.2 rfl ?_
      refine pw_getiN C dX7_module_125 gf_RX7_117 gk_3.1 gk_3.2 rfl ?_
      refine pw_iload_n C dX7_module_128 rfl 1 rfl ?_
      obtain ⟨Φ11, hM, h⟩ := h
      refine pw_callS C dX7_module_129 hM gm_X3_count gl_RX7_162 rfl hR (by decide) (by decide) rfl (Nat.le_of_ble_eq_true rfl) ?_
      rintro _ τ12 ⟨r13, rfl, hv⟩
      replace h := h r13 τ12 hv
      show PW x G 3 132 [(0, .ref (G.1 + 0)), (1, .int v1), (2, .int v2)] [.int r13] τ12
      exact pw_iret C hT dX7_module_132 h
set_option maxRecDepth 4000 in
theorem sg_X7_wire_0 {x : gw_X} {G : gw_G} {Φ : Int32 → gw_S → Prop} {K : Nat → gw_S → Prop} (hX : TX x G RX7 cX7_wire 3 K) (C : XC x G RX7 cX7_wire 3 (some .int)) (hR : gw_ok x 7) (hT : RT x G (fi Φ)) (v1 : Int32) (v2 : Int32) (σ : gw_S)
    (h : (¬ (if (if v1 < 0 then false else (if (σ.1 3 4) ≤ v1 then false else true : Bool) : Bool) = false then 1 else 0 : Nat) = 0 → K (if (if v1 < 0 then false else (if (σ.1 3 4) ≤ v1 then false else true : Bool) : Bool) = false then 1 else 0 : Nat) σ) ∧ ((if (if v1 < 0 then false else (if (σ.1 3 4) ≤ v1 then false else true : Bool) : Bool) = false then 1 else 0 : Nat) = 0 → (¬ (if v2 < 0 then 2 else (if v2 ≤ 4 then 0 else 2 : Nat) : Nat) = 0 → K (if v2 < 0 then 2 else (if v2 ≤ 4 then 0 else 2 : Nat) : Nat) σ) ∧ ((if v2 < 0 then 2 else (if v2 ≤ 4 then 0 else 2 : Nat) : Nat) = 0 → (v2.toInt < 0 ∨ 3 < v2.toInt → vp_in v1 14 ∧ (Φ (σ.1 11 v1.toNatClampNeg) σ)) ∧ (v2.toInt = 0 → vp_in v1 14 ∧ (Φ (σ.1 7 v1.toNatClampNeg) σ)) ∧ (v2.toInt = 1 → vp_in v1 14 ∧ (Φ (σ.1 8 v1.toNatClampNeg) σ)) ∧ (v2.toInt = 2 → vp_in v1 14 ∧ (Φ (σ.1 9 v1.toNatClampNeg) σ)) ∧ (v2.toInt = 3 → vp_in v1 14 ∧ (Φ (σ.1 10 v1.toNatClampNeg) σ))))) : PW x G 3 0 [(0, .ref (G.1 + 0)), (1, .int v1), (2, .int v2)] [] σ := by
  refine pw_aload_n C dX7_wire_0 rfl 0 rfl ?_
  refine pw_getr C dX7_wire_1 gf_RX7_19 gk_0.1 gk_0.2 rfl ?_
  refine pw_iload_n C dX7_wire_4 rfl 1 rfl ?_
  refine pw_callV C dX7_wire_5 (k_X3_wireFault 3 v1 gp_3 σ ) gm_X3_wireFault gl_RX7_169 rfl hR (by decide) (by decide) (by decide) rfl gk_3.1 gk_3.2 rfl (Nat.le_of_ble_eq_true rfl) ?_
  rintro _ _ ⟨_, -, rfl, rfl, rfl⟩
  show PW x G 3 8 [(0, .ref (G.1 + 0)), (1, .int v1), (2, .int v2)] [.ref (G.2.2.2 (if (if v1 < 0 then false else (if (σ.1 3 4) ≤ v1 then false else true : Bool) : Bool) = false then 1 else 0 : Nat))] σ
  refine hX _ _ _ _ _ dX7_wire_8 gl_RX7_66 (by repeat' first | decide | split) h.1 (fun q => ?_)
  replace h := h.2 q
  refine pw_iload_n C dX7_wire_11 rfl 2 rfl ?_
  refine pw_iconst (v := 0) C dX7_wire_12 (by decide) ?_
  refine pw_iconst (v := 4) C dX7_wire_13 (by decide) ?_
  refine pw_callS C dX7_wire_14 (k_X7_range v2 0 4 σ ) gm_X7_range gl_RX7_62 rfl hR (by decide) (by decide) rfl (Nat.le_of_ble_eq_true rfl) ?_
  rintro _ _ ⟨_, -, rfl, rfl, rfl⟩
  show PW x G 3 17 [(0, .ref (G.1 + 0)), (1, .int v1), (2, .int v2)] [.ref (G.2.2.2 (if v2 < 0 then 2 else (if v2 ≤ 4 then 0 else 2 : Nat) : Nat))] σ
  refine hX _ _ _ _ _ dX7_wire_17 gl_RX7_66 (by repeat' first | decide | split) h.1 (fun q => ?_)
  replace h := h.2 q
  refine pw_iload_n C dX7_wire_20 rfl 2 rfl ?_
  rcases Classical.em (v2.toInt < 0 ∨ 3 < v2.toInt) with q | q
  · replace h := h.1 q
    refine pw_tout (tgt := 92) C dX7_wire_21 q (by decide) ?_
    refine pw_aload_n C dX7_wire_92 rfl 0 rfl ?_
    refine pw_getr C dX7_wire_93 gf_RX7_19 gk_0.1 gk_0.2 rfl ?_
    refine pw_getrN C dX7_wire_96 gf_RX7_178 gk_3.1 gk_3.2 rfl ?_
    refine pw_iload_n C dX7_wire_99 rfl 1 rfl ?_
    obtain ⟨g1, h⟩ := h
    refine pw_iald C dX7_wire_100 gk_11.1 gk_11.2 g1 ?_
    exact pw_iret C hT dX7_wire_101 h
  · replace h := h.2
    have q2 : v2.toInt = 0 ∨ v2.toInt = 1 ∨ v2.toInt = 2 ∨ v2.toInt = 3 := by omega
    rcases q2 with q2 | q2 | q2 | q2
    · replace h := h.1 q2
      refine pw_tin (tgt := 52) (off := 31) C 0 dX7_wire_21 q2 (by decide) (by decide) rfl (by decide) ?_
      refine pw_aload_n C dX7_wire_52 rfl 0 rfl ?_
      refine pw_getr C dX7_wire_53 gf_RX7_19 gk_0.1 gk_0.2 rfl ?_
      refine pw_getrN C dX7_wire_56 gf_RX7_166 gk_3.1 gk_3.2 rfl ?_
      refine pw_iload_n C dX7_wire_59 rfl 1 rfl ?_
      obtain ⟨g2, h⟩ := h
      refine pw_iald C dX7_wire_60 gk_7.1 gk_7.2 g2 ?_
      exact pw_iret C hT dX7_wire_61 h
    · replace h := h.2.1 q2
      refine pw_tin (tgt := 62) (off := 41) C 1 dX7_wire_21 q2 (by decide) (by decide) rfl (by decide) ?_
      refine pw_aload_n C dX7_wire_62 rfl 0 rfl ?_
      refine pw_getr C dX7_wire_63 gf_RX7_19 gk_0.1 gk_0.2 rfl ?_
      refine pw_getrN C dX7_wire_66 gf_RX7_159 gk_3.1 gk_3.2 rfl ?_
      refine pw_iload_n C dX7_wire_69 rfl 1 rfl ?_
      obtain ⟨g3, h⟩ := h
      refine pw_iald C dX7_wire_70 gk_8.1 gk_8.2 g3 ?_
      exact pw_iret C hT dX7_wire_71 h
    · replace h := h.2.2.1 q2
      refine pw_tin (tgt := 72) (off := 51) C 2 dX7_wire_21 q2 (by decide) (by decide) rfl (by decide) ?_
      refine pw_aload_n C dX7_wire_72 rfl 0 rfl ?_
      refine pw_getr C dX7_wire_73 gf_RX7_19 gk_0.1 gk_0.2 rfl ?_
      refine pw_getrN C dX7_wire_76 gf_RX7_172 gk_3.1 gk_3.2 rfl ?_
      refine pw_iload_n C dX7_wire_79 rfl 1 rfl ?_
      obtain ⟨g4, h⟩ := h
      refine pw_iald C dX7_wire_80 gk_9.1 gk_9.2 g4 ?_
      exact pw_iret C hT dX7_wire_81 h
    · replace h := h.2.2.2 q2
      refine pw_tin (tgt := 82) (off := 61) C 3 dX7_wire_21 q2 (by decide) (by decide) rfl (by decide) ?_
      refine pw_aload_n C dX7_wire_82 rfl 0 rfl ?_
      refine pw_getr C dX7_wire_83 gf_RX7_19 gk_0.1 gk_0.2 rfl ?_
      refine pw_getrN C dX7_wire_86 gf_RX7_175 gk_3.1 gk_3.2 rfl ?_
      refine pw_iload_n C dX7_wire_89 rfl 1 rfl ?_
      obtain ⟨g5, h⟩ := h
      refine pw_iald C dX7_wire_90 gk_10.1 gk_10.2 g5 ?_
      exact pw_iret C hT dX7_wire_91 h
set_option maxRecDepth 4000 in
theorem sg_X7_between_0 {x : gw_X} {G : gw_G} {Φ : Int32 → gw_S → Prop} {K : Nat → gw_S → Prop} (hX : TX x G RX7 cX7_between 3 K) (C : XC x G RX7 cX7_between 3 (some .int)) (hR : gw_ok x 7) (hT : RT x G (fi Φ)) (v1 : Int32) (v2 : Int32) (σ : gw_S)
    (h : (¬ (if (if v1 < 0 then false else (if (σ.1 3 0) ≤ v1 then false else true : Bool) : Bool) = false then 1 else 0 : Nat) = 0 → K (if (if v1 < 0 then false else (if (σ.1 3 0) ≤ v1 then false else true : Bool) : Bool) = false then 1 else 0 : Nat) σ) ∧ ((if (if v1 < 0 then false else (if (σ.1 3 0) ≤ v1 then false else true : Bool) : Bool) = false then 1 else 0 : Nat) = 0 → (¬ (if (if v2 < 0 then false else (if (σ.1 3 0) ≤ v2 then false else true : Bool) : Bool) = false then 1 else 0 : Nat) = 0 → K (if (if v2 < 0 then false else (if (σ.1 3 0) ≤ v2 then false else true : Bool) : Bool) = false then 1 else 0 : Nat) σ) ∧ ((if (if v2 < 0 then false else (if (σ.1 3 0) ≤ v2 then false else true : Bool) : Bool) = false then 1 else 0 : Nat) = 0 → ∃ Φ1 : Int32 → gw_S → Prop, gw_M (xl x) G yX6_fewestMarks cX6_fewestMarks 6 (some .int) 1 [.ref (G.1 + 169), .ref (G.1 + 3), .int v1, .int v2] σ (fi Φ1) ∧ ∀ (r3 : Int32) (τ2 : gw_S), Φ1 r3 τ2 → (Φ r3 τ2)))) : PW x G 3 0 [(0, .ref (G.1 + 0)), (1, .int v1), (2, .int v2)] [] σ := by
  refine pw_aload_n C dX7_between_0 rfl 0 rfl ?_
  refine pw_getr C dX7_between_1 gf_RX7_19 gk_0.1 gk_0.2 rfl ?_
  refine pw_iload_n C dX7_between_4 rfl 1 rfl ?_
  refine pw_callV C dX7_between_5 (k_X3_moduleFault 3 v1 gp_3 σ ) gm_X3_moduleFault gl_RX7_142 rfl hR (by decide) (by decide) (by decide) rfl gk_3.1 gk_3.2 rfl (Nat.le_of_ble_eq_true rfl) ?_
  rintro _ _ ⟨_, -, rfl, rfl, rfl⟩
  show PW x G 3 8 [(0, .ref (G.1 + 0)), (1, .int v1), (2, .int v2)] [.ref (G.2.2.2 (if (if v1 < 0 then false else (if (σ.1 3 0) ≤ v1 then false else true : Bool) : Bool) = false then 1 else 0 : Nat))] σ
  refine hX _ _ _ _ _ dX7_between_8 gl_RX7_66 (by repeat' first | decide | split) h.1 (fun q => ?_)
  replace h := h.2 q
  refine pw_aload_n C dX7_between_11 rfl 0 rfl ?_
  refine pw_getr C dX7_between_12 gf_RX7_19 gk_0.1 gk_0.2 rfl ?_
  refine pw_iload_n C dX7_between_15 rfl 2 rfl ?_
  refine pw_callV C dX7_between_16 (k_X3_moduleFault 3 v2 gp_3 σ ) gm_X3_moduleFault gl_RX7_142 rfl hR (by decide) (by decide) (by decide) rfl gk_3.1 gk_3.2 rfl (Nat.le_of_ble_eq_true rfl) ?_
  rintro _ _ ⟨_, -, rfl, rfl, rfl⟩
  show PW x G 3 19 [(0, .ref (G.1 + 0)), (1, .int v1), (2, .int v2)] [.ref (G.2.2.2 (if (if v2 < 0 then false else (if (σ.1 3 0) ≤ v2 then false else true : Bool) : Bool) = false then 1 else 0 : Nat))] σ
  refine hX _ _ _ _ _ dX7_between_19 gl_RX7_66 (by repeat' first | decide | split) h.1 (fun q => ?_)
  replace h := h.2 q
  refine pw_aload_n C dX7_between_22 rfl 0 rfl ?_
  refine pw_getr C dX7_between_23 gf_RX7_58 gk_0.1 gk_0.2 rfl ?_
  refine pw_aload_n C dX7_between_26 rfl 0 rfl ?_
  refine pw_getr C dX7_between_27 gf_RX7_19 gk_0.1 gk_0.2 rfl ?_
  refine pw_iload_n C dX7_between_30 rfl 1 rfl ?_
  refine pw_iload_n C dX7_between_31 rfl 2 rfl ?_
  obtain ⟨Φ1, hM, h⟩ := h
  refine pw_callV C dX7_between_32 hM gm_X6_fewestMarks gl_RX7_181 rfl hR (by decide) (by decide) (by decide) rfl gk_169.1 gk_169.2 rfl (Nat.le_of_ble_eq_true rfl) ?_
  rintro _ τ2 ⟨r3, rfl, hv⟩
  replace h := h r3 τ2 hv
  show PW x G 3 35 [(0, .ref (G.1 + 0)), (1, .int v1), (2, .int v2)] [.int r3] τ2
  exact pw_iret C hT dX7_between_35 h
set_option maxRecDepth 4000 in
theorem sg_X7_addModule_0 {x : gw_X} {G : gw_G} {Φ : Int32 → gw_S → Prop} {K : Nat → gw_S → Prop} (hX : TX x G RX7 cX7_addModule 3 K) (C : XC x G RX7 cX7_addModule 3 (some .int)) (hR : gw_ok x 7) (hT : RT x G (fi Φ)) (v1 : Int32) (v2 : Int32) (σ : gw_S)
    (h : ∃ Φ1 : Nat → gw_S → Prop, gw_M (xl x) G yX3_newModuleFault cX3_newModuleFault 3 (some (.object "RateWires$Fault")) 0 [.ref (G.1 + 3), .int v1, .int v2] σ (fe G Φ1) ∧ ∀ (r3 : Nat) (τ2 : gw_S), r3 < 4 → Φ1 r3 τ2 → ((¬ r3 = 0 → K r3 τ2) ∧ (r3 = 0 → ∃ Φ4 : gw_S → Prop, gw_M (xl x) G yX2_remember cX2_remember 2 none 2 [.ref (G.1 + 12), .ref (G.1 + 3)] τ2 (fv Φ4) ∧ ∀ (τ5 : gw_S), Φ4 τ5 → (∃ Φ6 : Int32 → gw_S → Prop, gw_M (xl x) G yX3_newModule cX3_newModule 3 (some .int) 0 [.ref (G.1 + 3), .int v1, .int v2] τ5 (fi Φ6) ∧ ∀ (r8 : Int32) (τ7 : gw_S), Φ6 r8 τ7 → (Φ r8 τ7))))) : PW x G 3 0 [(0, .ref (G.1 + 0)), (1, .int v1), (2, .int v2)] [] σ := by
  refine pw_aload_n C dX7_addModule_0 rfl 0 rfl ?_
  refine pw_getr C dX7_addModule_1 gf_RX7_19 gk_0.1 gk_0.2 rfl ?_
  refine pw_iload_n C dX7_addModule_4 rfl 1 rfl ?_
  refine pw_iload_n C dX7_addModule_5 rfl 2 rfl ?_
  obtain ⟨Φ1, hM, h⟩ := h
  refine pw_callV C dX7_addModule_6 hM gm_X3_newModuleFault gl_RX7_185 rfl hR (by decide) (by decide) (by decide) rfl gk_3.1 gk_3.2 rfl (Nat.le_of_ble_eq_true rfl) ?_
  rintro _ τ2 ⟨r3, h4r3, rfl, hv⟩
  replace h := h r3 τ2 h4r3 hv
  show PW x G 3 9 [(0, .ref (G.1 + 0)), (1, .int v1), (2, .int v2)] [.ref (G.2.2.2 r3)] τ2
  refine hX _ _ _ _ _ dX7_addModule_9 gl_RX7_66 h4r3 h.1 (fun q => ?_)
  replace h := h.2 q
  refine pw_aload_n C dX7_addModule_12 rfl 0 rfl ?_
  refine pw_getr C dX7_addModule_13 gf_RX7_26 gk_0.1 gk_0.2 rfl ?_
  refine pw_aload_n C dX7_addModule_16 rfl 0 rfl ?_
  refine pw_getr C dX7_addModule_17 gf_RX7_19 gk_0.1 gk_0.2 rfl ?_
  obtain ⟨Φ4, hM, h⟩ := h
  refine pw_callV C dX7_addModule_20 hM gm_X2_remember gl_RX7_189 rfl hR (by decide) (by decide) (by decide) rfl gk_12.1 gk_12.2 rfl (Nat.le_of_ble_eq_true rfl) ?_
  rintro _ τ5 ⟨rfl, hv⟩
  replace h := h τ5 hv
  show PW x G 3 23 [(0, .ref (G.1 + 0)), (1, .int v1), (2, .int v2)] [] τ5
  refine pw_aload_n C dX7_addModule_23 rfl 0 rfl ?_
  refine pw_getr C dX7_addModule_24 gf_RX7_19 gk_0.1 gk_0.2 rfl ?_
  refine pw_iload_n C dX7_addModule_27 rfl 1 rfl ?_
  refine pw_iload_n C dX7_addModule_28 rfl 2 rfl ?_
  obtain ⟨Φ6, hM, h⟩ := h
  refine pw_callV C dX7_addModule_29 hM gm_X3_newModule gl_RX7_193 rfl hR (by decide) (by decide) (by decide) rfl gk_3.1 gk_3.2 rfl (Nat.le_of_ble_eq_true rfl) ?_
  rintro _ τ7 ⟨r8, rfl, hv⟩
  replace h := h r8 τ7 hv
  show PW x G 3 32 [(0, .ref (G.1 + 0)), (1, .int v1), (2, .int v2)] [.int r8] τ7
  exact pw_iret C hT dX7_addModule_32 h
set_option maxRecDepth 4000 in
theorem sg_X7_lay_0 {x : gw_X} {G : gw_G} {Φ : Int32 → gw_S → Prop} {K : Nat → gw_S → Prop} (hX : TX x G RX7 cX7_lay 6 K) (C : XC x G RX7 cX7_lay 6 (some .int)) (hR : gw_ok x 7) (hT : RT x G (fi Φ)) (v1 : Int32) (v2 : Int32) (v3 : Int32) (v4 : Int32) (v5 : Int32) (σ : gw_S)
    (h : ∃ Φ1 : Nat → gw_S → Prop, gw_M (xl x) G yX3_newWireFault cX3_newWireFault 6 (some (.object "RateWires$Fault")) 2 [.ref (G.1 + 3), .int v1, .int v2, .int v3, .int v4, .int v5] σ (fe G Φ1) ∧ ∀ (r3 : Nat) (τ2 : gw_S), r3 < 4 → Φ1 r3 τ2 → ((¬ r3 = 0 → K r3 τ2) ∧ (r3 = 0 → ∃ Φ4 : gw_S → Prop, gw_M (xl x) G yX2_remember cX2_remember 2 none 2 [.ref (G.1 + 12), .ref (G.1 + 3)] τ2 (fv Φ4) ∧ ∀ (τ5 : gw_S), Φ4 τ5 → (∃ Φ6 : Int32 → gw_S → Prop, gw_M (xl x) G yX3_newWire cX3_newWire 6 (some .int) 0 [.ref (G.1 + 3), .int v1, .int v2, .int v3, .int v4, .int v5] τ5 (fi Φ6) ∧ ∀ (r8 : Int32) (τ7 : gw_S), Φ6 r8 τ7 → (Φ r8 τ7))))) : PW x G 6 0 [(0, .ref (G.1 + 0)), (1, .int v1), (2, .int v2), (3, .int v3), (4, .int v4), (5, .int v5)] [] σ := by
  refine pw_aload_n C dX7_lay_0 rfl 0 rfl ?_
  refine pw_getr C dX7_lay_1 gf_RX7_19 gk_0.1 gk_0.2 rfl ?_
  refine pw_iload_n C dX7_lay_4 rfl 1 rfl ?_
  refine pw_iload_n C dX7_lay_5 rfl 2 rfl ?_
  refine pw_iload_n C dX7_lay_6 rfl 3 rfl ?_
  refine pw_iload C dX7_lay_7 4 rfl ?_
  refine pw_iload C dX7_lay_9 5 rfl ?_
  obtain ⟨Φ1, hM, h⟩ := h
  refine pw_callV C dX7_lay_11 hM gm_X3_newWireFault gl_RX7_197 rfl hR (by decide) (by decide) (by decide) rfl gk_3.1 gk_3.2 rfl (Nat.le_of_ble_eq_true rfl) ?_
  rintro _ τ2 ⟨r3, h4r3, rfl, hv⟩
  replace h := h r3 τ2 h4r3 hv
  show PW x G 6 14 [(0, .ref (G.1 + 0)), (1, .int v1), (2, .int v2), (3, .int v3), (4, .int v4), (5, .int v5)] [.ref (G.2.2.2 r3)] τ2
  refine hX _ _ _ _ _ dX7_lay_14 gl_RX7_66 h4r3 h.1 (fun q => ?_)
  replace h := h.2 q
  refine pw_aload_n C dX7_lay_17 rfl 0 rfl ?_
  refine pw_getr C dX7_lay_18 gf_RX7_26 gk_0.1 gk_0.2 rfl ?_
  refine pw_aload_n C dX7_lay_21 rfl 0 rfl ?_
  refine pw_getr C dX7_lay_22 gf_RX7_19 gk_0.1 gk_0.2 rfl ?_
  obtain ⟨Φ4, hM, h⟩ := h
  refine pw_callV C dX7_lay_25 hM gm_X2_remember gl_RX7_189 rfl hR (by decide) (by decide) (by decide) rfl gk_12.1 gk_12.2 rfl (Nat.le_of_ble_eq_true rfl) ?_
  rintro _ τ5 ⟨rfl, hv⟩
  replace h := h τ5 hv
  show PW x G 6 28 [(0, .ref (G.1 + 0)), (1, .int v1), (2, .int v2), (3, .int v3), (4, .int v4), (5, .int v5)] [] τ5
  refine pw_aload_n C dX7_lay_28 rfl 0 rfl ?_
  refine pw_getr C dX7_lay_29 gf_RX7_19 gk_0.1 gk_0.2 rfl ?_
  refine pw_iload_n C dX7_lay_32 rfl 1 rfl ?_
  refine pw_iload_n C dX7_lay_33 rfl 2 rfl ?_
  refine pw_iload_n C dX7_lay_34 rfl 3 rfl ?_
  refine pw_iload C dX7_lay_35 4 rfl ?_
  refine pw_iload C dX7_lay_37 5 rfl ?_
  obtain ⟨Φ6, hM, h⟩ := h
  refine pw_callV C dX7_lay_39 hM gm_X3_newWire gl_RX7_201 rfl hR (by decide) (by decide) (by decide) rfl gk_3.1 gk_3.2 rfl (Nat.le_of_ble_eq_true rfl) ?_
  rintro _ τ7 ⟨r8, rfl, hv⟩
  replace h := h r8 τ7 hv
  show PW x G 6 42 [(0, .ref (G.1 + 0)), (1, .int v1), (2, .int v2), (3, .int v3), (4, .int v4), (5, .int v5)] [.int r8] τ7
  exact pw_iret C hT dX7_lay_42 h
set_option maxRecDepth 4000 in
theorem sg_X7_cut_0 {x : gw_X} {G : gw_G} {Φ : Int32 → gw_S → Prop} {K : Nat → gw_S → Prop} (hX : TX x G RX7 cX7_cut 2 K) (C : XC x G RX7 cX7_cut 2 (some .int)) (hR : gw_ok x 7) (hT : RT x G (fi Φ)) (v1 : Int32) (σ : gw_S)
    (h : (¬ (if (if v1 < 0 then false else (if (σ.1 3 4) ≤ v1 then false else true : Bool) : Bool) = false then 1 else 0 : Nat) = 0 → K (if (if v1 < 0 then false else (if (σ.1 3 4) ≤ v1 then false else true : Bool) : Bool) = false then 1 else 0 : Nat) σ) ∧ ((if (if v1 < 0 then false else (if (σ.1 3 4) ≤ v1 then false else true : Bool) : Bool) = false then 1 else 0 : Nat) = 0 → ∃ Φ1 : gw_S → Prop, gw_M (xl x) G yX2_remember cX2_remember 2 none 2 [.ref (G.1 + 12), .ref (G.1 + 3)] σ (fv Φ1) ∧ ∀ (τ2 : gw_S), Φ1 τ2 → (∃ Φ3 : Int32 → gw_S → Prop, gw_M (xl x) G yX3_dropWire cX3_dropWire 4 (some .int) 0 [.ref (G.1 + 3), .int v1] τ2 (fi Φ3) ∧ ∀ (r5 : Int32) (τ4 : gw_S), Φ3 r5 τ4 → (Φ r5 τ4)))) : PW x G 2 0 [(0, .ref (G.1 + 0)), (1, .int v1)] [] σ := by
  refine pw_aload_n C dX7_cut_0 rfl 0 rfl ?_
  refine pw_getr C dX7_cut_1 gf_RX7_19 gk_0.1 gk_0.2 rfl ?_
  refine pw_iload_n C dX7_cut_4 rfl 1 rfl ?_
  refine pw_callV C dX7_cut_5 (k_X3_wireFault 3 v1 gp_3 σ ) gm_X3_wireFault gl_RX7_169 rfl hR (by decide) (by decide) (by decide) rfl gk_3.1 gk_3.2 rfl (Nat.le_of_ble_eq_true rfl) ?_
  rintro _ _ ⟨_, -, rfl, rfl, rfl⟩
  show PW x G 2 8 [(0, .ref (G.1 + 0)), (1, .int v1)] [.ref (G.2.2.2 (if (if v1 < 0 then false else (if (σ.1 3 4) ≤ v1 then false else true : Bool) : Bool) = false then 1 else 0 : Nat))] σ
  refine hX _ _ _ _ _ dX7_cut_8 gl_RX7_66 (by repeat' first | decide | split) h.1 (fun q => ?_)
  replace h := h.2 q
  refine pw_aload_n C dX7_cut_11 rfl 0 rfl ?_
  refine pw_getr C dX7_cut_12 gf_RX7_26 gk_0.1 gk_0.2 rfl ?_
  refine pw_aload_n C dX7_cut_15 rfl 0 rfl ?_
  refine pw_getr C dX7_cut_16 gf_RX7_19 gk_0.1 gk_0.2 rfl ?_
  obtain ⟨Φ1, hM, h⟩ := h
  refine pw_callV C dX7_cut_19 hM gm_X2_remember gl_RX7_189 rfl hR (by decide) (by decide) (by decide) rfl gk_12.1 gk_12.2 rfl (Nat.le_of_ble_eq_true rfl) ?_
  rintro _ τ2 ⟨rfl, hv⟩
  replace h := h τ2 hv
  show PW x G 2 22 [(0, .ref (G.1 + 0)), (1, .int v1)] [] τ2
  refine pw_aload_n C dX7_cut_22 rfl 0 rfl ?_
  refine pw_getr C dX7_cut_23 gf_RX7_19 gk_0.1 gk_0.2 rfl ?_
  refine pw_iload_n C dX7_cut_26 rfl 1 rfl ?_
  obtain ⟨Φ3, hM, h⟩ := h
  refine pw_callV C dX7_cut_27 hM gm_X3_dropWire gl_RX7_205 rfl hR (by decide) (by decide) (by decide) rfl gk_3.1 gk_3.2 rfl (Nat.le_of_ble_eq_true rfl) ?_
  rintro _ τ4 ⟨r5, rfl, hv⟩
  replace h := h r5 τ4 hv
  show PW x G 2 30 [(0, .ref (G.1 + 0)), (1, .int v1)] [.int r5] τ4
  exact pw_iret C hT dX7_cut_30 h
set_option maxRecDepth 4000 in
theorem sg_X7_put_0 {x : gw_X} {G : gw_G} {Φ : Int32 → gw_S → Prop} {K : Nat → gw_S → Prop} (hX : TX x G RX7 cX7_put 3 K) (C : XC x G RX7 cX7_put 3 (some .int)) (hR : gw_ok x 7) (hT : RT x G (fi Φ)) (v1 : Int32) (v2 : Int32) (σ : gw_S)
    (h : ∃ Φ1 : Nat → gw_S → Prop, gw_M (xl x) G yX3_newMarksFault cX3_newMarksFault 3 (some (.object "RateWires$Fault")) 2 [.ref (G.1 + 3), .int v1, .int v2] σ (fe G Φ1) ∧ ∀ (r3 : Nat) (τ2 : gw_S), r3 < 4 → Φ1 r3 τ2 → ((¬ r3 = 0 → K r3 τ2) ∧ (r3 = 0 → ∃ Φ4 : gw_S → Prop, gw_M (xl x) G yX2_remember cX2_remember 2 none 2 [.ref (G.1 + 12), .ref (G.1 + 3)] τ2 (fv Φ4) ∧ ∀ (τ5 : gw_S), Φ4 τ5 → (∃ Φ6 : Int32 → gw_S → Prop, gw_M (xl x) G yX3_newMarks cX3_newMarks 4 (some .int) 0 [.ref (G.1 + 3), .int v1, .int v2] τ5 (fi Φ6) ∧ ∀ (r8 : Int32) (τ7 : gw_S), Φ6 r8 τ7 → (Φ r8 τ7))))) : PW x G 3 0 [(0, .ref (G.1 + 0)), (1, .int v1), (2, .int v2)] [] σ := by
  refine pw_aload_n C dX7_put_0 rfl 0 rfl ?_
  refine pw_getr C dX7_put_1 gf_RX7_19 gk_0.1 gk_0.2 rfl ?_
  refine pw_iload_n C dX7_put_4 rfl 1 rfl ?_
  refine pw_iload_n C dX7_put_5 rfl 2 rfl ?_
  obtain ⟨Φ1, hM, h⟩ := h
  refine pw_callV C dX7_put_6 hM gm_X3_newMarksFault gl_RX7_209 rfl hR (by decide) (by decide) (by decide) rfl gk_3.1 gk_3.2 rfl (Nat.le_of_ble_eq_true rfl) ?_
  rintro _ τ2 ⟨r3, h4r3, rfl, hv⟩
  replace h := h r3 τ2 h4r3 hv
  show PW x G 3 9 [(0, .ref (G.1 + 0)), (1, .int v1), (2, .int v2)] [.ref (G.2.2.2 r3)] τ2
  refine hX _ _ _ _ _ dX7_put_9 gl_RX7_66 h4r3 h.1 (fun q => ?_)
  replace h := h.2 q
  refine pw_aload_n C dX7_put_12 rfl 0 rfl ?_
  refine pw_getr C dX7_put_13 gf_RX7_26 gk_0.1 gk_0.2 rfl ?_
  refine pw_aload_n C dX7_put_16 rfl 0 rfl ?_
  refine pw_getr C dX7_put_17 gf_RX7_19 gk_0.1 gk_0.2 rfl ?_
  obtain ⟨Φ4, hM, h⟩ := h
  refine pw_callV C dX7_put_20 hM gm_X2_remember gl_RX7_189 rfl hR (by decide) (by decide) (by decide) rfl gk_12.1 gk_12.2 rfl (Nat.le_of_ble_eq_true rfl) ?_
  rintro _ τ5 ⟨rfl, hv⟩
  replace h := h τ5 hv
  show PW x G 3 23 [(0, .ref (G.1 + 0)), (1, .int v1), (2, .int v2)] [] τ5
  refine pw_aload_n C dX7_put_23 rfl 0 rfl ?_
  refine pw_getr C dX7_put_24 gf_RX7_19 gk_0.1 gk_0.2 rfl ?_
  refine pw_iload_n C dX7_put_27 rfl 1 rfl ?_
  refine pw_iload_n C dX7_put_28 rfl 2 rfl ?_
  obtain ⟨Φ6, hM, h⟩ := h
  refine pw_callV C dX7_put_29 hM gm_X3_newMarks gl_RX7_212 rfl hR (by decide) (by decide) (by decide) rfl gk_3.1 gk_3.2 rfl (Nat.le_of_ble_eq_true rfl) ?_
  rintro _ τ7 ⟨r8, rfl, hv⟩
  replace h := h r8 τ7 hv
  show PW x G 3 32 [(0, .ref (G.1 + 0)), (1, .int v1), (2, .int v2)] [.int r8] τ7
  exact pw_iret C hT dX7_put_32 h
set_option maxRecDepth 4000 in
theorem sg_X7_work_0 {x : gw_X} {G : gw_G} {Φ : Int32 → gw_S → Prop} {K : Nat → gw_S → Prop} (hX : TX x G RX7 cX7_work 2 K) (C : XC x G RX7 cX7_work 2 (some .int)) (hR : gw_ok x 7) (hT : RT x G (fi Φ)) (v1 : Int32) (σ : gw_S)
    (h : ∃ Φ1 : Nat → gw_S → Prop, gw_M (xl x) G yX3_workFault cX3_workFault 2 (some (.object "RateWires$Fault")) 2 [.ref (G.1 + 3), .int v1] σ (fe G Φ1) ∧ ∀ (r3 : Nat) (τ2 : gw_S), r3 < 4 → Φ1 r3 τ2 → ((¬ r3 = 0 → K r3 τ2) ∧ (r3 = 0 → ∃ Φ4 : gw_S → Prop, gw_M (xl x) G yX2_remember cX2_remember 2 none 2 [.ref (G.1 + 12), .ref (G.1 + 3)] τ2 (fv Φ4) ∧ ∀ (τ5 : gw_S), Φ4 τ5 → (∃ Φ6 : gw_S → Prop, gw_M (xl x) G yX3_doWork cX3_doWork 3 none 1 [.ref (G.1 + 3), .int v1] τ5 (fv Φ6) ∧ ∀ (τ7 : gw_S), Φ6 τ7 → (∃ Φ8 : Int32 → gw_S → Prop, gw_M (xl x) G yX3_allMarks cX3_allMarks 3 (some .int) 0 [.ref (G.1 + 3)] τ7 (fi Φ8) ∧ ∀ (r10 : Int32) (τ9 : gw_S), Φ8 r10 τ9 → (Φ r10 τ9)))))) : PW x G 2 0 [(0, .ref (G.1 + 0)), (1, .int v1)] [] σ := by
  refine pw_aload_n C dX7_work_0 rfl 0 rfl ?_
  refine pw_getr C dX7_work_1 gf_RX7_19 gk_0.1 gk_0.2 rfl ?_
  refine pw_iload_n C dX7_work_4 rfl 1 rfl ?_
  obtain ⟨Φ1, hM, h⟩ := h
  refine pw_callV C dX7_work_5 hM gm_X3_workFault gl_RX7_215 rfl hR (by decide) (by decide) (by decide) rfl gk_3.1 gk_3.2 rfl (Nat.le_of_ble_eq_true rfl) ?_
  rintro _ τ2 ⟨r3, h4r3, rfl, hv⟩
  replace h := h r3 τ2 h4r3 hv
  show PW x G 2 8 [(0, .ref (G.1 + 0)), (1, .int v1)] [.ref (G.2.2.2 r3)] τ2
  refine hX _ _ _ _ _ dX7_work_8 gl_RX7_66 h4r3 h.1 (fun q => ?_)
  replace h := h.2 q
  refine pw_aload_n C dX7_work_11 rfl 0 rfl ?_
  refine pw_getr C dX7_work_12 gf_RX7_26 gk_0.1 gk_0.2 rfl ?_
  refine pw_aload_n C dX7_work_15 rfl 0 rfl ?_
  refine pw_getr C dX7_work_16 gf_RX7_19 gk_0.1 gk_0.2 rfl ?_
  obtain ⟨Φ4, hM, h⟩ := h
  refine pw_callV C dX7_work_19 hM gm_X2_remember gl_RX7_189 rfl hR (by decide) (by decide) (by decide) rfl gk_12.1 gk_12.2 rfl (Nat.le_of_ble_eq_true rfl) ?_
  rintro _ τ5 ⟨rfl, hv⟩
  replace h := h τ5 hv
  show PW x G 2 22 [(0, .ref (G.1 + 0)), (1, .int v1)] [] τ5
  refine pw_aload_n C dX7_work_22 rfl 0 rfl ?_
  refine pw_getr C dX7_work_23 gf_RX7_19 gk_0.1 gk_0.2 rfl ?_
  refine pw_iload_n C dX7_work_26 rfl 1 rfl ?_
  obtain ⟨Φ6, hM, h⟩ := h
  refine pw_callV C dX7_work_27 hM gm_X3_doWork gl_RX7_218 rfl hR (by decide) (by decide) (by decide) rfl gk_3.1 gk_3.2 rfl (Nat.le_of_ble_eq_true rfl) ?_
  rintro _ τ7 ⟨rfl, hv⟩
  replace h := h τ7 hv
  show PW x G 2 30 [(0, .ref (G.1 + 0)), (1, .int v1)] [] τ7
  refine pw_aload_n C dX7_work_30 rfl 0 rfl ?_
  refine pw_getr C dX7_work_31 gf_RX7_19 gk_0.1 gk_0.2 rfl ?_
  obtain ⟨Φ8, hM, h⟩ := h
  refine pw_callV C dX7_work_34 hM gm_X3_allMarks gl_RX7_120 rfl hR (by decide) (by decide) (by decide) rfl gk_3.1 gk_3.2 rfl (Nat.le_of_ble_eq_true rfl) ?_
  rintro _ τ9 ⟨r10, rfl, hv⟩
  replace h := h r10 τ9 hv
  show PW x G 2 37 [(0, .ref (G.1 + 0)), (1, .int v1)] [.int r10] τ9
  exact pw_iret C hT dX7_work_37 h
set_option maxRecDepth 4000 in
theorem sg_X7_round_0 {x : gw_X} {G : gw_G} {Φ : Int32 → gw_S → Prop} {K : Nat → gw_S → Prop} (hX : TX x G RX7 cX7_round 2 K) (C : XC x G RX7 cX7_round 2 (some .int)) (hR : gw_ok x 7) (hT : RT x G (fi Φ)) (v1 : Int32) (σ : gw_S)
    (h : (¬ (if v1 < 0 then 2 else (if v1 ≤ 2 then 0 else 2 : Nat) : Nat) = 0 → K (if v1 < 0 then 2 else (if v1 ≤ 2 then 0 else 2 : Nat) : Nat) σ) ∧ ((if v1 < 0 then 2 else (if v1 ≤ 2 then 0 else 2 : Nat) : Nat) = 0 → ∃ Φ1 : gw_S → Prop, gw_M (xl x) G yX0_follow cX0_follow 5 none 3 [.ref (G.1 + 151), .ref (G.1 + 3), .int v1] σ (fv Φ1) ∧ ∀ (τ2 : gw_S), Φ1 τ2 → ((¬ (if (if (τ2.1 151 6) = 0 then false else (if (τ2.1 151 8) = (τ2.1 151 7) then true else false : Bool) : Bool) = false then 3 else 0 : Nat) = 0 → K (if (if (τ2.1 151 6) = 0 then false else (if (τ2.1 151 8) = (τ2.1 151 7) then true else false : Bool) : Bool) = false then 3 else 0 : Nat) τ2) ∧ ((if (if (τ2.1 151 6) = 0 then false else (if (τ2.1 151 8) = (τ2.1 151 7) then true else false : Bool) : Bool) = false then 3 else 0 : Nat) = 0 → ∃ Φ3 : gw_S → Prop, gw_M (xl x) G yX2_remember cX2_remember 2 none 2 [.ref (G.1 + 12), .ref (G.1 + 3)] τ2 (fv Φ3) ∧ ∀ (τ4 : gw_S), Φ3 τ4 → (∃ Φ5 : Int32 → gw_S → Prop, gw_M (xl x) G yX0_takeOver cX0_takeOver 2 (some .int) 2 [.ref (G.1 + 151), .ref (G.1 + 3)] τ4 (fi Φ5) ∧ ∀ (r7 : Int32) (τ6 : gw_S), Φ5 r7 τ6 → (Φ r7 τ6)))))) : PW x G 2 0 [(0, .ref (G.1 + 0)), (1, .int v1)] [] σ := by
  refine pw_iload_n C dX7_round_0 rfl 1 rfl ?_
  refine pw_callS C dX7_round_1 (k_X7_ruleFault v1 σ ) gm_X7_ruleFault gl_RX7_222 rfl hR (by decide) (by decide) rfl (Nat.le_of_ble_eq_true rfl) ?_
  rintro _ _ ⟨_, -, rfl, rfl, rfl⟩
  show PW x G 2 4 [(0, .ref (G.1 + 0)), (1, .int v1)] [.ref (G.2.2.2 (if v1 < 0 then 2 else (if v1 ≤ 2 then 0 else 2 : Nat) : Nat))] σ
  refine hX _ _ _ _ _ dX7_round_4 gl_RX7_66 (by repeat' first | decide | split) h.1 (fun q => ?_)
  replace h := h.2 q
  refine pw_aload_n C dX7_round_7 rfl 0 rfl ?_
  refine pw_getr C dX7_round_8 gf_RX7_44 gk_0.1 gk_0.2 rfl ?_
  refine pw_aload_n C dX7_round_11 rfl 0 rfl ?_
  refine pw_getr C dX7_round_12 gf_RX7_19 gk_0.1 gk_0.2 rfl ?_
  refine pw_iload_n C dX7_round_15 rfl 1 rfl ?_
  obtain ⟨Φ1, hM, h⟩ := h
  refine pw_callV C dX7_round_16 hM gm_X0_follow gl_RX7_225 rfl hR (by decide) (by decide) (by decide) rfl gk_151.1 gk_151.2 rfl (Nat.le_of_ble_eq_true rfl) ?_
  rintro _ τ2 ⟨rfl, hv⟩
  replace h := h τ2 hv
  show PW x G 2 19 [(0, .ref (G.1 + 0)), (1, .int v1)] [] τ2
  refine pw_aload_n C dX7_round_19 rfl 0 rfl ?_
  refine pw_getr C dX7_round_20 gf_RX7_44 gk_0.1 gk_0.2 rfl ?_
  refine pw_callV C dX7_round_23 (k_X0_isComplete  τ2 ) gm_X0_isComplete gl_RX7_229 rfl hR (by decide) (by decide) (by decide) rfl gk_151.1 gk_151.2 rfl (Nat.le_of_ble_eq_true rfl) ?_
  rintro _ _ ⟨_, rfl, rfl, rfl⟩
  show PW x G 2 26 [(0, .ref (G.1 + 0)), (1, .int v1)] [.int (gz (if (τ2.1 151 6) = 0 then false else (if (τ2.1 151 8) = (τ2.1 151 7) then true else false : Bool) : Bool))] τ2
  have hJ : ∀ w0 : Nat, (if (if (τ2.1 151 6) = 0 then false else (if (τ2.1 151 8) = (τ2.1 151 7) then true else false : Bool) : Bool) = false then 3 else 0 : Nat) = w0 → PW x G 2 38 [(0, .ref (G.1 + 0)), (1, .int v1)] [.ref (G.2.2.2 w0)] τ2 := by
    rintro _ rfl
    refine hX _ _ _ _ _ dX7_round_38 gl_RX7_66 (by repeat' first | decide | split) h.1 (fun q => ?_)
    replace h := h.2 q
    refine pw_aload_n C dX7_round_41 rfl 0 rfl ?_
    refine pw_getr C dX7_round_42 gf_RX7_26 gk_0.1 gk_0.2 rfl ?_
    refine pw_aload_n C dX7_round_45 rfl 0 rfl ?_
    refine pw_getr C dX7_round_46 gf_RX7_19 gk_0.1 gk_0.2 rfl ?_
    obtain ⟨Φ3, hM, h⟩ := h
    refine pw_callV C dX7_round_49 hM gm_X2_remember gl_RX7_189 rfl hR (by decide) (by decide) (by decide) rfl gk_12.1 gk_12.2 rfl (Nat.le_of_ble_eq_true rfl) ?_
    rintro _ τ4 ⟨rfl, hv⟩
    replace h := h τ4 hv
    show PW x G 2 52 [(0, .ref (G.1 + 0)), (1, .int v1)] [] τ4
    refine pw_aload_n C dX7_round_52 rfl 0 rfl ?_
    refine pw_getr C dX7_round_53 gf_RX7_44 gk_0.1 gk_0.2 rfl ?_
    refine pw_aload_n C dX7_round_56 rfl 0 rfl ?_
    refine pw_getr C dX7_round_57 gf_RX7_19 gk_0.1 gk_0.2 rfl ?_
    obtain ⟨Φ5, hM, h⟩ := h
    refine pw_callV C dX7_round_60 hM gm_X0_takeOver gl_RX7_232 rfl hR (by decide) (by decide) (by decide) rfl gk_151.1 gk_151.2 rfl (Nat.le_of_ble_eq_true rfl) ?_
    rintro _ τ6 ⟨r7, rfl, hv⟩
    replace h := h r7 τ6 hv
    show PW x G 2 63 [(0, .ref (G.1 + 0)), (1, .int v1)] [.int r7] τ6
    exact pw_iret C hT dX7_round_63 h
  clear h
  refine pw_z_eq (tgt := 35) C dX7_round_26 (by decide) (fun q1 => ?_) (fun q1 => ?_)
  · refine pw_gets (i := 3) C dX7_round_35 (by decide) gl_RX7_74 ?_
    exact hJ 3 (if_pos q1)
  · refine pw_gets (i := 0) C dX7_round_29 (by decide) gl_RX7_80 ?_
    refine pw_goto (tgt := 38) C dX7_round_32 (by decide) ?_
    exact hJ 0 (if_neg q1)
set_option maxRecDepth 4000 in
theorem sg_X7_undo_0 {x : gw_X} {G : gw_G} {Φ : Int32 → gw_S → Prop} {K : Nat → gw_S → Prop} (hX : TX x G RX7 cX7_undo 1 K) (C : XC x G RX7 cX7_undo 1 (some .int)) (hR : gw_ok x 7) (hT : RT x G (fi Φ))  (σ : gw_S)
    (h : (¬ (if (if (σ.1 12 2) = 0 then true else false : Bool) = false then 0 else 3 : Nat) = 0 → K (if (if (σ.1 12 2) = 0 then true else false : Bool) = false then 0 else 3 : Nat) σ) ∧ ((if (if (σ.1 12 2) = 0 then true else false : Bool) = false then 0 else 3 : Nat) = 0 → ∃ Φ1 : Int32 → gw_S → Prop, gw_M (xl x) G yX2_takeBack cX2_takeBack 2 (some .int) 2 [.ref (G.1 + 12), .ref (G.1 + 3)] σ (fi Φ1) ∧ ∀ (r3 : Int32) (τ2 : gw_S), Φ1 r3 τ2 → (Φ r3 τ2))) : PW x G 1 0 [(0, .ref (G.1 + 0))] [] σ := by
  refine pw_aload_n C dX7_undo_0 rfl 0 rfl ?_
  refine pw_getr C dX7_undo_1 gf_RX7_26 gk_0.1 gk_0.2 rfl ?_
  refine pw_callV C dX7_undo_4 (k_X2_isEmpty  σ ) gm_X2_isEmpty gl_RX7_236 rfl hR (by decide) (by decide) (by decide) rfl gk_12.1 gk_12.2 rfl (Nat.le_of_ble_eq_true rfl) ?_
  rintro _ _ ⟨_, rfl, rfl, rfl⟩
  show PW x G 1 7 [(0, .ref (G.1 + 0))] [.int (gz (if (σ.1 12 2) = 0 then true else false : Bool))] σ
  have hJ : ∀ w0 : Nat, (if (if (σ.1 12 2) = 0 then true else false : Bool) = false then 0 else 3 : Nat) = w0 → PW x G 1 19 [(0, .ref (G.1 + 0))] [.ref (G.2.2.2 w0)] σ := by
    rintro _ rfl
    refine hX _ _ _ _ _ dX7_undo_19 gl_RX7_66 (by repeat' first | decide | split) h.1 (fun q => ?_)
    replace h := h.2 q
    refine pw_aload_n C dX7_undo_22 rfl 0 rfl ?_
    refine pw_getr C dX7_undo_23 gf_RX7_26 gk_0.1 gk_0.2 rfl ?_
    refine pw_aload_n C dX7_undo_26 rfl 0 rfl ?_
    refine pw_getr C dX7_undo_27 gf_RX7_19 gk_0.1 gk_0.2 rfl ?_
    obtain ⟨Φ1, hM, h⟩ := h
    refine pw_callV C dX7_undo_30 hM gm_X2_takeBack gl_RX7_239 rfl hR (by decide) (by decide) (by decide) rfl gk_12.1 gk_12.2 rfl (Nat.le_of_ble_eq_true rfl) ?_
    rintro _ τ2 ⟨r3, rfl, hv⟩
    replace h := h r3 τ2 hv
    show PW x G 1 33 [(0, .ref (G.1 + 0))] [.int r3] τ2
    exact pw_iret C hT dX7_undo_33 h
  clear h
  refine pw_z_eq (tgt := 16) C dX7_undo_7 (by decide) (fun q1 => ?_) (fun q1 => ?_)
  · refine pw_gets (i := 0) C dX7_undo_16 (by decide) gl_RX7_80 ?_
    exact hJ 0 (if_pos q1)
  · refine pw_gets (i := 3) C dX7_undo_10 (by decide) gl_RX7_74 ?_
    refine pw_goto (tgt := 19) C dX7_undo_13 (by decide) ?_
    exact hJ 3 (if_neg q1)
set_option maxRecDepth 4000 in
theorem sg_X7_order_0 {x : gw_X} {G : gw_G} {Φ : Int32 → gw_S → Prop} {K : Nat → gw_S → Prop} (hX : TX x G RX7 cX7_order 3 K) (C : XC x G RX7 cX7_order 3 (some .int)) (hR : gw_ok x 7) (hT : RT x G (fi Φ)) (v1 : Int32) (v2 : Int32) (σ : gw_S)
    (h : (¬ (if v1 < 0 then 2 else (if v1 ≤ 2 then 0 else 2 : Nat) : Nat) = 0 → K (if v1 < 0 then 2 else (if v1 ≤ 2 then 0 else 2 : Nat) : Nat) σ) ∧ ((if v1 < 0 then 2 else (if v1 ≤ 2 then 0 else 2 : Nat) : Nat) = 0 → (¬ (if 0 ≤ v2 then 0 else 2 : Nat) = 0 → K (if 0 ≤ v2 then 0 else 2 : Nat) σ) ∧ ((if 0 ≤ v2 then 0 else 2 : Nat) = 0 → ∃ Φ1 : gw_S → Prop, gw_M (xl x) G yX0_follow cX0_follow 5 none 3 [.ref (G.1 + 151), .ref (G.1 + 3), .int v1] σ (fv Φ1) ∧ ∀ (τ2 : gw_S), Φ1 τ2 → (∃ Φ3 : Int32 → gw_S → Prop, gw_M (xl x) G yX0_step cX0_step 2 (some .int) 0 [.ref (G.1 + 151), .int v2] τ2 (fi Φ3) ∧ ∀ (r5 : Int32) (τ4 : gw_S), Φ3 r5 τ4 → (Φ r5 τ4))))) : PW x G 3 0 [(0, .ref (G.1 + 0)), (1, .int v1), (2, .int v2)] [] σ := by
  refine pw_iload_n C dX7_order_0 rfl 1 rfl ?_
  refine pw_callS C dX7_order_1 (k_X7_ruleFault v1 σ ) gm_X7_ruleFault gl_RX7_222 rfl hR (by decide) (by decide) rfl (Nat.le_of_ble_eq_true rfl) ?_
  rintro _ _ ⟨_, -, rfl, rfl, rfl⟩
  show PW x G 3 4 [(0, .ref (G.1 + 0)), (1, .int v1), (2, .int v2)] [.ref (G.2.2.2 (if v1 < 0 then 2 else (if v1 ≤ 2 then 0 else 2 : Nat) : Nat))] σ
  refine hX _ _ _ _ _ dX7_order_4 gl_RX7_66 (by repeat' first | decide | split) h.1 (fun q => ?_)
  replace h := h.2 q
  refine pw_iload_n C dX7_order_7 rfl 2 rfl ?_
  have hJ : ∀ w0 : Nat, (if 0 ≤ v2 then 0 else 2 : Nat) = w0 → PW x G 3 20 [(0, .ref (G.1 + 0)), (1, .int v1), (2, .int v2)] [.ref (G.2.2.2 w0)] σ := by
    rintro _ rfl
    refine hX _ _ _ _ _ dX7_order_20 gl_RX7_66 (by repeat' first | decide | split) h.1 (fun q => ?_)
    replace h := h.2 q
    refine pw_aload_n C dX7_order_23 rfl 0 rfl ?_
    refine pw_getr C dX7_order_24 gf_RX7_44 gk_0.1 gk_0.2 rfl ?_
    refine pw_aload_n C dX7_order_27 rfl 0 rfl ?_
    refine pw_getr C dX7_order_28 gf_RX7_19 gk_0.1 gk_0.2 rfl ?_
    refine pw_iload_n C dX7_order_31 rfl 1 rfl ?_
    obtain ⟨Φ1, hM, h⟩ := h
    refine pw_callV C dX7_order_32 hM gm_X0_follow gl_RX7_225 rfl hR (by decide) (by decide) (by decide) rfl gk_151.1 gk_151.2 rfl (Nat.le_of_ble_eq_true rfl) ?_
    rintro _ τ2 ⟨rfl, hv⟩
    replace h := h τ2 hv
    show PW x G 3 35 [(0, .ref (G.1 + 0)), (1, .int v1), (2, .int v2)] [] τ2
    refine pw_aload_n C dX7_order_35 rfl 0 rfl ?_
    refine pw_getr C dX7_order_36 gf_RX7_44 gk_0.1 gk_0.2 rfl ?_
    refine pw_iload_n C dX7_order_39 rfl 2 rfl ?_
    obtain ⟨Φ3, hM, h⟩ := h
    refine pw_callV C dX7_order_40 hM gm_X0_step gl_RX7_245 rfl hR (by decide) (by decide) (by decide) rfl gk_151.1 gk_151.2 rfl (Nat.le_of_ble_eq_true rfl) ?_
    rintro _ τ4 ⟨r5, rfl, hv⟩
    replace h := h r5 τ4 hv
    show PW x G 3 43 [(0, .ref (G.1 + 0)), (1, .int v1), (2, .int v2)] [.int r5] τ4
    exact pw_iret C hT dX7_order_43 h
  clear h
  refine pw_if_ge (tgt := 17) C dX7_order_8 (by decide) (fun q1 => ?_) (fun q1 => ?_)
  · refine pw_gets (i := 0) C dX7_order_17 (by decide) gl_RX7_80 ?_
    exact hJ 0 (if_pos q1)
  · refine pw_gets (i := 2) C dX7_order_11 (by decide) gl_RX7_242 ?_
    refine pw_goto (tgt := 20) C dX7_order_14 (by decide) ?_
    exact hJ 2 (if_neg q1)
set_option maxRecDepth 4000 in
theorem sg_X7_sticks_0 {x : gw_X} {G : gw_G} {Φ : Int32 → gw_S → Prop} {K : Nat → gw_S → Prop} (hX : TX x G RX7 cX7_sticks 2 K) (C : XC x G RX7 cX7_sticks 2 (some .int)) (hR : gw_ok x 7) (hT : RT x G (fi Φ)) (v1 : Int32) (σ : gw_S)
    (h : (¬ (if v1 < 0 then 2 else (if v1 ≤ 2 then 0 else 2 : Nat) : Nat) = 0 → K (if v1 < 0 then 2 else (if v1 ≤ 2 then 0 else 2 : Nat) : Nat) σ) ∧ ((if v1 < 0 then 2 else (if v1 ≤ 2 then 0 else 2 : Nat) : Nat) = 0 → ∃ Φ1 : gw_S → Prop, gw_M (xl x) G yX0_follow cX0_follow 5 none 3 [.ref (G.1 + 151), .ref (G.1 + 3), .int v1] σ (fv Φ1) ∧ ∀ (τ2 : gw_S), Φ1 τ2 → (Φ (if (τ2.1 151 6) = 0 then (-1) else (if (if (τ2.1 151 6) = 0 then false else (if (τ2.1 151 8) = (τ2.1 151 7) then true else false : Bool) : Bool) = false then τ2.1 151 8 else (-1) : Int32) : Int32) τ2))) : PW x G 2 0 [(0, .ref (G.1 + 0)), (1, .int v1)] [] σ := by
  refine pw_iload_n C dX7_sticks_0 rfl 1 rfl ?_
  refine pw_callS C dX7_sticks_1 (k_X7_ruleFault v1 σ ) gm_X7_ruleFault gl_RX7_222 rfl hR (by decide) (by decide) rfl (Nat.le_of_ble_eq_true rfl) ?_
  rintro _ _ ⟨_, -, rfl, rfl, rfl⟩
  show PW x G 2 4 [(0, .ref (G.1 + 0)), (1, .int v1)] [.ref (G.2.2.2 (if v1 < 0 then 2 else (if v1 ≤ 2 then 0 else 2 : Nat) : Nat))] σ
  refine hX _ _ _ _ _ dX7_sticks_4 gl_RX7_66 (by repeat' first | decide | split) h.1 (fun q => ?_)
  replace h := h.2 q
  refine pw_aload_n C dX7_sticks_7 rfl 0 rfl ?_
  refine pw_getr C dX7_sticks_8 gf_RX7_44 gk_0.1 gk_0.2 rfl ?_
  refine pw_aload_n C dX7_sticks_11 rfl 0 rfl ?_
  refine pw_getr C dX7_sticks_12 gf_RX7_19 gk_0.1 gk_0.2 rfl ?_
  refine pw_iload_n C dX7_sticks_15 rfl 1 rfl ?_
  obtain ⟨Φ1, hM, h⟩ := h
  refine pw_callV C dX7_sticks_16 hM gm_X0_follow gl_RX7_225 rfl hR (by decide) (by decide) (by decide) rfl gk_151.1 gk_151.2 rfl (Nat.le_of_ble_eq_true rfl) ?_
  rintro _ τ2 ⟨rfl, hv⟩
  replace h := h τ2 hv
  show PW x G 2 19 [(0, .ref (G.1 + 0)), (1, .int v1)] [] τ2
  refine pw_aload_n C dX7_sticks_19 rfl 0 rfl ?_
  refine pw_getr C dX7_sticks_20 gf_RX7_44 gk_0.1 gk_0.2 rfl ?_
  refine pw_getiN C dX7_sticks_23 gf_RX7_248 gk_151.1 gk_151.2 rfl ?_
  have hJ : ∀ w0 : Int32, (if (τ2.1 151 6) = 0 then (-1) else (if (if (τ2.1 151 6) = 0 then false else (if (τ2.1 151 8) = (τ2.1 151 7) then true else false : Bool) : Bool) = false then τ2.1 151 8 else (-1) : Int32) : Int32) = w0 → PW x G 2 50 [(0, .ref (G.1 + 0)), (1, .int v1)] [.int w0] τ2 := by
    rintro _ rfl
    exact pw_iret C hT dX7_sticks_50 h
  clear h
  refine pw_if_eq (tgt := 49) C dX7_sticks_26 (by decide) (fun q1 => ?_) (fun q1 => ?_)
  · refine pw_iconst (v := (-1)) C dX7_sticks_49 (by decide) ?_
    exact hJ (-1) (if_pos q1)
  · refine pw_aload_n C dX7_sticks_29 rfl 0 rfl ?_
    refine pw_getr C dX7_sticks_30 gf_RX7_44 gk_0.1 gk_0.2 rfl ?_
    refine pw_callV C dX7_sticks_33 (k_X0_isComplete  τ2 ) gm_X0_isComplete gl_RX7_229 rfl hR (by decide) (by decide) (by decide) rfl gk_151.1 gk_151.2 rfl (Nat.le_of_ble_eq_true rfl) ?_
    rintro _ _ ⟨_, rfl, rfl, rfl⟩
    show PW x G 2 36 [(0, .ref (G.1 + 0)), (1, .int v1)] [.int (gz (if (τ2.1 151 6) = 0 then false else (if (τ2.1 151 8) = (τ2.1 151 7) then true else false : Bool) : Bool))] τ2
    refine pw_z_ne (tgt := 49) C dX7_sticks_36 (by decide) (fun q2 => ?_) (fun q2 => ?_)
    · refine pw_iconst (v := (-1)) C dX7_sticks_49 (by decide) ?_
      exact hJ (-1) ((if_neg q1).trans (if_neg q2))
    · refine pw_aload_n C dX7_sticks_39 rfl 0 rfl ?_
      refine pw_getr C dX7_sticks_40 gf_RX7_44 gk_0.1 gk_0.2 rfl ?_
      refine pw_getiN C dX7_sticks_43 gf_RX7_252 gk_151.1 gk_151.2 rfl ?_
      refine pw_goto (tgt := 50) C dX7_sticks_46 (by decide) ?_
      exact hJ (τ2.1 151 8) ((if_neg q1).trans (if_pos q2))
set_option maxRecDepth 4000 in
theorem sg_X7_holds_0 {x : gw_X} {G : gw_G} {Φ : Int32 → gw_S → Prop} {K : Nat → gw_S → Prop} (hX : TX x G RX7 cX7_holds 3 K) (C : XC x G RX7 cX7_holds 3 (some .int)) (hR : gw_ok x 7) (hT : RT x G (fi Φ)) (v1 : Int32) (v2 : Int32) (σ : gw_S)
    (h : (¬ (if (if v1 < 0 then false else (if (σ.1 3 4) ≤ v1 then false else true : Bool) : Bool) = false then 1 else 0 : Nat) = 0 → K (if (if v1 < 0 then false else (if (σ.1 3 4) ≤ v1 then false else true : Bool) : Bool) = false then 1 else 0 : Nat) σ) ∧ ((if (if v1 < 0 then false else (if (σ.1 3 4) ≤ v1 then false else true : Bool) : Bool) = false then 1 else 0 : Nat) = 0 → (¬ (if v2 < 0 then 2 else (if v2 ≤ 2 then 0 else 2 : Nat) : Nat) = 0 → K (if v2 < 0 then 2 else (if v2 ≤ 2 then 0 else 2 : Nat) : Nat) σ) ∧ ((if v2 < 0 then 2 else (if v2 ≤ 2 then 0 else 2 : Nat) : Nat) = 0 → ∃ Φ1 : gw_S → Prop, gw_M (xl x) G yX0_follow cX0_follow 5 none 3 [.ref (G.1 + 151), .ref (G.1 + 3), .int v2] σ (fv Φ1) ∧ ∀ (τ2 : gw_S), Φ1 τ2 → ((((τ2.1 151 6) = 0 → True) ∧ (¬ ((τ2.1 151 6) = 0) → vp_in v1 14 ∧ (True))) ∧ (Φ (if (τ2.1 151 6) = 0 then (-1) else τ2.1 166 v1.toNatClampNeg : Int32) τ2))))) : PW x G 3 0 [(0, .ref (G.1 + 0)), (1, .int v1), (2, .int v2)] [] σ := by
  refine pw_aload_n C dX7_holds_0 rfl 0 rfl ?_
  refine pw_getr C dX7_holds_1 gf_RX7_19 gk_0.1 gk_0.2 rfl ?_
  refine pw_iload_n C dX7_holds_4 rfl 1 rfl ?_
  refine pw_callV C dX7_holds_5 (k_X3_wireFault 3 v1 gp_3 σ ) gm_X3_wireFault gl_RX7_169 rfl hR (by decide) (by decide) (by decide) rfl gk_3.1 gk_3.2 rfl (Nat.le_of_ble_eq_true rfl) ?_
  rintro _ _ ⟨_, -, rfl, rfl, rfl⟩
  show PW x G 3 8 [(0, .ref (G.1 + 0)), (1, .int v1), (2, .int v2)] [.ref (G.2.2.2 (if (if v1 < 0 then false else (if (σ.1 3 4) ≤ v1 then false else true : Bool) : Bool) = false then 1 else 0 : Nat))] σ
  refine hX _ _ _ _ _ dX7_holds_8 gl_RX7_66 (by repeat' first | decide | split) h.1 (fun q => ?_)
  replace h := h.2 q
  refine pw_iload_n C dX7_holds_11 rfl 2 rfl ?_
  refine pw_callS C dX7_holds_12 (k_X7_ruleFault v2 σ ) gm_X7_ruleFault gl_RX7_222 rfl hR (by decide) (by decide) rfl (Nat.le_of_ble_eq_true rfl) ?_
  rintro _ _ ⟨_, -, rfl, rfl, rfl⟩
  show PW x G 3 15 [(0, .ref (G.1 + 0)), (1, .int v1), (2, .int v2)] [.ref (G.2.2.2 (if v2 < 0 then 2 else (if v2 ≤ 2 then 0 else 2 : Nat) : Nat))] σ
  refine hX _ _ _ _ _ dX7_holds_15 gl_RX7_66 (by repeat' first | decide | split) h.1 (fun q => ?_)
  replace h := h.2 q
  refine pw_aload_n C dX7_holds_18 rfl 0 rfl ?_
  refine pw_getr C dX7_holds_19 gf_RX7_44 gk_0.1 gk_0.2 rfl ?_
  refine pw_aload_n C dX7_holds_22 rfl 0 rfl ?_
  refine pw_getr C dX7_holds_23 gf_RX7_19 gk_0.1 gk_0.2 rfl ?_
  refine pw_iload_n C dX7_holds_26 rfl 2 rfl ?_
  obtain ⟨Φ1, hM, h⟩ := h
  refine pw_callV C dX7_holds_27 hM gm_X0_follow gl_RX7_225 rfl hR (by decide) (by decide) (by decide) rfl gk_151.1 gk_151.2 rfl (Nat.le_of_ble_eq_true rfl) ?_
  rintro _ τ2 ⟨rfl, hv⟩
  replace h := h τ2 hv
  show PW x G 3 30 [(0, .ref (G.1 + 0)), (1, .int v1), (2, .int v2)] [] τ2
  refine pw_aload_n C dX7_holds_30 rfl 0 rfl ?_
  refine pw_getr C dX7_holds_31 gf_RX7_44 gk_0.1 gk_0.2 rfl ?_
  refine pw_getiN C dX7_holds_34 gf_RX7_248 gk_151.1 gk_151.2 rfl ?_
  obtain ⟨hs, h⟩ := h
  have hJ : ∀ w0 : Int32, (if (τ2.1 151 6) = 0 then (-1) else τ2.1 166 v1.toNatClampNeg : Int32) = w0 → PW x G 3 53 [(0, .ref (G.1 + 0)), (1, .int v1), (2, .int v2)] [.int w0] τ2 := by
    rintro _ rfl
    exact pw_iret C hT dX7_holds_53 h
  clear h
  refine pw_if_eq (tgt := 52) C dX7_holds_37 (by decide) (fun q1 => ?_) (fun q1 => ?_)
  · replace hs := hs.1 q1
    refine pw_iconst (v := (-1)) C dX7_holds_52 (by decide) ?_
    exact hJ (-1) (if_pos q1)
  · replace hs := hs.2 q1
    refine pw_aload_n C dX7_holds_40 rfl 0 rfl ?_
    refine pw_getr C dX7_holds_41 gf_RX7_44 gk_0.1 gk_0.2 rfl ?_
    refine pw_getrN C dX7_holds_44 gf_RX7_255 gk_151.1 gk_151.2 rfl ?_
    refine pw_iload_n C dX7_holds_47 rfl 1 rfl ?_
    obtain ⟨g3, hs⟩ := hs
    refine pw_iald C dX7_holds_48 gk_166.1 gk_166.2 g3 ?_
    refine pw_goto (tgt := 53) C dX7_holds_49 (by decide) ?_
    exact hJ (τ2.1 166 v1.toNatClampNeg) (if_neg q1)
set_option maxRecDepth 4000 in
theorem sg_X7_bestRule_0 {x : gw_X} {G : gw_G} {Φ : Int32 → gw_S → Prop} (C : XC x G RX7 cX7_bestRule 4 (some .int)) (hR : gw_ok x 4) (hT : RT x G (fi Φ))  (σ : gw_S)
    (h : PW x G 4 6 [(0, .ref (G.1 + 0)), (1, .int (-1)), (2, .int 0), (3, .int 0)] [] σ) : PW x G 4 0 [(0, .ref (G.1 + 0))] [] σ := by
  refine pw_iconst (v := (-1)) C dX7_bestRule_0 (by decide) ?_
  refine pw_istore_n C dX7_bestRule_1 rfl (by decide) rfl ?_
  refine pw_iconst (v := 0) C dX7_bestRule_2 (by decide) ?_
  refine pw_istore_n C dX7_bestRule_3 rfl (by decide) rfl ?_
  refine pw_iconst (v := 0) C dX7_bestRule_4 (by decide) ?_
  refine pw_istore_n C dX7_bestRule_5 rfl (by decide) rfl ?_
  exact pw_sub [3, 2, 1, 0] rfl h
set_option maxRecDepth 4000 in
theorem sg_X7_bestRule_6 {x : gw_X} {G : gw_G} {Φ : Int32 → gw_S → Prop} (C : XC x G RX7 cX7_bestRule 4 (some .int)) (hR : gw_ok x 4) (hT : RT x G (fi Φ)) (v1 : Int32) (v2 : Int32) (v3 : Int32) (σ : gw_S)
    (h : (3 ≤ v3 → Φ v1 σ) ∧ (¬ (3 ≤ v3) → ∃ Φ1 : gw_S → Prop, gw_M (xl x) G yX0_follow cX0_follow 5 none 3 [.ref (G.1 + 151), .ref (G.1 + 3), .int v3] σ (fv Φ1) ∧ ∀ (τ2 : gw_S), Φ1 τ2 → (((if (τ2.1 151 6) = 0 then false else (if (τ2.1 151 8) = (τ2.1 151 7) then true else false : Bool) : Bool) = false → PW x G 4 6 [(0, .ref (G.1 + 0)), (1, .int v1), (2, .int v2), (3, .int (v3 + 1))] [] τ2) ∧ (¬ ((if (τ2.1 151 6) = 0 then false else (if (τ2.1 151 8) = (τ2.1 151 7) then true else false : Bool) : Bool) = false) → (v1 = (-1) → ∃ Φ3 : Int32 → gw_S → Prop, gw_M (xl x) G yX0_allMost cX0_allMost 3 (some .int) 0 [.ref (G.1 + 151)] τ2 (fi Φ3) ∧ ∀ (r5 : Int32) (τ4 : gw_S), Φ3 r5 τ4 → (PW x G 4 6 [(0, .ref (G.1 + 0)), (1, .int v3), (2, .int r5), (3, .int (v3 + 1))] [] τ4)) ∧ (¬ (v1 = (-1)) → ∃ Φ6 : Int32 → gw_S → Prop, gw_M (xl x) G yX0_allMost cX0_allMost 3 (some .int) 0 [.ref (G.1 + 151)] τ2 (fi Φ6) ∧ ∀ (r8 : Int32) (τ7 : gw_S), Φ6 r8 τ7 → ((v2 ≤ r8 → PW x G 4 6 [(0, .ref (G.1 + 0)), (1, .int v1), (2, .int v2), (3, .int (v3 + 1))] [] τ7) ∧ (¬ (v2 ≤ r8) → ∃ Φ9 : Int32 → gw_S → Prop, gw_M (xl x) G yX0_allMost cX0_allMost 3 (some .int) 0 [.ref (G.1 + 151)] τ7 (fi Φ9) ∧ ∀ (r11 : Int32) (τ10 : gw_S), Φ9 r11 τ10 → (PW x G 4 6 [(0, .ref (G.1 + 0)), (1, .int v3), (2, .int r11), (3, .int (v3 + 1))] [] τ10)))))))) : PW x G 4 6 [(0, .ref (G.1 + 0)), (1, .int v1), (2, .int v2), (3, .int v3)] [] σ := by
  refine pw_iload_n C dX7_bestRule_6 rfl 3 rfl ?_
  refine pw_iconst (v := 3) C dX7_bestRule_7 (by decide) ?_
  refine pw_icmp_ge (tgt := 65) C dX7_bestRule_8 (by decide) (fun q => ?_) (fun q => ?_)
  · replace h := h.1 q
    refine pw_iload_n C dX7_bestRule_65 rfl 1 rfl ?_
    exact pw_iret C hT dX7_bestRule_66 h
  · replace h := h.2 q
    refine pw_aload_n C dX7_bestRule_11 rfl 0 rfl ?_
    refine pw_getr C dX7_bestRule_12 gf_RX7_44 gk_0.1 gk_0.2 rfl ?_
    refine pw_aload_n C dX7_bestRule_15 rfl 0 rfl ?_
    refine pw_getr C dX7_bestRule_16 gf_RX7_19 gk_0.1 gk_0.2 rfl ?_
    refine pw_iload_n C dX7_bestRule_19 rfl 3 rfl ?_
    obtain ⟨Φ1, hM, h⟩ := h
    refine pw_callV C dX7_bestRule_20 hM gm_X0_follow gl_RX7_225 rfl hR (by decide) (by decide) (by decide) rfl gk_151.1 gk_151.2 rfl (Nat.le_of_ble_eq_true rfl) ?_
    rintro _ τ2 ⟨rfl, hv⟩
    replace h := h τ2 hv
    show PW x G 4 23 [(0, .ref (G.1 + 0)), (1, .int v1), (2, .int v2), (3, .int v3)] [] τ2
    refine pw_aload_n C dX7_bestRule_23 rfl 0 rfl ?_
    refine pw_getr C dX7_bestRule_24 gf_RX7_44 gk_0.1 gk_0.2 rfl ?_
    refine pw_callV C dX7_bestRule_27 (k_X0_isComplete  τ2 ) gm_X0_isComplete gl_RX7_229 rfl hR (by decide) (by decide) (by decide) rfl gk_151.1 gk_151.2 rfl (Nat.le_of_ble_eq_true rfl) ?_
    rintro _ _ ⟨_, rfl, rfl, rfl⟩
    show PW x G 4 30 [(0, .ref (G.1 + 0)), (1, .int v1), (2, .int v2), (3, .int v3)] [.int (gz (if (τ2.1 151 6) = 0 then false else (if (τ2.1 151 8) = (τ2.1 151 7) then true else false : Bool) : Bool))] τ2
    refine pw_z_eq (tgt := 59) C dX7_bestRule_30 (by decide) (fun q => ?_) (fun q => ?_)
    · replace h := h.1 q
      refine pw_iinc (v := (v3 + 1)) (j := 3) C dX7_bestRule_59 rfl rfl (by decide) rfl ?_
      refine pw_goto (tgt := 6) C dX7_bestRule_62 (by decide) ?_
      exact pw_sub [1, 2, 3, 0] rfl h
    · replace h := h.2 q
      refine pw_iload_n C dX7_bestRule_33 rfl 1 rfl ?_
      refine pw_iconst (v := (-1)) C dX7_bestRule_34 (by decide) ?_
      refine pw_icmp_eq (tgt := 49) C dX7_bestRule_35 (by decide) (fun q => ?_) (fun q => ?_)
      · replace h := h.1 q
        refine pw_iload_n C dX7_bestRule_49 rfl 3 rfl ?_
        refine pw_istore_n C dX7_bestRule_50 rfl (by decide) rfl ?_
        refine pw_aload_n C dX7_bestRule_51 rfl 1 rfl ?_
        refine pw_getr C dX7_bestRule_52 gf_RX7_44 gk_0.1 gk_0.2 rfl ?_
        obtain ⟨Φ3, hM, h⟩ := h
        refine pw_callV C dX7_bestRule_55 hM gm_X0_allMost gl_RX7_258 rfl hR (by decide) (by decide) (by decide) rfl gk_151.1 gk_151.2 rfl (Nat.le_of_ble_eq_true rfl) ?_
        rintro _ τ4 ⟨r5, rfl, hv⟩
        replace h := h r5 τ4 hv
        show PW x G 4 58 [(1, .int v3), (0, .ref (G.1 + 0)), (2, .int v2), (3, .int v3)] [.int r5] τ4
        refine pw_istore_n C dX7_bestRule_58 rfl (by decide) rfl ?_
        refine pw_iinc (v := (v3 + 1)) (j := 3) C dX7_bestRule_59 rfl rfl (by decide) rfl ?_
        refine pw_goto (tgt := 6) C dX7_bestRule_62 (by decide) ?_
        exact pw_sub [3, 2, 1, 0] rfl h
      · replace h := h.2 q
        refine pw_aload_n C dX7_bestRule_38 rfl 0 rfl ?_
        refine pw_getr C dX7_bestRule_39 gf_RX7_44 gk_0.1 gk_0.2 rfl ?_
        obtain ⟨Φ6, hM, h⟩ := h
        refine pw_callV C dX7_bestRule_42 hM gm_X0_allMost gl_RX7_258 rfl hR (by decide) (by decide) (by decide) rfl gk_151.1 gk_151.2 rfl (Nat.le_of_ble_eq_true rfl) ?_
        rintro _ τ7 ⟨r8, rfl, hv⟩
        replace h := h r8 τ7 hv
        show PW x G 4 45 [(0, .ref (G.1 + 0)), (1, .int v1), (2, .int v2), (3, .int v3)] [.int r8] τ7
        refine pw_iload_n C dX7_bestRule_45 rfl 2 rfl ?_
        refine pw_icmp_ge (tgt := 59) C dX7_bestRule_46 (by decide) (fun q => ?_) (fun q => ?_)
        · replace h := h.1 q
          refine pw_iinc (v := (v3 + 1)) (j := 3) C dX7_bestRule_59 rfl rfl (by decide) rfl ?_
          refine pw_goto (tgt := 6) C dX7_bestRule_62 (by decide) ?_
          exact pw_sub [1, 2, 3, 0] rfl h
        · replace h := h.2 q
          refine pw_iload_n C dX7_bestRule_49 rfl 3 rfl ?_
          refine pw_istore_n C dX7_bestRule_50 rfl (by decide) rfl ?_
          refine pw_aload_n C dX7_bestRule_51 rfl 1 rfl ?_
          refine pw_getr C dX7_bestRule_52 gf_RX7_44 gk_0.1 gk_0.2 rfl ?_
          obtain ⟨Φ9, hM, h⟩ := h
          refine pw_callV C dX7_bestRule_55 hM gm_X0_allMost gl_RX7_258 rfl hR (by decide) (by decide) (by decide) rfl gk_151.1 gk_151.2 rfl (Nat.le_of_ble_eq_true rfl) ?_
          rintro _ τ10 ⟨r11, rfl, hv⟩
          replace h := h r11 τ10 hv
          show PW x G 4 58 [(1, .int v3), (0, .ref (G.1 + 0)), (2, .int v2), (3, .int v3)] [.int r11] τ10
          refine pw_istore_n C dX7_bestRule_58 rfl (by decide) rfl ?_
          refine pw_iinc (v := (v3 + 1)) (j := 3) C dX7_bestRule_59 rfl rfl (by decide) rfl ?_
          refine pw_goto (tgt := 6) C dX7_bestRule_62 (by decide) ?_
          exact pw_sub [3, 2, 1, 0] rfl h
set_option maxRecDepth 4000 in
theorem sg_X7_fewest_0 {x : gw_X} {G : gw_G} {Φ : Int32 → gw_S → Prop} {K : Nat → gw_S → Prop} (hX : TX x G RX7 cX7_fewest 6 K) (C : XC x G RX7 cX7_fewest 6 (some .int)) (hR : gw_ok x 7) (hT : RT x G (fi Φ)) (v1 : Int32) (σ : gw_S)
    (h : (¬ (if (if v1 < 0 then false else (if (σ.1 3 4) ≤ v1 then false else true : Bool) : Bool) = false then 1 else 0 : Nat) = 0 → K (if (if v1 < 0 then false else (if (σ.1 3 4) ≤ v1 then false else true : Bool) : Bool) = false then 1 else 0 : Nat) σ) ∧ ((if (if v1 < 0 then false else (if (σ.1 3 4) ≤ v1 then false else true : Bool) : Bool) = false then 1 else 0 : Nat) = 0 → ∃ Φ1 : gw_S → Prop, gw_M (xl x) G yX3_become cX3_become 2 none 1 [.ref (G.1 + 142), .ref (G.1 + 3)] σ (fv Φ1) ∧ ∀ (τ2 : gw_S), Φ1 τ2 → (∃ Φ3 : Bool → gw_S → Prop, gw_M (xl x) G yX7_isCompleteWith cX7_isCompleteWith 3 (some .boolean) 4 [.ref (G.1 + 0), .int v1, .int 99] τ2 (fz Φ3) ∧ ∀ (r5 : Bool) (τ4 : gw_S), Φ3 r5 τ4 → ((¬ (r5 = false) → PW x G 6 42 [(0, .ref (G.1 + 0)), (1, .int v1), (2, .int 0), (3, .int 99), (4, .int 0)] [] τ4) ∧ (r5 = false → Φ (-1) τ4))))) : PW x G 6 0 [(0, .ref (G.1 + 0)), (1, .int v1)] [] σ := by
  refine pw_aload_n C dX7_fewest_0 rfl 0 rfl ?_
  refine pw_getr C dX7_fewest_1 gf_RX7_19 gk_0.1 gk_0.2 rfl ?_
  refine pw_iload_n C dX7_fewest_4 rfl 1 rfl ?_
  refine pw_callV C dX7_fewest_5 (k_X3_wireFault 3 v1 gp_3 σ ) gm_X3_wireFault gl_RX7_169 rfl hR (by decide) (by decide) (by decide) rfl gk_3.1 gk_3.2 rfl (Nat.le_of_ble_eq_true rfl) ?_
  rintro _ _ ⟨_, -, rfl, rfl, rfl⟩
  show PW x G 6 8 [(0, .ref (G.1 + 0)), (1, .int v1)] [.ref (G.2.2.2 (if (if v1 < 0 then false else (if (σ.1 3 4) ≤ v1 then false else true : Bool) : Bool) = false then 1 else 0 : Nat))] σ
  refine hX _ _ _ _ _ dX7_fewest_8 gl_RX7_66 (by repeat' first | decide | split) h.1 (fun q => ?_)
  replace h := h.2 q
  refine pw_aload_n C dX7_fewest_11 rfl 0 rfl ?_
  refine pw_getr C dX7_fewest_12 gf_RX7_38 gk_0.1 gk_0.2 rfl ?_
  refine pw_aload_n C dX7_fewest_15 rfl 0 rfl ?_
  refine pw_getr C dX7_fewest_16 gf_RX7_19 gk_0.1 gk_0.2 rfl ?_
  obtain ⟨Φ1, hM, h⟩ := h
  refine pw_callV C dX7_fewest_19 hM gm_X3_become gl_RX7_261 rfl hR (by decide) (by decide) (by decide) rfl gk_142.1 gk_142.2 rfl (Nat.le_of_ble_eq_true rfl) ?_
  rintro _ τ2 ⟨rfl, hv⟩
  replace h := h τ2 hv
  show PW x G 6 22 [(0, .ref (G.1 + 0)), (1, .int v1)] [] τ2
  refine pw_aload_n C dX7_fewest_22 rfl 0 rfl ?_
  refine pw_iload_n C dX7_fewest_23 rfl 1 rfl ?_
  refine pw_bipush (v := 99) C dX7_fewest_24 (by decide) ?_
  obtain ⟨Φ3, hM, h⟩ := h
  refine pw_callV C dX7_fewest_26 hM gm_X7_isCompleteWith gl_RX7_264 rfl hR (by decide) (by decide) (by decide) rfl gk_0.1 gk_0.2 rfl (Nat.le_of_ble_eq_true rfl) ?_
  rintro _ τ4 ⟨r5, rfl, hv⟩
  replace h := h r5 τ4 hv
  show PW x G 6 29 [(0, .ref (G.1 + 0)), (1, .int v1)] [.int (gz r5)] τ4
  refine pw_z_ne (tgt := 34) C dX7_fewest_29 (by decide) (fun q => ?_) (fun q => ?_)
  · replace h := h.1 q
    refine pw_iconst (v := 0) C dX7_fewest_34 (by decide) ?_
    refine pw_istore_n C dX7_fewest_35 rfl (by decide) rfl ?_
    refine pw_bipush (v := 99) C dX7_fewest_36 (by decide) ?_
    refine pw_istore_n C dX7_fewest_38 rfl (by decide) rfl ?_
    refine pw_iconst (v := 0) C dX7_fewest_39 (by decide) ?_
    refine pw_istore C dX7_fewest_40 (by decide) rfl ?_
    exact pw_sub [3, 4, 2, 1, 0] rfl h
  · replace h := h.2 q
    refine pw_iconst (v := (-1)) C dX7_fewest_32 (by decide) ?_
    exact pw_iret C hT dX7_fewest_33 h
set_option maxRecDepth 4000 in
theorem sg_X7_fewest_42 {x : gw_X} {G : gw_G} {Φ : Int32 → gw_S → Prop} {K : Nat → gw_S → Prop} (hX : TX x G RX7 cX7_fewest 6 K) (C : XC x G RX7 cX7_fewest 6 (some .int)) (hR : gw_ok x 7) (hT : RT x G (fi Φ)) (v1 : Int32) (v2 : Int32) (v3 : Int32) (v4 : Int32) (σ : gw_S)
    (h : (99 ≤ v4 → Φ v2 σ) ∧ (¬ (99 ≤ v4) → (v3 ≤ v2 → Φ v2 σ) ∧ (¬ (v3 ≤ v2) → ∃ Φ1 : Bool → gw_S → Prop, gw_M (xl x) G yX7_isCompleteWith cX7_isCompleteWith 3 (some .boolean) 4 [.ref (G.1 + 0), .int v1, .int ((v2 + v3) / 2)] σ (fz Φ1) ∧ ∀ (r3 : Bool) (τ2 : gw_S), Φ1 r3 τ2 → (PW x G 6 42 [(0, .ref (G.1 + 0)), (1, .int v1), (2, .int (if r3 = false then ((v2 + v3) / 2) + 1 else v2 : Int32)), (3, .int (if r3 = false then v3 else (v2 + v3) / 2 : Int32)), (4, .int (v4 + 1))] [] τ2)))) : PW x G 6 42 [(0, .ref (G.1 + 0)), (1, .int v1), (2, .int v2), (3, .int v3), (4, .int v4)] [] σ := by
  refine pw_iload C dX7_fewest_42 4 rfl ?_
  refine pw_bipush (v := 99) C dX7_fewest_44 (by decide) ?_
  refine pw_icmp_ge (tgt := 88) C dX7_fewest_46 (by decide) (fun q => ?_) (fun q => ?_)
  · replace h := h.1 q
    refine pw_iload_n C dX7_fewest_88 rfl 2 rfl ?_
    exact pw_iret C hT dX7_fewest_89 h
  · replace h := h.2 q
    refine pw_iload_n C dX7_fewest_49 rfl 2 rfl ?_
    refine pw_iload_n C dX7_fewest_50 rfl 3 rfl ?_
    refine pw_icmp_ge (tgt := 88) C dX7_fewest_51 (by decide) (fun q => ?_) (fun q => ?_)
    · replace h := h.1 q
      refine pw_iload_n C dX7_fewest_88 rfl 2 rfl ?_
      exact pw_iret C hT dX7_fewest_89 h
    · replace h := h.2 q
      refine pw_iload_n C dX7_fewest_54 rfl 2 rfl ?_
      refine pw_iload_n C dX7_fewest_55 rfl 3 rfl ?_
      refine pw_iadd C dX7_fewest_56 ?_
      refine pw_iconst (v := 2) C dX7_fewest_57 (by decide) ?_
      refine pw_idiv C dX7_fewest_58 (by decide) ?_
      refine pw_istore C dX7_fewest_59 (by decide) rfl ?_
      refine pw_aload_n C dX7_fewest_61 rfl 1 rfl ?_
      refine pw_iload_n C dX7_fewest_62 rfl 2 rfl ?_
      refine pw_iload C dX7_fewest_63 0 rfl ?_
      obtain ⟨Φ1, hM, h⟩ := h
      refine pw_callV C dX7_fewest_65 hM gm_X7_isCompleteWith gl_RX7_264 rfl hR (by decide) (by decide) (by decide) rfl gk_0.1 gk_0.2 rfl (Nat.le_of_ble_eq_true rfl) ?_
      rintro _ τ2 ⟨r3, rfl, hv⟩
      replace h := h r3 τ2 hv
      show PW x G 6 68 [(5, .int ((v2 + v3) / 2)), (0, .ref (G.1 + 0)), (1, .int v1), (2, .int v2), (3, .int v3), (4, .int v4)] [.int (gz r3)] τ2
      have hJ : ∀ w0 : Int32, ∀ w1 : Int32, (if r3 = false then ((v2 + v3) / 2) + 1 else v2 : Int32) = w0 → (if r3 = false then v3 else (v2 + v3) / 2 : Int32) = w1 → PW x G 6 82 [(2, .int w0), (5, .int ((v2 + v3) / 2)), (0, .ref (G.1 + 0)), (1, .int v1), (3, .int w1), (4, .int v4)] [] τ2 := by
        rintro _ _ rfl rfl
        refine pw_iinc (v := (v4 + 1)) (j := 5) C dX7_fewest_82 rfl rfl (by decide) rfl ?_
        refine pw_goto (tgt := 42) C dX7_fewest_85 (by decide) ?_
        exact pw_sub [3, 4, 1, 5, 0] rfl h
      clear h
      refine pw_z_eq (tgt := 77) C dX7_fewest_68 (by decide) (fun q3 => ?_) (fun q3 => ?_)
      · refine pw_iload C dX7_fewest_77 0 rfl ?_
        refine pw_iconst (v := 1) C dX7_fewest_79 (by decide) ?_
        refine pw_iadd C dX7_fewest_80 ?_
        refine pw_istore_n C dX7_fewest_81 rfl (by decide) rfl ?_
        exact hJ (((v2 + v3) / 2) + 1) v3 (if_pos q3) (if_pos q3)
      · refine pw_iload C dX7_fewest_71 0 rfl ?_
        refine pw_istore_n C dX7_fewest_73 rfl (by decide) rfl ?_
        refine pw_goto (tgt := 82) C dX7_fewest_74 (by decide) ?_
        exact pw_sub [4, 1, 2, 3, 0, 5] rfl (hJ v2 ((v2 + v3) / 2) (if_neg q3) (if_neg q3))
set_option maxRecDepth 4000 in
theorem sg_X7_agrees_0 {x : gw_X} {G : gw_G} {Φ : Int32 → gw_S → Prop} {K : Nat → gw_S → Prop} (hX : TX x G RX7 cX7_agrees 4 K) (C : XC x G RX7 cX7_agrees 4 (some .int)) (hR : gw_ok x 7) (hT : RT x G (fi Φ)) (v1 : Int32) (v2 : Int32) (σ : gw_S)
    (h : (¬ (if (if v1 < 0 then false else (if (σ.1 3 4) ≤ v1 then false else true : Bool) : Bool) = false then 1 else 0 : Nat) = 0 → K (if (if v1 < 0 then false else (if (σ.1 3 4) ≤ v1 then false else true : Bool) : Bool) = false then 1 else 0 : Nat) σ) ∧ ((if (if v1 < 0 then false else (if (σ.1 3 4) ≤ v1 then false else true : Bool) : Bool) = false then 1 else 0 : Nat) = 0 → (¬ (if v2 < 1 then 2 else (if v2 ≤ 6 then 0 else 2 : Nat) : Nat) = 0 → K (if v2 < 1 then 2 else (if v2 ≤ 6 then 0 else 2 : Nat) : Nat) σ) ∧ ((if v2 < 1 then 2 else (if v2 ≤ 6 then 0 else 2 : Nat) : Nat) = 0 → ∃ Φ1 : gw_S → Prop, gw_M (xl x) G yX3_become cX3_become 2 none 1 [.ref (G.1 + 142), .ref (G.1 + 3)] σ (fv Φ1) ∧ ∀ (τ2 : gw_S), Φ1 τ2 → (PW x G 4 34 [(0, .ref (G.1 + 0)), (1, .int v1), (2, .int v2), (3, .int 1)] [] τ2)))) : PW x G 4 0 [(0, .ref (G.1 + 0)), (1, .int v1), (2, .int v2)] [] σ := by
  refine pw_aload_n C dX7_agrees_0 rfl 0 rfl ?_
  refine pw_getr C dX7_agrees_1 gf_RX7_19 gk_0.1 gk_0.2 rfl ?_
  refine pw_iload_n C dX7_agrees_4 rfl 1 rfl ?_
  refine pw_callV C dX7_agrees_5 (k_X3_wireFault 3 v1 gp_3 σ ) gm_X3_wireFault gl_RX7_169 rfl hR (by decide) (by decide) (by decide) rfl gk_3.1 gk_3.2 rfl (Nat.le_of_ble_eq_true rfl) ?_
  rintro _ _ ⟨_, -, rfl, rfl, rfl⟩
  show PW x G 4 8 [(0, .ref (G.1 + 0)), (1, .int v1), (2, .int v2)] [.ref (G.2.2.2 (if (if v1 < 0 then false else (if (σ.1 3 4) ≤ v1 then false else true : Bool) : Bool) = false then 1 else 0 : Nat))] σ
  refine hX _ _ _ _ _ dX7_agrees_8 gl_RX7_66 (by repeat' first | decide | split) h.1 (fun q => ?_)
  replace h := h.2 q
  refine pw_iload_n C dX7_agrees_11 rfl 2 rfl ?_
  refine pw_iconst (v := 1) C dX7_agrees_12 (by decide) ?_
  refine pw_bipush (v := 6) C dX7_agrees_13 (by decide) ?_
  refine pw_callS C dX7_agrees_15 (k_X7_range v2 1 6 σ ) gm_X7_range gl_RX7_62 rfl hR (by decide) (by decide) rfl (Nat.le_of_ble_eq_true rfl) ?_
  rintro _ _ ⟨_, -, rfl, rfl, rfl⟩
  show PW x G 4 18 [(0, .ref (G.1 + 0)), (1, .int v1), (2, .int v2)] [.ref (G.2.2.2 (if v2 < 1 then 2 else (if v2 ≤ 6 then 0 else 2 : Nat) : Nat))] σ
  refine hX _ _ _ _ _ dX7_agrees_18 gl_RX7_66 (by repeat' first | decide | split) h.1 (fun q => ?_)
  replace h := h.2 q
  refine pw_aload_n C dX7_agrees_21 rfl 0 rfl ?_
  refine pw_getr C dX7_agrees_22 gf_RX7_38 gk_0.1 gk_0.2 rfl ?_
  refine pw_aload_n C dX7_agrees_25 rfl 0 rfl ?_
  refine pw_getr C dX7_agrees_26 gf_RX7_19 gk_0.1 gk_0.2 rfl ?_
  obtain ⟨Φ1, hM, h⟩ := h
  refine pw_callV C dX7_agrees_29 hM gm_X3_become gl_RX7_261 rfl hR (by decide) (by decide) (by decide) rfl gk_142.1 gk_142.2 rfl (Nat.le_of_ble_eq_true rfl) ?_
  rintro _ τ2 ⟨rfl, hv⟩
  replace h := h τ2 hv
  show PW x G 4 32 [(0, .ref (G.1 + 0)), (1, .int v1), (2, .int v2)] [] τ2
  refine pw_iconst (v := 1) C dX7_agrees_32 (by decide) ?_
  refine pw_istore_n C dX7_agrees_33 rfl (by decide) rfl ?_
  exact pw_sub [1, 2, 3, 0] rfl h
set_option maxRecDepth 4000 in
theorem sg_X7_agrees_34 {x : gw_X} {G : gw_G} {Φ : Int32 → gw_S → Prop} {K : Nat → gw_S → Prop} (hX : TX x G RX7 cX7_agrees 4 K) (C : XC x G RX7 cX7_agrees 4 (some .int)) (hR : gw_ok x 7) (hT : RT x G (fi Φ)) (v1 : Int32) (v2 : Int32) (v3 : Int32) (σ : gw_S)
    (h : (6 < v3 → Φ (-1) σ) ∧ (¬ (6 < v3) → vp_in v1 14 ∧ (∀ τ2 : gw_S, τ2 = gw_u σ 148 v1.toNatClampNeg v2 → (∀ τ3 : gw_S, τ3 = gw_u τ2 149 v1.toNatClampNeg v3 → (∃ Φ4 : Bool → gw_S → Prop, gw_M (xl x) G yX4_agreeIn cX4_agreeIn 3 (some .boolean) 2 [.ref (G.1 + 167), .ref (G.1 + 142)] τ3 (fz Φ4) ∧ ∀ (r6 : Bool) (τ5 : gw_S), Φ4 r6 τ5 → ((r6 = false → PW x G 4 34 [(0, .ref (G.1 + 0)), (1, .int v1), (2, .int v2), (3, .int (v3 + 1))] [] τ5) ∧ (¬ (r6 = false) → Φ v3 τ5))))))) : PW x G 4 34 [(0, .ref (G.1 + 0)), (1, .int v1), (2, .int v2), (3, .int v3)] [] σ := by
  refine pw_iload_n C dX7_agrees_34 rfl 3 rfl ?_
  refine pw_bipush (v := 6) C dX7_agrees_35 (by decide) ?_
  refine pw_icmp_gt (tgt := 82) C dX7_agrees_37 (by decide) (fun q => ?_) (fun q => ?_)
  · replace h := h.1 q
    refine pw_iconst (v := (-1)) C dX7_agrees_82 (by decide) ?_
    exact pw_iret C hT dX7_agrees_83 h
  · replace h := h.2 q
    refine pw_aload_n C dX7_agrees_40 rfl 0 rfl ?_
    refine pw_getr C dX7_agrees_41 gf_RX7_38 gk_0.1 gk_0.2 rfl ?_
    refine pw_getrN C dX7_agrees_44 gf_RX7_172 gk_142.1 gk_142.2 rfl ?_
    refine pw_iload_n C dX7_agrees_47 rfl 1 rfl ?_
    refine pw_iload_n C dX7_agrees_48 rfl 2 rfl ?_
    obtain ⟨g1, h⟩ := h
    refine pw_iast C dX7_agrees_49 gk_148.1 gk_148.2 g1 ?_
    generalize hτ2 : gw_u σ 148 v1.toNatClampNeg v2 = τ2
    replace h := h τ2 hτ2.symm
    show PW x G 4 50 [(0, .ref (G.1 + 0)), (1, .int v1), (2, .int v2), (3, .int v3)] [] τ2
    refine pw_aload_n C dX7_agrees_50 rfl 0 rfl ?_
    refine pw_getr C dX7_agrees_51 gf_RX7_38 gk_0.1 gk_0.2 rfl ?_
    refine pw_getrN C dX7_agrees_54 gf_RX7_175 gk_142.1 gk_142.2 rfl ?_
    refine pw_iload_n C dX7_agrees_57 rfl 1 rfl ?_
    refine pw_iload_n C dX7_agrees_58 rfl 3 rfl ?_
    refine pw_iast C dX7_agrees_59 gk_149.1 gk_149.2 g1 ?_
    generalize hτ3 : gw_u τ2 149 v1.toNatClampNeg v3 = τ3
    replace h := h τ3 hτ3.symm
    show PW x G 4 60 [(0, .ref (G.1 + 0)), (1, .int v1), (2, .int v2), (3, .int v3)] [] τ3
    refine pw_aload_n C dX7_agrees_60 rfl 0 rfl ?_
    refine pw_getr C dX7_agrees_61 gf_RX7_51 gk_0.1 gk_0.2 rfl ?_
    refine pw_aload_n C dX7_agrees_64 rfl 0 rfl ?_
    refine pw_getr C dX7_agrees_65 gf_RX7_38 gk_0.1 gk_0.2 rfl ?_
    obtain ⟨Φ4, hM, h⟩ := h
    refine pw_callV C dX7_agrees_68 hM gm_X4_agreeIn gl_RX7_126 rfl hR (by decide) (by decide) (by decide) rfl gk_167.1 gk_167.2 rfl (Nat.le_of_ble_eq_true rfl) ?_
    rintro _ τ5 ⟨r6, rfl, hv⟩
    replace h := h r6 τ5 hv
    show PW x G 4 71 [(0, .ref (G.1 + 0)), (1, .int v1), (2, .int v2), (3, .int v3)] [.int (gz r6)] τ5
    refine pw_z_eq (tgt := 76) C dX7_agrees_71 (by decide) (fun q => ?_) (fun q => ?_)
    · replace h := h.1 q
      refine pw_iinc (v := (v3 + 1)) (j := 3) C dX7_agrees_76 rfl rfl (by decide) rfl ?_
      refine pw_goto (tgt := 34) C dX7_agrees_79 (by decide) ?_
      exact pw_sub [1, 2, 3, 0] rfl h
    · replace h := h.2 q
      refine pw_iload_n C dX7_agrees_74 rfl 3 rfl ?_
      exact pw_iret C hT dX7_agrees_75 h
set_option maxRecDepth 4000 in
theorem sg_X7_runScript_0 {x : gw_X} {G : gw_G} {Φ : Int32 → gw_S → Prop} {K : Nat → gw_S → Prop} (hX : TX x G RX7 cX7_runScript 5 K) (C : XC x G RX7 cX7_runScript 5 (some .int)) (hR : gw_ok x 7) (hT : RT x G (fi Φ)) (v1 : Int32) (v2 : Int64) (σ : gw_S)
    (h : (¬ (if v1 < 1 then 2 else (if v1 ≤ 3 then 0 else 2 : Nat) : Nat) = 0 → K (if v1 < 1 then 2 else (if v1 ≤ 3 then 0 else 2 : Nat) : Nat) σ) ∧ ((if v1 < 1 then 2 else (if v1 ≤ 3 then 0 else 2 : Nat) : Nat) = 0 → ((lg_cmp v2 0) < 0 → (¬ 2 = 0 → K 2 σ) ∧ (2 = 0 → ∃ Φ1 : gw_S → Prop, gw_M (xl x) G yX3_become cX3_become 2 none 1 [.ref (G.1 + 142), .ref (G.1 + 3)] σ (fv Φ1) ∧ ∀ (τ2 : gw_S), Φ1 τ2 → (PW x G 5 51 [(0, .ref (G.1 + 0)), (1, .int v1), (2, .long v2), (4, .int 0)] [] τ2))) ∧ (¬ ((lg_cmp v2 0) < 0) → ∃ Φ3 : Int64 → gw_S → Prop, gw_M (xl x) G yX7_withoutGroups cX7_withoutGroups 6 (some .long) 0 [.long v2, .int v1] σ (fl Φ3) ∧ ∀ (r5 : Int64) (τ4 : gw_S), Φ3 r5 τ4 → ((¬ (if (lg_cmp r5 0) ≤ 0 then 0 else 2 : Nat) = 0 → K (if (lg_cmp r5 0) ≤ 0 then 0 else 2 : Nat) τ4) ∧ ((if (lg_cmp r5 0) ≤ 0 then 0 else 2 : Nat) = 0 → ∃ Φ6 : gw_S → Prop, gw_M (xl x) G yX3_become cX3_become 2 none 1 [.ref (G.1 + 142), .ref (G.1 + 3)] τ4 (fv Φ6) ∧ ∀ (τ7 : gw_S), Φ6 τ7 → (PW x G 5 51 [(0, .ref (G.1 + 0)), (1, .int v1), (2, .long v2), (4, .int 0)] [] τ7)))))) : PW x G 5 0 [(0, .ref (G.1 + 0)), (1, .int v1), (2, .long v2)] [] σ := by
  refine pw_iload_n C dX7_runScript_0 rfl 1 rfl ?_
  refine pw_iconst (v := 1) C dX7_runScript_1 (by decide) ?_
  refine pw_iconst (v := 3) C dX7_runScript_2 (by decide) ?_
  refine pw_callS C dX7_runScript_3 (k_X7_range v1 1 3 σ ) gm_X7_range gl_RX7_62 rfl hR (by decide) (by decide) rfl (Nat.le_of_ble_eq_true rfl) ?_
  rintro _ _ ⟨_, -, rfl, rfl, rfl⟩
  show PW x G 5 6 [(0, .ref (G.1 + 0)), (1, .int v1), (2, .long v2)] [.ref (G.2.2.2 (if v1 < 1 then 2 else (if v1 ≤ 3 then 0 else 2 : Nat) : Nat))] σ
  refine hX _ _ _ _ _ dX7_runScript_6 gl_RX7_66 (by repeat' first | decide | split) h.1 (fun q => ?_)
  replace h := h.2 q
  refine pw_lload_n C dX7_runScript_9 rfl 2 rfl ?_
  refine pw_lconst (v := 0) C dX7_runScript_10 (by decide) ?_
  refine pw_lcmp C dX7_runScript_11 ?_
  refine pw_if_lt (tgt := 25) C dX7_runScript_12 (by decide) (fun q => ?_) (fun q => ?_)
  · replace h := h.1 q
    refine pw_gets (i := 2) C dX7_runScript_25 (by decide) gl_RX7_242 ?_
    refine pw_goto (tgt := 34) C dX7_runScript_28 (by decide) ?_
    refine hX _ _ _ _ _ dX7_runScript_34 gl_RX7_66 (by decide) h.1 (fun q => ?_)
    replace h := h.2 q
    refine pw_aload_n C dX7_runScript_37 rfl 0 rfl ?_
    refine pw_getr C dX7_runScript_38 gf_RX7_38 gk_0.1 gk_0.2 rfl ?_
    refine pw_aload_n C dX7_runScript_41 rfl 0 rfl ?_
    refine pw_getr C dX7_runScript_42 gf_RX7_19 gk_0.1 gk_0.2 rfl ?_
    obtain ⟨Φ1, hM, h⟩ := h
    refine pw_callV C dX7_runScript_45 hM gm_X3_become gl_RX7_261 rfl hR (by decide) (by decide) (by decide) rfl gk_142.1 gk_142.2 rfl (Nat.le_of_ble_eq_true rfl) ?_
    rintro _ τ2 ⟨rfl, hv⟩
    replace h := h τ2 hv
    show PW x G 5 48 [(0, .ref (G.1 + 0)), (1, .int v1), (2, .long v2)] [] τ2
    refine pw_iconst (v := 0) C dX7_runScript_48 (by decide) ?_
    refine pw_istore C dX7_runScript_49 (by decide) rfl ?_
    exact pw_sub [1, 2, 3, 0] rfl h
  · replace h := h.2 q
    refine pw_lload_n C dX7_runScript_15 rfl 2 rfl ?_
    refine pw_iload_n C dX7_runScript_16 rfl 1 rfl ?_
    obtain ⟨Φ3, hM, h⟩ := h
    refine pw_callS C dX7_runScript_17 hM gm_X7_withoutGroups gl_RX7_268 rfl hR (by decide) (by decide) rfl (Nat.le_of_ble_eq_true rfl) ?_
    rintro _ τ4 ⟨r5, rfl, hv⟩
    replace h := h r5 τ4 hv
    show PW x G 5 20 [(0, .ref (G.1 + 0)), (1, .int v1), (2, .long v2)] [.long r5] τ4
    refine pw_lconst (v := 0) C dX7_runScript_20 (by decide) ?_
    refine pw_lcmp C dX7_runScript_21 ?_
    have hJ : ∀ w0 : Nat, (if (lg_cmp r5 0) ≤ 0 then 0 else 2 : Nat) = w0 → PW x G 5 34 [(0, .ref (G.1 + 0)), (1, .int v1), (2, .long v2)] [.ref (G.2.2.2 w0)] τ4 := by
      rintro _ rfl
      refine hX _ _ _ _ _ dX7_runScript_34 gl_RX7_66 (by repeat' first | decide | split) h.1 (fun q => ?_)
      replace h := h.2 q
      refine pw_aload_n C dX7_runScript_37 rfl 0 rfl ?_
      refine pw_getr C dX7_runScript_38 gf_RX7_38 gk_0.1 gk_0.2 rfl ?_
      refine pw_aload_n C dX7_runScript_41 rfl 0 rfl ?_
      refine pw_getr C dX7_runScript_42 gf_RX7_19 gk_0.1 gk_0.2 rfl ?_
      obtain ⟨Φ6, hM, h⟩ := h
      refine pw_callV C dX7_runScript_45 hM gm_X3_become gl_RX7_261 rfl hR (by decide) (by decide) (by decide) rfl gk_142.1 gk_142.2 rfl (Nat.le_of_ble_eq_true rfl) ?_
      rintro _ τ7 ⟨rfl, hv⟩
      replace h := h τ7 hv
      show PW x G 5 48 [(0, .ref (G.1 + 0)), (1, .int v1), (2, .long v2)] [] τ7
      refine pw_iconst (v := 0) C dX7_runScript_48 (by decide) ?_
      refine pw_istore C dX7_runScript_49 (by decide) rfl ?_
      exact pw_sub [1, 2, 3, 0] rfl h
    clear h
    refine pw_if_le (tgt := 31) C dX7_runScript_22 (by decide) (fun q2 => ?_) (fun q2 => ?_)
    · refine pw_gets (i := 0) C dX7_runScript_31 (by decide) gl_RX7_80 ?_
      exact hJ 0 (if_pos q2)
    · refine pw_gets (i := 2) C dX7_runScript_25 (by decide) gl_RX7_242 ?_
      refine pw_goto (tgt := 34) C dX7_runScript_28 (by decide) ?_
      exact hJ 2 (if_neg q2)
set_option maxRecDepth 4000 in
theorem sg_X7_runScript_51 {x : gw_X} {G : gw_G} {Φ : Int32 → gw_S → Prop} {K : Nat → gw_S → Prop} (hX : TX x G RX7 cX7_runScript 5 K) (C : XC x G RX7 cX7_runScript 5 (some .int)) (hR : gw_ok x 7) (hT : RT x G (fi Φ)) (v1 : Int32) (v2 : Int64) (v4 : Int32) (σ : gw_S)
    (h : (v1 ≤ v4 → Φ (-1) σ) ∧ (¬ (v1 ≤ v4) → ∃ Φ1 : Int64 → gw_S → Prop, gw_M (xl x) G yX7_withoutGroups cX7_withoutGroups 6 (some .long) 0 [.long v2, .int ((v1 - 1) - v4)] σ (fl Φ1) ∧ ∀ (r3 : Int64) (τ2 : gw_S), Φ1 r3 τ2 → (∃ Φ4 : Bool → gw_S → Prop, gw_M (xl x) G yX7_obeysGroup cX7_obeysGroup 3 (some .boolean) 5 [.ref (G.1 + 0), .int ((r3 - r3 / 1000000 * 1000000).toInt32)] τ2 (fz Φ4) ∧ ∀ (r6 : Bool) (τ5 : gw_S), Φ4 r6 τ5 → ((¬ (r6 = false) → PW x G 5 51 [(0, .ref (G.1 + 0)), (1, .int v1), (2, .long v2), (4, .int (v4 + 1))] [] τ5) ∧ (r6 = false → Φ v4 τ5))))) : PW x G 5 51 [(0, .ref (G.1 + 0)), (1, .int v1), (2, .long v2), (4, .int v4)] [] σ := by
  refine pw_iload C dX7_runScript_51 3 rfl ?_
  refine pw_iload_n C dX7_runScript_53 rfl 1 rfl ?_
  refine pw_icmp_ge (tgt := 88) C dX7_runScript_54 (by decide) (fun q => ?_) (fun q => ?_)
  · replace h := h.1 q
    refine pw_iconst (v := (-1)) C dX7_runScript_88 (by decide) ?_
    exact pw_iret C hT dX7_runScript_89 h
  · replace h := h.2 q
    refine pw_aload_n C dX7_runScript_57 rfl 0 rfl ?_
    refine pw_lload_n C dX7_runScript_58 rfl 2 rfl ?_
    refine pw_iload_n C dX7_runScript_59 rfl 1 rfl ?_
    refine pw_iconst (v := 1) C dX7_runScript_60 (by decide) ?_
    refine pw_isub C dX7_runScript_61 ?_
    refine pw_iload C dX7_runScript_62 3 rfl ?_
    refine pw_isub C dX7_runScript_64 ?_
    obtain ⟨Φ1, hM, h⟩ := h
    refine pw_callS C dX7_runScript_65 hM gm_X7_withoutGroups gl_RX7_268 rfl hR (by decide) (by decide) rfl (Nat.le_of_ble_eq_true rfl) ?_
    rintro _ τ2 ⟨r3, rfl, hv⟩
    replace h := h r3 τ2 hv
    show PW x G 5 68 [(0, .ref (G.1 + 0)), (1, .int v1), (2, .long v2), (4, .int v4)] [.long r3, .ref (G.1 + 0)] τ2
    refine pw_ldc2 C dX7_runScript_68 gl_RX7_272 ?_
    refine pw_lrem C dX7_runScript_71 (by decide) ?_
    refine pw_l2i (v := ((r3 - r3 / 1000000 * 1000000).toInt32)) C dX7_runScript_72 rfl ?_
    obtain ⟨Φ4, hM, h⟩ := h
    refine pw_callV C dX7_runScript_73 hM gm_X7_obeysGroup gl_RX7_274 rfl hR (by decide) (by decide) (by decide) rfl gk_0.1 gk_0.2 rfl (Nat.le_of_ble_eq_true rfl) ?_
    rintro _ τ5 ⟨r6, rfl, hv⟩
    replace h := h r6 τ5 hv
    show PW x G 5 76 [(0, .ref (G.1 + 0)), (1, .int v1), (2, .long v2), (4, .int v4)] [.int (gz r6)] τ5
    refine pw_z_ne (tgt := 82) C dX7_runScript_76 (by decide) (fun q => ?_) (fun q => ?_)
    · replace h := h.1 q
      refine pw_iinc (v := (v4 + 1)) (j := 3) C dX7_runScript_82 rfl rfl (by decide) rfl ?_
      refine pw_goto (tgt := 51) C dX7_runScript_85 (by decide) ?_
      exact pw_sub [1, 2, 3, 0] rfl h
    · replace h := h.2 q
      refine pw_iload C dX7_runScript_79 3 rfl ?_
      exact pw_iret C hT dX7_runScript_81 h
set_option maxRecDepth 4000 in
theorem sg_X7_simulate_0 {x : gw_X} {G : gw_G} {Φ : Int32 → gw_S → Prop} {K : Nat → gw_S → Prop} (hX : TX x G RX7 cX7_simulate 8 K) (C : XC x G RX7 cX7_simulate 8 (some .int)) (hR : gw_ok x 7) (hT : RT x G (fi Φ)) (v1 : Int64) (v3 : Int32) (σ : gw_S)
    (h : (¬ (if v3 < 1 then 2 else (if v3 ≤ 99 then 0 else 2 : Nat) : Nat) = 0 → K (if v3 < 1 then 2 else (if v3 ≤ 99 then 0 else 2 : Nat) : Nat) σ) ∧ ((if v3 < 1 then 2 else (if v3 ≤ 99 then 0 else 2 : Nat) : Nat) = 0 → ∃ Φ1 : gw_S → Prop, gw_M (xl x) G yX3_become cX3_become 2 none 1 [.ref (G.1 + 142), .ref (G.1 + 3)] σ (fv Φ1) ∧ ∀ (τ2 : gw_S), Φ1 τ2 → (PW x G 8 30 [(0, .ref (G.1 + 0)), (1, .long v1), (3, .int v3), (4, .long v1), (6, .int 0), (7, .int 0)] [] τ2))) : PW x G 8 0 [(0, .ref (G.1 + 0)), (1, .long v1), (3, .int v3)] [] σ := by
  refine pw_iload_n C dX7_simulate_0 rfl 2 rfl ?_
  refine pw_iconst (v := 1) C dX7_simulate_1 (by decide) ?_
  refine pw_bipush (v := 99) C dX7_simulate_2 (by decide) ?_
  refine pw_callS C dX7_simulate_4 (k_X7_range v3 1 99 σ ) gm_X7_range gl_RX7_62 rfl hR (by decide) (by decide) rfl (Nat.le_of_ble_eq_true rfl) ?_
  rintro _ _ ⟨_, -, rfl, rfl, rfl⟩
  show PW x G 8 7 [(0, .ref (G.1 + 0)), (1, .long v1), (3, .int v3)] [.ref (G.2.2.2 (if v3 < 1 then 2 else (if v3 ≤ 99 then 0 else 2 : Nat) : Nat))] σ
  refine hX _ _ _ _ _ dX7_simulate_7 gl_RX7_66 (by repeat' first | decide | split) h.1 (fun q => ?_)
  replace h := h.2 q
  refine pw_aload_n C dX7_simulate_10 rfl 0 rfl ?_
  refine pw_getr C dX7_simulate_11 gf_RX7_38 gk_0.1 gk_0.2 rfl ?_
  refine pw_aload_n C dX7_simulate_14 rfl 0 rfl ?_
  refine pw_getr C dX7_simulate_15 gf_RX7_19 gk_0.1 gk_0.2 rfl ?_
  obtain ⟨Φ1, hM, h⟩ := h
  refine pw_callV C dX7_simulate_18 hM gm_X3_become gl_RX7_261 rfl hR (by decide) (by decide) (by decide) rfl gk_142.1 gk_142.2 rfl (Nat.le_of_ble_eq_true rfl) ?_
  rintro _ τ2 ⟨rfl, hv⟩
  replace h := h τ2 hv
  show PW x G 8 21 [(0, .ref (G.1 + 0)), (1, .long v1), (3, .int v3)] [] τ2
  refine pw_lload_n C dX7_simulate_21 rfl 1 rfl ?_
  refine pw_lstore C dX7_simulate_22 (by decide) rfl ?_
  refine pw_iconst (v := 0) C dX7_simulate_24 (by decide) ?_
  refine pw_istore C dX7_simulate_25 (by decide) rfl ?_
  refine pw_iconst (v := 0) C dX7_simulate_27 (by decide) ?_
  refine pw_istore C dX7_simulate_28 (by decide) rfl ?_
  exact pw_sub [3, 4, 5, 2, 1, 0] rfl h
set_option maxRecDepth 4000 in
theorem sg_X7_simulate_30 {x : gw_X} {G : gw_G} {Φ : Int32 → gw_S → Prop} {K : Nat → gw_S → Prop} (hX : TX x G RX7 cX7_simulate 8 K) (C : XC x G RX7 cX7_simulate 8 (some .int)) (hR : gw_ok x 7) (hT : RT x G (fi Φ)) (v1 : Int64) (v3 : Int32) (v4 : Int64) (v6 : Int32) (v7 : Int32) (σ : gw_S)
    (h : (v3 ≤ v7 → ∃ Φ1 : Int32 → gw_S → Prop, gw_M (xl x) G yX3_allMarks cX3_allMarks 3 (some .int) 0 [.ref (G.1 + 142)] σ (fi Φ1) ∧ ∀ (r3 : Int32) (τ2 : gw_S), Φ1 r3 τ2 → (Φ ((1000 * (if 999 < v6 then 999 else v6)) + (if 999 < r3 then 999 else r3)) τ2)) ∧ (¬ (v3 ≤ v7) → ∃ Φ4 : Int32 → gw_S → Prop, gw_M (xl x) G yX7_takeTurn cX7_takeTurn 3 (some .int) 5 [.ref (G.1 + 0), .int (((((v4 * 6364136223846793005) + 1442695040888963407).toUInt64 >>> ((33 : Int32).toInt64.toUInt64 &&& Int64.toUInt64 63)).toInt64).toInt32)] σ (fi Φ4) ∧ ∀ (r6 : Int32) (τ5 : gw_S), Φ4 r6 τ5 → (PW x G 8 30 [(0, .ref (G.1 + 0)), (1, .long v1), (3, .int v3), (4, .long ((v4 * 6364136223846793005) + 1442695040888963407)), (6, .int (v6 + r6)), (7, .int (v7 + 1))] [] τ5))) : PW x G 8 30 [(0, .ref (G.1 + 0)), (1, .long v1), (3, .int v3), (4, .long v4), (6, .int v6), (7, .int v7)] [] σ := by
  refine pw_iload C dX7_simulate_30 5 rfl ?_
  refine pw_iload_n C dX7_simulate_32 rfl 2 rfl ?_
  refine pw_icmp_ge (tgt := 69) C dX7_simulate_33 (by decide) (fun q => ?_) (fun q => ?_)
  · replace h := h.1 q
    refine pw_sipush (v := 1000) C dX7_simulate_69 (by decide) ?_
    refine pw_iload C dX7_simulate_72 4 rfl ?_
    refine pw_sipush (v := 999) C dX7_simulate_74 (by decide) ?_
    refine pw_min C dX7_simulate_77 gl_RX7_284 gq_mins gq_math gq_minc ⟨Nat.le_trans (by decide) hR.1, Nat.le_trans (by decide) hR.2.1, hR.2.2⟩ (Nat.le_of_ble_eq_true rfl) ?_
    refine pw_imul C dX7_simulate_80 ?_
    refine pw_aload_n C dX7_simulate_81 rfl 0 rfl ?_
    refine pw_getr C dX7_simulate_82 gf_RX7_38 gk_0.1 gk_0.2 rfl ?_
    obtain ⟨Φ1, hM, h⟩ := h
    refine pw_callV C dX7_simulate_85 hM gm_X3_allMarks gl_RX7_120 rfl hR (by decide) (by decide) (by decide) rfl gk_142.1 gk_142.2 rfl (Nat.le_of_ble_eq_true rfl) ?_
    rintro _ τ2 ⟨r3, rfl, hv⟩
    replace h := h r3 τ2 hv
    show PW x G 8 88 [(0, .ref (G.1 + 0)), (1, .long v1), (3, .int v3), (4, .long v4), (6, .int v6), (7, .int v7)] [.int r3, .int (1000 * (if 999 < v6 then 999 else v6))] τ2
    refine pw_sipush (v := 999) C dX7_simulate_88 (by decide) ?_
    refine pw_min C dX7_simulate_91 gl_RX7_284 gq_mins gq_math gq_minc ⟨Nat.le_trans (by decide) hR.1, Nat.le_trans (by decide) hR.2.1, hR.2.2⟩ (Nat.le_of_ble_eq_true rfl) ?_
    refine pw_iadd C dX7_simulate_94 ?_
    exact pw_iret C hT dX7_simulate_95 h
  · replace h := h.2 q
    refine pw_lload C dX7_simulate_36 3 rfl ?_
    refine pw_ldc2 C dX7_simulate_38 gl_RX7_277 ?_
    refine pw_lmul C dX7_simulate_41 ?_
    refine pw_ldc2 C dX7_simulate_42 gl_RX7_279 ?_
    refine pw_ladd C dX7_simulate_45 ?_
    refine pw_lstore C dX7_simulate_46 (by decide) rfl ?_
    refine pw_iload C dX7_simulate_48 4 rfl ?_
    refine pw_aload_n C dX7_simulate_50 rfl 1 rfl ?_
    refine pw_lload C dX7_simulate_51 0 rfl ?_
    refine pw_bipush (v := 33) C dX7_simulate_53 (by decide) ?_
    refine pw_lushr (v := ((((v4 * 6364136223846793005) + 1442695040888963407).toUInt64 >>> ((33 : Int32).toInt64.toUInt64 &&& Int64.toUInt64 63)).toInt64)) C dX7_simulate_55 rfl ?_
    refine pw_l2i (v := (((((v4 * 6364136223846793005) + 1442695040888963407).toUInt64 >>> ((33 : Int32).toInt64.toUInt64 &&& Int64.toUInt64 63)).toInt64).toInt32)) C dX7_simulate_56 rfl ?_
    obtain ⟨Φ4, hM, h⟩ := h
    refine pw_callV C dX7_simulate_57 hM gm_X7_takeTurn gl_RX7_281 rfl hR (by decide) (by decide) (by decide) rfl gk_0.1 gk_0.2 rfl (Nat.le_of_ble_eq_true rfl) ?_
    rintro _ τ5 ⟨r6, rfl, hv⟩
    replace h := h r6 τ5 hv
    show PW x G 8 60 [(4, .long ((v4 * 6364136223846793005) + 1442695040888963407)), (0, .ref (G.1 + 0)), (1, .long v1), (3, .int v3), (6, .int v6), (7, .int v7)] [.int r6, .int v6] τ5
    refine pw_iadd C dX7_simulate_60 ?_
    refine pw_istore C dX7_simulate_61 (by decide) rfl ?_
    refine pw_iinc (v := (v7 + 1)) (j := 5) C dX7_simulate_63 rfl rfl (by decide) rfl ?_
    refine pw_goto (tgt := 30) C dX7_simulate_66 (by decide) ?_
    exact pw_sub [3, 4, 5, 2, 1, 0] rfl h
set_option maxRecDepth 4000 in
theorem sg_X7_save_0 {x : gw_X} {G : gw_G} {Φ : Int32 → gw_S → Prop} {K : Nat → gw_S → Prop} (hX : TX x G RX7 cX7_save 2 K) (C : XC x G RX7 cX7_save 2 (some .int)) (hR : gw_ok x 7) (hT : RT x G (fi Φ)) (v1 : Int32) (σ : gw_S)
    (h : (¬ (if v1 < 0 then 1 else (if v1 < 2 then 0 else 1 : Nat) : Nat) = 0 → K (if v1 < 0 then 1 else (if v1 < 2 then 0 else 1 : Nat) : Nat) σ) ∧ ((if v1 < 0 then 1 else (if v1 < 2 then 0 else 1 : Nat) : Nat) = 0 → vp_in v1 2 ∧ ∃ z1 : Nat, ([some 171, some 180] : List (Option Nat)).getD v1.toNatClampNeg none = some z1 ∧ gw_plan z1 ∧ (∃ Φ2 : gw_S → Prop, gw_M (xl x) G yX3_become cX3_become 2 none 1 [.ref (G.1 + z1), .ref (G.1 + 3)] σ (fv Φ2) ∧ ∀ (τ3 : gw_S), Φ2 τ3 → (vp_in v1 2 ∧ (∀ τ5 : gw_S, τ5 = gw_u τ3 141 v1.toNatClampNeg 1 → (Φ (τ5.1 3 4) τ5)))))) : PW x G 2 0 [(0, .ref (G.1 + 0)), (1, .int v1)] [] σ := by
  refine pw_iload_n C dX7_save_0 rfl 1 rfl ?_
  refine pw_callS C dX7_save_1 (k_X7_slotFault v1 σ ) gm_X7_slotFault gl_RX7_289 rfl hR (by decide) (by decide) rfl (Nat.le_of_ble_eq_true rfl) ?_
  rintro _ _ ⟨_, -, rfl, rfl, rfl⟩
  show PW x G 2 4 [(0, .ref (G.1 + 0)), (1, .int v1)] [.ref (G.2.2.2 (if v1 < 0 then 1 else (if v1 < 2 then 0 else 1 : Nat) : Nat))] σ
  refine hX _ _ _ _ _ dX7_save_4 gl_RX7_66 (by repeat' first | decide | split) h.1 (fun q => ?_)
  replace h := h.2 q
  refine pw_aload_n C dX7_save_7 rfl 0 rfl ?_
  refine pw_getr C dX7_save_8 gf_RX7_30 gk_0.1 gk_0.2 rfl ?_
  refine pw_iload_n C dX7_save_11 rfl 1 rfl ?_
  obtain ⟨hi, z1, hz, hz1, h⟩ := h
  refine pw_aald C dX7_save_12 gk_140.1 gk_140.2 hi hz ?_
  refine pw_aload_n C dX7_save_13 rfl 0 rfl ?_
  refine pw_getr C dX7_save_14 gf_RX7_19 gk_0.1 gk_0.2 rfl ?_
  obtain ⟨Φ2, hM, h⟩ := h
  refine pw_callV C dX7_save_17 hM gm_X3_become gl_RX7_261 rfl hR (by decide) (by decide) (by decide) rfl (gw_p0 hz1) hz1.2.1 rfl (Nat.le_of_ble_eq_true rfl) ?_
  rintro _ τ3 ⟨rfl, hv⟩
  replace h := h τ3 hv
  show PW x G 2 20 [(0, .ref (G.1 + 0)), (1, .int v1)] [] τ3
  refine pw_aload_n C dX7_save_20 rfl 0 rfl ?_
  refine pw_getr C dX7_save_21 gf_RX7_34 gk_0.1 gk_0.2 rfl ?_
  refine pw_iload_n C dX7_save_24 rfl 1 rfl ?_
  refine pw_iconst (v := 1) C dX7_save_25 (by decide) ?_
  obtain ⟨g4, h⟩ := h
  refine pw_bast C dX7_save_26 gk_141.1 gk_141.2 g4 rfl ?_
  generalize hτ5 : gw_u τ3 141 v1.toNatClampNeg 1 = τ5
  replace h := h τ5 hτ5.symm
  show PW x G 2 27 [(0, .ref (G.1 + 0)), (1, .int v1)] [] τ5
  refine pw_aload_n C dX7_save_27 rfl 0 rfl ?_
  refine pw_getr C dX7_save_28 gf_RX7_19 gk_0.1 gk_0.2 rfl ?_
  refine pw_getiN C dX7_save_31 gf_RX7_117 gk_3.1 gk_3.2 rfl ?_
  exact pw_iret C hT dX7_save_34 h
set_option maxRecDepth 4000 in
theorem sg_X7_restore_0 {x : gw_X} {G : gw_G} {Φ : Int32 → gw_S → Prop} {K : Nat → gw_S → Prop} (hX : TX x G RX7 cX7_restore 2 K) (C : XC x G RX7 cX7_restore 2 (some .int)) (hR : gw_ok x 7) (hT : RT x G (fi Φ)) (v1 : Int32) (σ : gw_S)
    (h : (¬ (if v1 < 0 then 1 else (if v1 < 2 then 0 else 1 : Nat) : Nat) = 0 → K (if v1 < 0 then 1 else (if v1 < 2 then 0 else 1 : Nat) : Nat) σ) ∧ ((if v1 < 0 then 1 else (if v1 < 2 then 0 else 1 : Nat) : Nat) = 0 → vp_in v1 2 ∧ ((¬ (if (σ.1 141 v1.toNatClampNeg) = 0 then 3 else 0 : Nat) = 0 → K (if (σ.1 141 v1.toNatClampNeg) = 0 then 3 else 0 : Nat) σ) ∧ ((if (σ.1 141 v1.toNatClampNeg) = 0 then 3 else 0 : Nat) = 0 → vp_in v1 2 ∧ ∃ z2 : Nat, ([some 171, some 180] : List (Option Nat)).getD v1.toNatClampNeg none = some z2 ∧ gw_plan z2 ∧ (∃ Φ3 : gw_S → Prop, gw_M (xl x) G yX3_become cX3_become 2 none 1 [.ref (G.1 + 3), .ref (G.1 + z2)] σ (fv Φ3) ∧ ∀ (τ4 : gw_S), Φ3 τ4 → (∀ τ5 : gw_S, τ5 = gw_u τ4 12 2 0 → (Φ (τ5.1 3 4) τ5))))))) : PW x G 2 0 [(0, .ref (G.1 + 0)), (1, .int v1)] [] σ := by
  refine pw_iload_n C dX7_restore_0 rfl 1 rfl ?_
  refine pw_callS C dX7_restore_1 (k_X7_slotFault v1 σ ) gm_X7_slotFault gl_RX7_289 rfl hR (by decide) (by decide) rfl (Nat.le_of_ble_eq_true rfl) ?_
  rintro _ _ ⟨_, -, rfl, rfl, rfl⟩
  show PW x G 2 4 [(0, .ref (G.1 + 0)), (1, .int v1)] [.ref (G.2.2.2 (if v1 < 0 then 1 else (if v1 < 2 then 0 else 1 : Nat) : Nat))] σ
  refine hX _ _ _ _ _ dX7_restore_4 gl_RX7_66 (by repeat' first | decide | split) h.1 (fun q => ?_)
  replace h := h.2 q
  refine pw_aload_n C dX7_restore_7 rfl 0 rfl ?_
  refine pw_getr C dX7_restore_8 gf_RX7_34 gk_0.1 gk_0.2 rfl ?_
  refine pw_iload_n C dX7_restore_11 rfl 1 rfl ?_
  obtain ⟨g1, h⟩ := h
  refine pw_bald C dX7_restore_12 gk_141.1 gk_141.2 g1 ?_
  have hJ : ∀ w0 : Nat, (if (σ.1 141 v1.toNatClampNeg) = 0 then 3 else 0 : Nat) = w0 → PW x G 2 25 [(0, .ref (G.1 + 0)), (1, .int v1)] [.ref (G.2.2.2 w0)] σ := by
    rintro _ rfl
    refine hX _ _ _ _ _ dX7_restore_25 gl_RX7_66 (by repeat' first | decide | split) h.1 (fun q => ?_)
    replace h := h.2 q
    refine pw_aload_n C dX7_restore_28 rfl 0 rfl ?_
    refine pw_getr C dX7_restore_29 gf_RX7_19 gk_0.1 gk_0.2 rfl ?_
    refine pw_aload_n C dX7_restore_32 rfl 0 rfl ?_
    refine pw_getr C dX7_restore_33 gf_RX7_30 gk_0.1 gk_0.2 rfl ?_
    refine pw_iload_n C dX7_restore_36 rfl 1 rfl ?_
    obtain ⟨hi, z2, hz, hz2, h⟩ := h
    refine pw_aald C dX7_restore_37 gk_140.1 gk_140.2 hi hz ?_
    obtain ⟨Φ3, hM, h⟩ := h
    refine pw_callV C dX7_restore_38 hM gm_X3_become gl_RX7_261 rfl hR (by decide) (by decide) (by decide) rfl gk_3.1 gk_3.2 rfl (Nat.le_of_ble_eq_true rfl) ?_
    rintro _ τ4 ⟨rfl, hv⟩
    replace h := h τ4 hv
    show PW x G 2 41 [(0, .ref (G.1 + 0)), (1, .int v1)] [] τ4
    refine pw_aload_n C dX7_restore_41 rfl 0 rfl ?_
    refine pw_getr C dX7_restore_42 gf_RX7_26 gk_0.1 gk_0.2 rfl ?_
    refine pw_callV C dX7_restore_45 (k_X2_forget  τ4 ) gm_X2_forget gl_RX7_96 rfl hR (by decide) (by decide) (by decide) rfl gk_12.1 gk_12.2 rfl (Nat.le_of_ble_eq_true rfl) ?_
    rintro _ _ ⟨rfl, rfl⟩
    generalize hτ5 : gw_u τ4 12 2 0 = τ5
    replace h := h τ5 hτ5.symm
    show PW x G 2 48 [(0, .ref (G.1 + 0)), (1, .int v1)] [] τ5
    show PW x G 2 48 [(0, .ref (G.1 + 0)), (1, .int v1)] [] τ5
    refine pw_aload_n C dX7_restore_48 rfl 0 rfl ?_
    refine pw_getr C dX7_restore_49 gf_RX7_19 gk_0.1 gk_0.2 rfl ?_
    refine pw_getiN C dX7_restore_52 gf_RX7_117 gk_3.1 gk_3.2 rfl ?_
    exact pw_iret C hT dX7_restore_55 h
  clear h
  refine pw_if_eq (tgt := 22) C dX7_restore_13 (by decide) (fun q1 => ?_) (fun q1 => ?_)
  · refine pw_gets (i := 3) C dX7_restore_22 (by decide) gl_RX7_74 ?_
    exact hJ 3 (if_pos q1)
  · refine pw_gets (i := 0) C dX7_restore_16 (by decide) gl_RX7_80 ?_
    refine pw_goto (tgt := 25) C dX7_restore_19 (by decide) ?_
    exact hJ 0 (if_neg q1)
set_option maxRecDepth 4000 in
theorem sg_X7_isCompleteWith_0 {x : gw_X} {G : gw_G} {Φ : Bool → gw_S → Prop} (C : XC x G RX7 cX7_isCompleteWith 3 (some .boolean)) (hR : gw_ok x 4) (hT : RT x G (fz Φ)) (v1 : Int32) (v2 : Int32) (σ : gw_S)
    (h : vp_in v1 14 ∧ (∀ τ2 : gw_S, τ2 = gw_u σ 150 v1.toNatClampNeg v2 → (∃ Φ3 : gw_S → Prop, gw_M (xl x) G yX0_follow cX0_follow 5 none 3 [.ref (G.1 + 151), .ref (G.1 + 142), .int 0] τ2 (fv Φ3) ∧ ∀ (τ4 : gw_S), Φ3 τ4 → (Φ (if (τ4.1 151 6) = 0 then false else (if (τ4.1 151 8) = (τ4.1 151 7) then true else false : Bool) : Bool) τ4)))) : PW x G 3 0 [(0, .ref (G.1 + 0)), (1, .int v1), (2, .int v2)] [] σ := by
  refine pw_aload_n C dX7_isCompleteWith_0 rfl 0 rfl ?_
  refine pw_getr C dX7_isCompleteWith_1 gf_RX7_38 gk_0.1 gk_0.2 rfl ?_
  refine pw_getrN C dX7_isCompleteWith_4 gf_RX7_178 gk_142.1 gk_142.2 rfl ?_
  refine pw_iload_n C dX7_isCompleteWith_7 rfl 1 rfl ?_
  refine pw_iload_n C dX7_isCompleteWith_8 rfl 2 rfl ?_
  obtain ⟨g1, h⟩ := h
  refine pw_iast C dX7_isCompleteWith_9 gk_150.1 gk_150.2 g1 ?_
  generalize hτ2 : gw_u σ 150 v1.toNatClampNeg v2 = τ2
  replace h := h τ2 hτ2.symm
  show PW x G 3 10 [(0, .ref (G.1 + 0)), (1, .int v1), (2, .int v2)] [] τ2
  refine pw_aload_n C dX7_isCompleteWith_10 rfl 0 rfl ?_
  refine pw_getr C dX7_isCompleteWith_11 gf_RX7_44 gk_0.1 gk_0.2 rfl ?_
  refine pw_aload_n C dX7_isCompleteWith_14 rfl 0 rfl ?_
  refine pw_getr C dX7_isCompleteWith_15 gf_RX7_38 gk_0.1 gk_0.2 rfl ?_
  refine pw_iconst (v := 0) C dX7_isCompleteWith_18 (by decide) ?_
  obtain ⟨Φ3, hM, h⟩ := h
  refine pw_callV C dX7_isCompleteWith_19 hM gm_X0_follow gl_RX7_225 rfl hR (by decide) (by decide) (by decide) rfl gk_151.1 gk_151.2 rfl (Nat.le_of_ble_eq_true rfl) ?_
  rintro _ τ4 ⟨rfl, hv⟩
  replace h := h τ4 hv
  show PW x G 3 22 [(0, .ref (G.1 + 0)), (1, .int v1), (2, .int v2)] [] τ4
  refine pw_aload_n C dX7_isCompleteWith_22 rfl 0 rfl ?_
  refine pw_getr C dX7_isCompleteWith_23 gf_RX7_44 gk_0.1 gk_0.2 rfl ?_
  refine pw_callV C dX7_isCompleteWith_26 (k_X0_isComplete  τ4 ) gm_X0_isComplete gl_RX7_229 rfl hR (by decide) (by decide) (by decide) rfl gk_151.1 gk_151.2 rfl (Nat.le_of_ble_eq_true rfl) ?_
  rintro _ _ ⟨_, rfl, rfl, rfl⟩
  show PW x G 3 29 [(0, .ref (G.1 + 0)), (1, .int v1), (2, .int v2)] [.int (gz (if (τ4.1 151 6) = 0 then false else (if (τ4.1 151 8) = (τ4.1 151 7) then true else false : Bool) : Bool))] τ4
  exact pw_zret (b := (if (τ4.1 151 6) = 0 then false else (if (τ4.1 151 8) = (τ4.1 151 7) then true else false : Bool) : Bool)) C hT dX7_isCompleteWith_29 h
set_option maxRecDepth 4000 in
theorem sg_X7_obeysText_0 {x : gw_X} {G : gw_G} {Φ : Bool → gw_S → Prop} (C : XC x G RX7 cX7_obeysText 2 (some .boolean)) (hR : gw_ok x 4) (hT : RT x G (fz Φ)) (v1 : Int32) (σ : gw_S)
    (h : ∃ Φ1 : Int32 → gw_S → Prop, gw_M (xl x) G yX5_at cX5_at 2 (some .char) 0 [.ref (G.1 + 1), .int v1] σ (fi Φ1) ∧ ∀ (r3 : Int32) (τ2 : gw_S), Φ1 r3 τ2 → ((r3 = 99 → ∃ Φ4 : Int32 → gw_S → Prop, gw_M (xl x) G yX5_digit cX5_digit 2 (some .int) 1 [.ref (G.1 + 1), .int (v1 + 1)] τ2 (fi Φ4) ∧ ∀ (r6 : Int32) (τ5 : gw_S), Φ4 r6 τ5 → (∃ Φ7 : Int32 → gw_S → Prop, gw_M (xl x) G yX5_digit cX5_digit 2 (some .int) 1 [.ref (G.1 + 1), .int (v1 + 2)] τ5 (fi Φ7) ∧ ∀ (r9 : Int32) (τ8 : gw_S), Φ7 r9 τ8 → (∃ Φ10 : Bool → gw_S → Prop, gw_M (xl x) G yX3_triesCut cX3_triesCut 3 (some .boolean) 1 [.ref (G.1 + 3), .int ((r6 * 10) + r9)] τ8 (fz Φ10) ∧ ∀ (r12 : Bool) (τ11 : gw_S), Φ10 r12 τ11 → (Φ r12 τ11)))) ∧ (r3 = 109 → ∃ Φ13 : Int32 → gw_S → Prop, gw_M (xl x) G yX5_digit cX5_digit 2 (some .int) 1 [.ref (G.1 + 1), .int (v1 + 1)] τ2 (fi Φ13) ∧ ∀ (r15 : Int32) (τ14 : gw_S), Φ13 r15 τ14 → (∃ Φ16 : Int32 → gw_S → Prop, gw_M (xl x) G yX5_digit cX5_digit 2 (some .int) 1 [.ref (G.1 + 1), .int (v1 + 2)] τ14 (fi Φ16) ∧ ∀ (r18 : Int32) (τ17 : gw_S), Φ16 r18 τ17 → (∃ Φ19 : Bool → gw_S → Prop, gw_M (xl x) G yX3_triesModule cX3_triesModule 4 (some .boolean) 1 [.ref (G.1 + 3), .int r15, .int r18] τ17 (fz Φ19) ∧ ∀ (r21 : Bool) (τ20 : gw_S), Φ19 r21 τ20 → (Φ r21 τ20)))) ∧ (r3 = 119 → ∃ Φ22 : Int32 → gw_S → Prop, gw_M (xl x) G yX5_digit cX5_digit 2 (some .int) 1 [.ref (G.1 + 1), .int (v1 + 1)] τ2 (fi Φ22) ∧ ∀ (r24 : Int32) (τ23 : gw_S), Φ22 r24 τ23 → (∃ Φ25 : Int32 → gw_S → Prop, gw_M (xl x) G yX5_digit cX5_digit 2 (some .int) 1 [.ref (G.1 + 1), .int (v1 + 2)] τ23 (fi Φ25) ∧ ∀ (r27 : Int32) (τ26 : gw_S), Φ25 r27 τ26 → (∃ Φ28 : Int32 → gw_S → Prop, gw_M (xl x) G yX5_digit cX5_digit 2 (some .int) 1 [.ref (G.1 + 1), .int (v1 + 3)] τ26 (fi Φ28) ∧ ∀ (r30 : Int32) (τ29 : gw_S), Φ28 r30 τ29 → (∃ Φ31 : Int32 → gw_S → Prop, gw_M (xl x) G yX5_digit cX5_digit 2 (some .int) 1 [.ref (G.1 + 1), .int (v1 + 4)] τ29 (fi Φ31) ∧ ∀ (r33 : Int32) (τ32 : gw_S), Φ31 r33 τ32 → (∃ Φ34 : Int32 → gw_S → Prop, gw_M (xl x) G yX5_digit cX5_digit 2 (some .int) 1 [.ref (G.1 + 1), .int (v1 + 5)] τ32 (fi Φ34) ∧ ∀ (r36 : Int32) (τ35 : gw_S), Φ34 r36 τ35 → (∃ Φ37 : Int32 → gw_S → Prop, gw_M (xl x) G yX5_digit cX5_digit 2 (some .int) 1 [.ref (G.1 + 1), .int (v1 + 6)] τ35 (fi Φ37) ∧ ∀ (r39 : Int32) (τ38 : gw_S), Φ37 r39 τ38 → (∃ Φ40 : Bool → gw_S → Prop, gw_M (xl x) G yX3_triesWire cX3_triesWire 7 (some .boolean) 3 [.ref (G.1 + 3), .int r24, .int r27, .int r30, .int r33, .int ((r36 * 10) + r39)] τ38 (fz Φ40) ∧ ∀ (r42 : Bool) (τ41 : gw_S), Φ40 r42 τ41 → (Φ r42 τ41)))))))) ∧ (¬ r3 = 99 → ¬ r3 = 109 → ¬ r3 = 119 → ∃ Φ43 : Int32 → gw_S → Prop, gw_M (xl x) G yX5_digit cX5_digit 2 (some .int) 1 [.ref (G.1 + 1), .int (v1 + 1)] τ2 (fi Φ43) ∧ ∀ (r45 : Int32) (τ44 : gw_S), Φ43 r45 τ44 → (∃ Φ46 : Bool → gw_S → Prop, gw_M (xl x) G yX3_triesWork cX3_triesWork 3 (some .boolean) 3 [.ref (G.1 + 3), .int r45] τ44 (fz Φ46) ∧ ∀ (r48 : Bool) (τ47 : gw_S), Φ46 r48 τ47 → (Φ r48 τ47))))) : PW x G 2 0 [(0, .ref (G.1 + 0)), (1, .int v1)] [] σ := by
  refine pw_aload_n C dX7_obeysText_0 rfl 0 rfl ?_
  refine pw_getr C dX7_obeysText_1 gf_RX7_10 gk_0.1 gk_0.2 rfl ?_
  refine pw_iload_n C dX7_obeysText_4 rfl 1 rfl ?_
  obtain ⟨Φ1, hM, h⟩ := h
  refine pw_callV C dX7_obeysText_5 hM gm_X5_at gl_RX7_106 rfl hR (by decide) (by decide) (by decide) rfl gk_1.1 gk_1.2 rfl (Nat.le_of_ble_eq_true rfl) ?_
  rintro _ τ2 ⟨r3, rfl, hv⟩
  replace h := h r3 τ2 hv
  show PW x G 2 8 [(0, .ref (G.1 + 0)), (1, .int v1)] [.int r3] τ2
  by_cases q0 : r3 = 99
  · replace h := h.1 q0
    refine pw_lsw (tgt := 145) (off := 137) C dX7_obeysText_8 (by decide) (by rw [q0]; decide) (by decide) ?_
    refine pw_aload_n C dX7_obeysText_145 rfl 0 rfl ?_
    refine pw_getr C dX7_obeysText_146 gf_RX7_19 gk_0.1 gk_0.2 rfl ?_
    refine pw_aload_n C dX7_obeysText_149 rfl 0 rfl ?_
    refine pw_getr C dX7_obeysText_150 gf_RX7_10 gk_0.1 gk_0.2 rfl ?_
    refine pw_iload_n C dX7_obeysText_153 rfl 1 rfl ?_
    refine pw_iconst (v := 1) C dX7_obeysText_154 (by decide) ?_
    refine pw_iadd C dX7_obeysText_155 ?_
    obtain ⟨Φ4, hM, h⟩ := h
    refine pw_callV C dX7_obeysText_156 hM gm_X5_digit gl_RX7_312 rfl hR (by decide) (by decide) (by decide) rfl gk_1.1 gk_1.2 rfl (Nat.le_of_ble_eq_true rfl) ?_
    rintro _ τ5 ⟨r6, rfl, hv⟩
    replace h := h r6 τ5 hv
    show PW x G 2 159 [(0, .ref (G.1 + 0)), (1, .int v1)] [.int r6, .ref (G.1 + 3)] τ5
    refine pw_bipush (v := 10) C dX7_obeysText_159 (by decide) ?_
    refine pw_imul C dX7_obeysText_161 ?_
    refine pw_aload_n C dX7_obeysText_162 rfl 0 rfl ?_
    refine pw_getr C dX7_obeysText_163 gf_RX7_10 gk_0.1 gk_0.2 rfl ?_
    refine pw_iload_n C dX7_obeysText_166 rfl 1 rfl ?_
    refine pw_iconst (v := 2) C dX7_obeysText_167 (by decide) ?_
    refine pw_iadd C dX7_obeysText_168 ?_
    obtain ⟨Φ7, hM, h⟩ := h
    refine pw_callV C dX7_obeysText_169 hM gm_X5_digit gl_RX7_312 rfl hR (by decide) (by decide) (by decide) rfl gk_1.1 gk_1.2 rfl (Nat.le_of_ble_eq_true rfl) ?_
    rintro _ τ8 ⟨r9, rfl, hv⟩
    replace h := h r9 τ8 hv
    show PW x G 2 172 [(0, .ref (G.1 + 0)), (1, .int v1)] [.int r9, .int (r6 * 10), .ref (G.1 + 3)] τ8
    refine pw_iadd C dX7_obeysText_172 ?_
    obtain ⟨Φ10, hM, h⟩ := h
    refine pw_callV C dX7_obeysText_173 hM gm_X3_triesCut gl_RX7_322 rfl hR (by decide) (by decide) (by decide) rfl gk_3.1 gk_3.2 rfl (Nat.le_of_ble_eq_true rfl) ?_
    rintro _ τ11 ⟨r12, rfl, hv⟩
    replace h := h r12 τ11 hv
    show PW x G 2 176 [(0, .ref (G.1 + 0)), (1, .int v1)] [.int (gz r12)] τ11
    exact pw_zret (b := r12) C hT dX7_obeysText_176 h
  by_cases q1 : r3 = 109
  · replace h := h.2.1 q1
    refine pw_lsw (tgt := 44) (off := 36) C dX7_obeysText_8 (by decide) (by rw [q1]; decide) (by decide) ?_
    refine pw_aload_n C dX7_obeysText_44 rfl 0 rfl ?_
    refine pw_getr C dX7_obeysText_45 gf_RX7_19 gk_0.1 gk_0.2 rfl ?_
    refine pw_aload_n C dX7_obeysText_48 rfl 0 rfl ?_
    refine pw_getr C dX7_obeysText_49 gf_RX7_10 gk_0.1 gk_0.2 rfl ?_
    refine pw_iload_n C dX7_obeysText_52 rfl 1 rfl ?_
    refine pw_iconst (v := 1) C dX7_obeysText_53 (by decide) ?_
    refine pw_iadd C dX7_obeysText_54 ?_
    obtain ⟨Φ13, hM, h⟩ := h
    refine pw_callV C dX7_obeysText_55 hM gm_X5_digit gl_RX7_312 rfl hR (by decide) (by decide) (by decide) rfl gk_1.1 gk_1.2 rfl (Nat.le_of_ble_eq_true rfl) ?_
    rintro _ τ14 ⟨r15, rfl, hv⟩
    replace h := h r15 τ14 hv
    show PW x G 2 58 [(0, .ref (G.1 + 0)), (1, .int v1)] [.int r15, .ref (G.1 + 3)] τ14
    refine pw_aload_n C dX7_obeysText_58 rfl 0 rfl ?_
    refine pw_getr C dX7_obeysText_59 gf_RX7_10 gk_0.1 gk_0.2 rfl ?_
    refine pw_iload_n C dX7_obeysText_62 rfl 1 rfl ?_
    refine pw_iconst (v := 2) C dX7_obeysText_63 (by decide) ?_
    refine pw_iadd C dX7_obeysText_64 ?_
    obtain ⟨Φ16, hM, h⟩ := h
    refine pw_callV C dX7_obeysText_65 hM gm_X5_digit gl_RX7_312 rfl hR (by decide) (by decide) (by decide) rfl gk_1.1 gk_1.2 rfl (Nat.le_of_ble_eq_true rfl) ?_
    rintro _ τ17 ⟨r18, rfl, hv⟩
    replace h := h r18 τ17 hv
    show PW x G 2 68 [(0, .ref (G.1 + 0)), (1, .int v1)] [.int r18, .int r15, .ref (G.1 + 3)] τ17
    obtain ⟨Φ19, hM, h⟩ := h
    refine pw_callV C dX7_obeysText_68 hM gm_X3_triesModule gl_RX7_315 rfl hR (by decide) (by decide) (by decide) rfl gk_3.1 gk_3.2 rfl (Nat.le_of_ble_eq_true rfl) ?_
    rintro _ τ20 ⟨r21, rfl, hv⟩
    replace h := h r21 τ20 hv
    show PW x G 2 71 [(0, .ref (G.1 + 0)), (1, .int v1)] [.int (gz r21)] τ20
    exact pw_zret (b := r21) C hT dX7_obeysText_71 h
  by_cases q2 : r3 = 119
  · replace h := h.2.2.1 q2
    refine pw_lsw (tgt := 72) (off := 64) C dX7_obeysText_8 (by decide) (by rw [q2]; decide) (by decide) ?_
    refine pw_aload_n C dX7_obeysText_72 rfl 0 rfl ?_
    refine pw_getr C dX7_obeysText_73 gf_RX7_19 gk_0.1 gk_0.2 rfl ?_
    refine pw_aload_n C dX7_obeysText_76 rfl 0 rfl ?_
    refine pw_getr C dX7_obeysText_77 gf_RX7_10 gk_0.1 gk_0.2 rfl ?_
    refine pw_iload_n C dX7_obeysText_80 rfl 1 rfl ?_
    refine pw_iconst (v := 1) C dX7_obeysText_81 (by decide) ?_
    refine pw_iadd C dX7_obeysText_82 ?_
    obtain ⟨Φ22, hM, h⟩ := h
    refine pw_callV C dX7_obeysText_83 hM gm_X5_digit gl_RX7_312 rfl hR (by decide) (by decide) (by decide) rfl gk_1.1 gk_1.2 rfl (Nat.le_of_ble_eq_true rfl) ?_
    rintro _ τ23 ⟨r24, rfl, hv⟩
    replace h := h r24 τ23 hv
    show PW x G 2 86 [(0, .ref (G.1 + 0)), (1, .int v1)] [.int r24, .ref (G.1 + 3)] τ23
    refine pw_aload_n C dX7_obeysText_86 rfl 0 rfl ?_
    refine pw_getr C dX7_obeysText_87 gf_RX7_10 gk_0.1 gk_0.2 rfl ?_
    refine pw_iload_n C dX7_obeysText_90 rfl 1 rfl ?_
    refine pw_iconst (v := 2) C dX7_obeysText_91 (by decide) ?_
    refine pw_iadd C dX7_obeysText_92 ?_
    obtain ⟨Φ25, hM, h⟩ := h
    refine pw_callV C dX7_obeysText_93 hM gm_X5_digit gl_RX7_312 rfl hR (by decide) (by decide) (by decide) rfl gk_1.1 gk_1.2 rfl (Nat.le_of_ble_eq_true rfl) ?_
    rintro _ τ26 ⟨r27, rfl, hv⟩
    replace h := h r27 τ26 hv
    show PW x G 2 96 [(0, .ref (G.1 + 0)), (1, .int v1)] [.int r27, .int r24, .ref (G.1 + 3)] τ26
    refine pw_aload_n C dX7_obeysText_96 rfl 0 rfl ?_
    refine pw_getr C dX7_obeysText_97 gf_RX7_10 gk_0.1 gk_0.2 rfl ?_
    refine pw_iload_n C dX7_obeysText_100 rfl 1 rfl ?_
    refine pw_iconst (v := 3) C dX7_obeysText_101 (by decide) ?_
    refine pw_iadd C dX7_obeysText_102 ?_
    obtain ⟨Φ28, hM, h⟩ := h
    refine pw_callV C dX7_obeysText_103 hM gm_X5_digit gl_RX7_312 rfl hR (by decide) (by decide) (by decide) rfl gk_1.1 gk_1.2 rfl (Nat.le_of_ble_eq_true rfl) ?_
    rintro _ τ29 ⟨r30, rfl, hv⟩
    replace h := h r30 τ29 hv
    show PW x G 2 106 [(0, .ref (G.1 + 0)), (1, .int v1)] [.int r30, .int r27, .int r24, .ref (G.1 + 3)] τ29
    refine pw_aload_n C dX7_obeysText_106 rfl 0 rfl ?_
    refine pw_getr C dX7_obeysText_107 gf_RX7_10 gk_0.1 gk_0.2 rfl ?_
    refine pw_iload_n C dX7_obeysText_110 rfl 1 rfl ?_
    refine pw_iconst (v := 4) C dX7_obeysText_111 (by decide) ?_
    refine pw_iadd C dX7_obeysText_112 ?_
    obtain ⟨Φ31, hM, h⟩ := h
    refine pw_callV C dX7_obeysText_113 hM gm_X5_digit gl_RX7_312 rfl hR (by decide) (by decide) (by decide) rfl gk_1.1 gk_1.2 rfl (Nat.le_of_ble_eq_true rfl) ?_
    rintro _ τ32 ⟨r33, rfl, hv⟩
    replace h := h r33 τ32 hv
    show PW x G 2 116 [(0, .ref (G.1 + 0)), (1, .int v1)] [.int r33, .int r30, .int r27, .int r24, .ref (G.1 + 3)] τ32
    refine pw_aload_n C dX7_obeysText_116 rfl 0 rfl ?_
    refine pw_getr C dX7_obeysText_117 gf_RX7_10 gk_0.1 gk_0.2 rfl ?_
    refine pw_iload_n C dX7_obeysText_120 rfl 1 rfl ?_
    refine pw_iconst (v := 5) C dX7_obeysText_121 (by decide) ?_
    refine pw_iadd C dX7_obeysText_122 ?_
    obtain ⟨Φ34, hM, h⟩ := h
    refine pw_callV C dX7_obeysText_123 hM gm_X5_digit gl_RX7_312 rfl hR (by decide) (by decide) (by decide) rfl gk_1.1 gk_1.2 rfl (Nat.le_of_ble_eq_true rfl) ?_
    rintro _ τ35 ⟨r36, rfl, hv⟩
    replace h := h r36 τ35 hv
    show PW x G 2 126 [(0, .ref (G.1 + 0)), (1, .int v1)] [.int r36, .int r33, .int r30, .int r27, .int r24, .ref (G.1 + 3)] τ35
    refine pw_bipush (v := 10) C dX7_obeysText_126 (by decide) ?_
    refine pw_imul C dX7_obeysText_128 ?_
    refine pw_aload_n C dX7_obeysText_129 rfl 0 rfl ?_
    refine pw_getr C dX7_obeysText_130 gf_RX7_10 gk_0.1 gk_0.2 rfl ?_
    refine pw_iload_n C dX7_obeysText_133 rfl 1 rfl ?_
    refine pw_bipush (v := 6) C dX7_obeysText_134 (by decide) ?_
    refine pw_iadd C dX7_obeysText_136 ?_
    obtain ⟨Φ37, hM, h⟩ := h
    refine pw_callV C dX7_obeysText_137 hM gm_X5_digit gl_RX7_312 rfl hR (by decide) (by decide) (by decide) rfl gk_1.1 gk_1.2 rfl (Nat.le_of_ble_eq_true rfl) ?_
    rintro _ τ38 ⟨r39, rfl, hv⟩
    replace h := h r39 τ38 hv
    show PW x G 2 140 [(0, .ref (G.1 + 0)), (1, .int v1)] [.int r39, .int (r36 * 10), .int r33, .int r30, .int r27, .int r24, .ref (G.1 + 3)] τ38
    refine pw_iadd C dX7_obeysText_140 ?_
    obtain ⟨Φ40, hM, h⟩ := h
    refine pw_callV C dX7_obeysText_141 hM gm_X3_triesWire gl_RX7_318 rfl hR (by decide) (by decide) (by decide) rfl gk_3.1 gk_3.2 rfl (Nat.le_of_ble_eq_true rfl) ?_
    rintro _ τ41 ⟨r42, rfl, hv⟩
    replace h := h r42 τ41 hv
    show PW x G 2 144 [(0, .ref (G.1 + 0)), (1, .int v1)] [.int (gz r42)] τ41
    exact pw_zret (b := r42) C hT dX7_obeysText_144 h
  replace h := h.2.2.2 q0 q1 q2
  refine pw_lsw (tgt := 177) (off := 169) C dX7_obeysText_8 (by decide) (by rw [lv_osw q0 (by decide)]; rw [lv_osw q1 (by decide)]; rw [lv_osw q2 (by decide)]; rfl) (by decide) ?_
  refine pw_aload_n C dX7_obeysText_177 rfl 0 rfl ?_
  refine pw_getr C dX7_obeysText_178 gf_RX7_19 gk_0.1 gk_0.2 rfl ?_
  refine pw_aload_n C dX7_obeysText_181 rfl 0 rfl ?_
  refine pw_getr C dX7_obeysText_182 gf_RX7_10 gk_0.1 gk_0.2 rfl ?_
  refine pw_iload_n C dX7_obeysText_185 rfl 1 rfl ?_
  refine pw_iconst (v := 1) C dX7_obeysText_186 (by decide) ?_
  refine pw_iadd C dX7_obeysText_187 ?_
  obtain ⟨Φ43, hM, h⟩ := h
  refine pw_callV C dX7_obeysText_188 hM gm_X5_digit gl_RX7_312 rfl hR (by decide) (by decide) (by decide) rfl gk_1.1 gk_1.2 rfl (Nat.le_of_ble_eq_true rfl) ?_
  rintro _ τ44 ⟨r45, rfl, hv⟩
  replace h := h r45 τ44 hv
  show PW x G 2 191 [(0, .ref (G.1 + 0)), (1, .int v1)] [.int r45, .ref (G.1 + 3)] τ44
  obtain ⟨Φ46, hM, h⟩ := h
  refine pw_callV C dX7_obeysText_191 hM gm_X3_triesWork gl_RX7_325 rfl hR (by decide) (by decide) (by decide) rfl gk_3.1 gk_3.2 rfl (Nat.le_of_ble_eq_true rfl) ?_
  rintro _ τ47 ⟨r48, rfl, hv⟩
  replace h := h r48 τ47 hv
  show PW x G 2 194 [(0, .ref (G.1 + 0)), (1, .int v1)] [.int (gz r48)] τ47
  exact pw_zret (b := r48) C hT dX7_obeysText_194 h
set_option maxRecDepth 4000 in
theorem sg_X7_withoutGroups_0 {x : gw_X} {G : gw_G} {Φ : Int64 → gw_S → Prop} (C : XC x G RX7 cX7_withoutGroups 6 (some .long)) (hR : gw_ok x 0) (hT : RT x G (fl Φ)) (v0 : Int64) (v2 : Int32) (σ : gw_S)
    (h : PW x G 6 5 [(0, .long v0), (2, .int v2), (3, .long v0), (5, .int 0)] [] σ) : PW x G 6 0 [(0, .long v0), (2, .int v2)] [] σ := by
  refine pw_lload_n C dX7_withoutGroups_0 rfl 0 rfl ?_
  refine pw_lstore_n C dX7_withoutGroups_1 rfl (by decide) rfl ?_
  refine pw_iconst (v := 0) C dX7_withoutGroups_2 (by decide) ?_
  refine pw_istore C dX7_withoutGroups_3 (by decide) rfl ?_
  exact pw_sub [2, 3, 1, 0] rfl h
set_option maxRecDepth 4000 in
theorem sg_X7_withoutGroups_5 {x : gw_X} {G : gw_G} {Φ : Int64 → gw_S → Prop} (C : XC x G RX7 cX7_withoutGroups 6 (some .long)) (hR : gw_ok x 0) (hT : RT x G (fl Φ)) (v0 : Int64) (v2 : Int32) (v3 : Int64) (v5 : Int32) (σ : gw_S)
    (h : (v2 ≤ v5 → Φ v3 σ) ∧ (¬ (v2 ≤ v5) → PW x G 6 5 [(0, .long v0), (2, .int v2), (3, .long (v3 / 1000000)), (5, .int (v5 + 1))] [] σ)) : PW x G 6 5 [(0, .long v0), (2, .int v2), (3, .long v3), (5, .int v5)] [] σ := by
  refine pw_iload C dX7_withoutGroups_5 3 rfl ?_
  refine pw_iload_n C dX7_withoutGroups_7 rfl 1 rfl ?_
  refine pw_icmp_ge (tgt := 23) C dX7_withoutGroups_8 (by decide) (fun q => ?_) (fun q => ?_)
  · replace h := h.1 q
    refine pw_lload_n C dX7_withoutGroups_23 rfl 2 rfl ?_
    exact pw_lret C hT dX7_withoutGroups_24 h
  · replace h := h.2 q
    refine pw_lload_n C dX7_withoutGroups_11 rfl 2 rfl ?_
    refine pw_ldc2 C dX7_withoutGroups_12 gl_RX7_272 ?_
    refine pw_ldiv C dX7_withoutGroups_15 (by decide) ?_
    refine pw_lstore_n C dX7_withoutGroups_16 rfl (by decide) rfl ?_
    refine pw_iinc (v := (v5 + 1)) (j := 3) C dX7_withoutGroups_17 rfl rfl (by decide) rfl ?_
    refine pw_goto (tgt := 5) C dX7_withoutGroups_20 (by decide) ?_
    exact pw_sub [2, 3, 1, 0] rfl h
set_option maxRecDepth 4000 in
theorem sg_X7_obeysGroup_0 {x : gw_X} {G : gw_G} {Φ : Bool → gw_S → Prop} (C : XC x G RX7 cX7_obeysGroup 3 (some .boolean)) (hR : gw_ok x 5) (hT : RT x G (fz Φ)) (v1 : Int32) (σ : gw_S)
    (h : ((v1 / 100000).toInt < 1 ∨ 9 < (v1 / 100000).toInt → Φ false σ) ∧ ((v1 / 100000).toInt = 1 → ∃ Φ1 : Bool → gw_S → Prop, gw_M (xl x) G yX3_triesWire cX3_triesWire 7 (some .boolean) 3 [.ref (G.1 + 142), .int ((v1 - v1 / 100000 * 100000) / 10000), .int (((v1 - v1 / 100000 * 100000) / 1000) - ((v1 - v1 / 100000 * 100000) / 1000) / 10 * 10), .int (((v1 - v1 / 100000 * 100000) / 100) - ((v1 - v1 / 100000 * 100000) / 100) / 10 * 10), .int (((v1 - v1 / 100000 * 100000) / 10) - ((v1 - v1 / 100000 * 100000) / 10) / 10 * 10), .int ((v1 - v1 / 100000 * 100000) - (v1 - v1 / 100000 * 100000) / 10 * 10)] σ (fz Φ1) ∧ ∀ (r3 : Bool) (τ2 : gw_S), Φ1 r3 τ2 → (Φ r3 τ2)) ∧ ((v1 / 100000).toInt = 2 → (100 ≤ (v1 - v1 / 100000 * 100000) → Φ false σ) ∧ (¬ (100 ≤ (v1 - v1 / 100000 * 100000)) → ∃ Φ4 : Bool → gw_S → Prop, gw_M (xl x) G yX3_triesCut cX3_triesCut 3 (some .boolean) 1 [.ref (G.1 + 142), .int (v1 - v1 / 100000 * 100000)] σ (fz Φ4) ∧ ∀ (r6 : Bool) (τ5 : gw_S), Φ4 r6 τ5 → (Φ (if r6 = false then false else true : Bool) τ5))) ∧ ((v1 / 100000).toInt = 3 → (10000 ≤ (v1 - v1 / 100000 * 100000) → Φ false σ) ∧ (¬ (10000 ≤ (v1 - v1 / 100000 * 100000)) → ∃ Φ7 : Bool → gw_S → Prop, gw_M (xl x) G yX3_triesMarks cX3_triesMarks 4 (some .boolean) 3 [.ref (G.1 + 142), .int ((v1 - v1 / 100000 * 100000) / 100), .int ((v1 - v1 / 100000 * 100000) - (v1 - v1 / 100000 * 100000) / 100 * 100)] σ (fz Φ7) ∧ ∀ (r9 : Bool) (τ8 : gw_S), Φ7 r9 τ8 → (Φ (if r9 = false then false else true : Bool) τ8))) ∧ ((v1 / 100000).toInt = 4 → (10 ≤ (v1 - v1 / 100000 * 100000) → Φ false σ) ∧ (¬ (10 ≤ (v1 - v1 / 100000 * 100000)) → ∃ Φ10 : Bool → gw_S → Prop, gw_M (xl x) G yX3_triesWork cX3_triesWork 3 (some .boolean) 3 [.ref (G.1 + 142), .int (v1 - v1 / 100000 * 100000)] σ (fz Φ10) ∧ ∀ (r12 : Bool) (τ11 : gw_S), Φ10 r12 τ11 → (Φ (if r12 = false then false else true : Bool) τ11))) ∧ ((v1 / 100000).toInt = 5 → (10 ≤ (v1 - v1 / 100000 * 100000) → Φ false σ) ∧ (¬ (10 ≤ (v1 - v1 / 100000 * 100000)) → ∃ Φ13 : Bool → gw_S → Prop, gw_M (xl x) G yX0_tries cX0_tries 3 (some .boolean) 4 [.ref (G.1 + 151), .ref (G.1 + 142), .int (v1 - v1 / 100000 * 100000)] σ (fz Φ13) ∧ ∀ (r15 : Bool) (τ14 : gw_S), Φ13 r15 τ14 → (Φ (if r15 = false then false else true : Bool) τ14))) ∧ ((v1 / 100000).toInt = 6 → (¬ ((v1 - v1 / 100000 * 100000) = 0) → Φ false σ) ∧ ((v1 - v1 / 100000 * 100000) = 0 → ∃ Φ16 : Bool → gw_S → Prop, gw_M (xl x) G yX4_agreeIn cX4_agreeIn 3 (some .boolean) 2 [.ref (G.1 + 167), .ref (G.1 + 142)] σ (fz Φ16) ∧ ∀ (r18 : Bool) (τ17 : gw_S), Φ16 r18 τ17 → (Φ (if r18 = false then false else true : Bool) τ17))) ∧ ((v1 / 100000).toInt = 7 → (10000 ≤ (v1 - v1 / 100000 * 100000) → Φ false σ) ∧ (¬ (10000 ≤ (v1 - v1 / 100000 * 100000)) → ∃ Φ19 : Bool → gw_S → Prop, gw_M (xl x) G yX3_hasMarks cX3_hasMarks 3 (some .boolean) 1 [.ref (G.1 + 142), .int ((v1 - v1 / 100000 * 100000) / 100), .int ((v1 - v1 / 100000 * 100000) - (v1 - v1 / 100000 * 100000) / 100 * 100)] σ (fz Φ19) ∧ ∀ (r21 : Bool) (τ20 : gw_S), Φ19 r21 τ20 → (Φ (if r21 = false then false else true : Bool) τ20))) ∧ ((v1 / 100000).toInt = 8 → (1000 ≤ (v1 - v1 / 100000 * 100000) → Φ false σ) ∧ (¬ (1000 ≤ (v1 - v1 / 100000 * 100000)) → ∃ Φ22 : Int32 → gw_S → Prop, gw_M (xl x) G yX3_allMarks cX3_allMarks 3 (some .int) 0 [.ref (G.1 + 142)] σ (fi Φ22) ∧ ∀ (r24 : Int32) (τ23 : gw_S), Φ22 r24 τ23 → (Φ (if (v1 - v1 / 100000 * 100000) < r24 then false else true : Bool) τ23))) ∧ ((v1 / 100000).toInt = 9 → (1000 ≤ (v1 - v1 / 100000 * 100000) → Φ false σ) ∧ (¬ (1000 ≤ (v1 - v1 / 100000 * 100000)) → ∃ Φ25 : Bool → gw_S → Prop, gw_M (xl x) G yX3_hasWorked cX3_hasWorked 3 (some .boolean) 1 [.ref (G.1 + 142), .int ((v1 - v1 / 100000 * 100000) / 100), .int ((v1 - v1 / 100000 * 100000) - (v1 - v1 / 100000 * 100000) / 100 * 100)] σ (fz Φ25) ∧ ∀ (r27 : Bool) (τ26 : gw_S), Φ25 r27 τ26 → (Φ (if r27 = false then false else true : Bool) τ26)))) : PW x G 3 0 [(0, .ref (G.1 + 0)), (1, .int v1)] [] σ := by
  refine pw_iload_n C dX7_obeysGroup_0 rfl 1 rfl ?_
  refine pw_ldcw C dX7_obeysGroup_1 gl_RX7_328 ?_
  refine pw_irem C dX7_obeysGroup_4 (by decide) ?_
  refine pw_istore_n C dX7_obeysGroup_5 rfl (by decide) rfl ?_
  refine pw_iload_n C dX7_obeysGroup_6 rfl 2 rfl ?_
  refine pw_ldcw C dX7_obeysGroup_7 gl_RX7_328 ?_
  refine pw_idiv C dX7_obeysGroup_10 (by decide) ?_
  rcases Classical.em ((v1 / 100000).toInt < 1 ∨ 9 < (v1 / 100000).toInt) with q | q
  · replace h := h.1 q
    refine pw_tout (tgt := 313) C dX7_obeysGroup_11 q (by decide) ?_
    refine pw_iconst (v := 0) C dX7_obeysGroup_313 (by decide) ?_
    exact pw_zret (b := false) C hT dX7_obeysGroup_314 h
  · replace h := h.2
    have q2 : (v1 / 100000).toInt = 1 ∨ (v1 / 100000).toInt = 2 ∨ (v1 / 100000).toInt = 3 ∨ (v1 / 100000).toInt = 4 ∨ (v1 / 100000).toInt = 5 ∨ (v1 / 100000).toInt = 6 ∨ (v1 / 100000).toInt = 7 ∨ (v1 / 100000).toInt = 8 ∨ (v1 / 100000).toInt = 9 := by omega
    rcases q2 with q2 | q2 | q2 | q2 | q2 | q2 | q2 | q2 | q2
    · replace h := h.1 q2
      refine pw_tin (tgt := 60) (off := 49) C 1 dX7_obeysGroup_11 q2 (by decide) (by decide) rfl (by decide) ?_
      refine pw_aload_n C dX7_obeysGroup_60 rfl 1 rfl ?_
      refine pw_getr C dX7_obeysGroup_61 gf_RX7_38 gk_0.1 gk_0.2 rfl ?_
      refine pw_iload_n C dX7_obeysGroup_64 rfl 0 rfl ?_
      refine pw_sipush (v := 10000) C dX7_obeysGroup_65 (by decide) ?_
      refine pw_idiv C dX7_obeysGroup_68 (by decide) ?_
      refine pw_iload_n C dX7_obeysGroup_69 rfl 0 rfl ?_
      refine pw_sipush (v := 1000) C dX7_obeysGroup_70 (by decide) ?_
      refine pw_idiv C dX7_obeysGroup_73 (by decide) ?_
      refine pw_bipush (v := 10) C dX7_obeysGroup_74 (by decide) ?_
      refine pw_irem C dX7_obeysGroup_76 (by decide) ?_
      refine pw_iload_n C dX7_obeysGroup_77 rfl 0 rfl ?_
      refine pw_bipush (v := 100) C dX7_obeysGroup_78 (by decide) ?_
      refine pw_idiv C dX7_obeysGroup_80 (by decide) ?_
      refine pw_bipush (v := 10) C dX7_obeysGroup_81 (by decide) ?_
      refine pw_irem C dX7_obeysGroup_83 (by decide) ?_
      refine pw_iload_n C dX7_obeysGroup_84 rfl 0 rfl ?_
      refine pw_bipush (v := 10) C dX7_obeysGroup_85 (by decide) ?_
      refine pw_idiv C dX7_obeysGroup_87 (by decide) ?_
      refine pw_bipush (v := 10) C dX7_obeysGroup_88 (by decide) ?_
      refine pw_irem C dX7_obeysGroup_90 (by decide) ?_
      refine pw_iload_n C dX7_obeysGroup_91 rfl 0 rfl ?_
      refine pw_bipush (v := 10) C dX7_obeysGroup_92 (by decide) ?_
      refine pw_irem C dX7_obeysGroup_94 (by decide) ?_
      obtain ⟨Φ1, hM, h⟩ := h
      refine pw_callV C dX7_obeysGroup_95 hM gm_X3_triesWire gl_RX7_318 rfl hR (by decide) (by decide) (by decide) rfl gk_142.1 gk_142.2 rfl (Nat.le_of_ble_eq_true rfl) ?_
      rintro _ τ2 ⟨r3, rfl, hv⟩
      replace h := h r3 τ2 hv
      show PW x G 3 98 [(2, .int (v1 - v1 / 100000 * 100000)), (0, .ref (G.1 + 0)), (1, .int v1)] [.int (gz r3)] τ2
      exact pw_zret (b := r3) C hT dX7_obeysGroup_98 h
    · replace h := h.2.1 q2
      refine pw_tin (tgt := 99) (off := 88) C 2 dX7_obeysGroup_11 q2 (by decide) (by decide) rfl (by decide) ?_
      refine pw_iload_n C dX7_obeysGroup_99 rfl 0 rfl ?_
      refine pw_bipush (v := 100) C dX7_obeysGroup_100 (by decide) ?_
      refine pw_icmp_ge (tgt := 120) C dX7_obeysGroup_102 (by decide) (fun q => ?_) (fun q => ?_)
      · replace h := h.1 q
        refine pw_iconst (v := 0) C dX7_obeysGroup_120 (by decide) ?_
        exact pw_zret (b := false) C hT dX7_obeysGroup_121 h
      · replace h := h.2 q
        refine pw_aload_n C dX7_obeysGroup_105 rfl 1 rfl ?_
        refine pw_getr C dX7_obeysGroup_106 gf_RX7_38 gk_0.1 gk_0.2 rfl ?_
        refine pw_iload_n C dX7_obeysGroup_109 rfl 0 rfl ?_
        obtain ⟨Φ4, hM, h⟩ := h
        refine pw_callV C dX7_obeysGroup_110 hM gm_X3_triesCut gl_RX7_322 rfl hR (by decide) (by decide) (by decide) rfl gk_142.1 gk_142.2 rfl (Nat.le_of_ble_eq_true rfl) ?_
        rintro _ τ5 ⟨r6, rfl, hv⟩
        replace h := h r6 τ5 hv
        show PW x G 3 113 [(2, .int (v1 - v1 / 100000 * 100000)), (0, .ref (G.1 + 0)), (1, .int v1)] [.int (gz r6)] τ5
        have hJ : ∀ w0 : Bool, (if r6 = false then false else true : Bool) = w0 → PW x G 3 121 [(2, .int (v1 - v1 / 100000 * 100000)), (0, .ref (G.1 + 0)), (1, .int v1)] [.int (gz w0)] τ5 := by
          rintro _ rfl
          exact pw_zret (b := (if r6 = false then false else true : Bool)) C hT dX7_obeysGroup_121 h
        clear h
        refine pw_z_eq (tgt := 120) C dX7_obeysGroup_113 (by decide) (fun q4 => ?_) (fun q4 => ?_)
        · refine pw_iconst (v := 0) C dX7_obeysGroup_120 (by decide) ?_
          exact hJ false (if_pos q4)
        · refine pw_iconst (v := 1) C dX7_obeysGroup_116 (by decide) ?_
          refine pw_goto (tgt := 121) C dX7_obeysGroup_117 (by decide) ?_
          exact hJ true (if_neg q4)
    · replace h := h.2.2.1 q2
      refine pw_tin (tgt := 122) (off := 111) C 3 dX7_obeysGroup_11 q2 (by decide) (by decide) rfl (by decide) ?_
      refine pw_iload_n C dX7_obeysGroup_122 rfl 0 rfl ?_
      refine pw_sipush (v := 10000) C dX7_obeysGroup_123 (by decide) ?_
      refine pw_icmp_ge (tgt := 151) C dX7_obeysGroup_126 (by decide) (fun q => ?_) (fun q => ?_)
      · replace h := h.1 q
        refine pw_iconst (v := 0) C dX7_obeysGroup_151 (by decide) ?_
        exact pw_zret (b := false) C hT dX7_obeysGroup_152 h
      · replace h := h.2 q
        refine pw_aload_n C dX7_obeysGroup_129 rfl 1 rfl ?_
        refine pw_getr C dX7_obeysGroup_130 gf_RX7_38 gk_0.1 gk_0.2 rfl ?_
        refine pw_iload_n C dX7_obeysGroup_133 rfl 0 rfl ?_
        refine pw_bipush (v := 100) C dX7_obeysGroup_134 (by decide) ?_
        refine pw_idiv C dX7_obeysGroup_136 (by decide) ?_
        refine pw_iload_n C dX7_obeysGroup_137 rfl 0 rfl ?_
        refine pw_bipush (v := 100) C dX7_obeysGroup_138 (by decide) ?_
        refine pw_irem C dX7_obeysGroup_140 (by decide) ?_
        obtain ⟨Φ7, hM, h⟩ := h
        refine pw_callV C dX7_obeysGroup_141 hM gm_X3_triesMarks gl_RX7_329 rfl hR (by decide) (by decide) (by decide) rfl gk_142.1 gk_142.2 rfl (Nat.le_of_ble_eq_true rfl) ?_
        rintro _ τ8 ⟨r9, rfl, hv⟩
        replace h := h r9 τ8 hv
        show PW x G 3 144 [(2, .int (v1 - v1 / 100000 * 100000)), (0, .ref (G.1 + 0)), (1, .int v1)] [.int (gz r9)] τ8
        have hJ : ∀ w0 : Bool, (if r9 = false then false else true : Bool) = w0 → PW x G 3 152 [(2, .int (v1 - v1 / 100000 * 100000)), (0, .ref (G.1 + 0)), (1, .int v1)] [.int (gz w0)] τ8 := by
          rintro _ rfl
          exact pw_zret (b := (if r9 = false then false else true : Bool)) C hT dX7_obeysGroup_152 h
        clear h
        refine pw_z_eq (tgt := 151) C dX7_obeysGroup_144 (by decide) (fun q4 => ?_) (fun q4 => ?_)
        · refine pw_iconst (v := 0) C dX7_obeysGroup_151 (by decide) ?_
          exact hJ false (if_pos q4)
        · refine pw_iconst (v := 1) C dX7_obeysGroup_147 (by decide) ?_
          refine pw_goto (tgt := 152) C dX7_obeysGroup_148 (by decide) ?_
          exact hJ true (if_neg q4)
    · replace h := h.2.2.2.1 q2
      refine pw_tin (tgt := 153) (off := 142) C 4 dX7_obeysGroup_11 q2 (by decide) (by decide) rfl (by decide) ?_
      refine pw_iload_n C dX7_obeysGroup_153 rfl 0 rfl ?_
      refine pw_bipush (v := 10) C dX7_obeysGroup_154 (by decide) ?_
      refine pw_icmp_ge (tgt := 174) C dX7_obeysGroup_156 (by decide) (fun q => ?_) (fun q => ?_)
      · replace h := h.1 q
        refine pw_iconst (v := 0) C dX7_obeysGroup_174 (by decide) ?_
        exact pw_zret (b := false) C hT dX7_obeysGroup_175 h
      · replace h := h.2 q
        refine pw_aload_n C dX7_obeysGroup_159 rfl 1 rfl ?_
        refine pw_getr C dX7_obeysGroup_160 gf_RX7_38 gk_0.1 gk_0.2 rfl ?_
        refine pw_iload_n C dX7_obeysGroup_163 rfl 0 rfl ?_
        obtain ⟨Φ10, hM, h⟩ := h
        refine pw_callV C dX7_obeysGroup_164 hM gm_X3_triesWork gl_RX7_325 rfl hR (by decide) (by decide) (by decide) rfl gk_142.1 gk_142.2 rfl (Nat.le_of_ble_eq_true rfl) ?_
        rintro _ τ11 ⟨r12, rfl, hv⟩
        replace h := h r12 τ11 hv
        show PW x G 3 167 [(2, .int (v1 - v1 / 100000 * 100000)), (0, .ref (G.1 + 0)), (1, .int v1)] [.int (gz r12)] τ11
        have hJ : ∀ w0 : Bool, (if r12 = false then false else true : Bool) = w0 → PW x G 3 175 [(2, .int (v1 - v1 / 100000 * 100000)), (0, .ref (G.1 + 0)), (1, .int v1)] [.int (gz w0)] τ11 := by
          rintro _ rfl
          exact pw_zret (b := (if r12 = false then false else true : Bool)) C hT dX7_obeysGroup_175 h
        clear h
        refine pw_z_eq (tgt := 174) C dX7_obeysGroup_167 (by decide) (fun q4 => ?_) (fun q4 => ?_)
        · refine pw_iconst (v := 0) C dX7_obeysGroup_174 (by decide) ?_
          exact hJ false (if_pos q4)
        · refine pw_iconst (v := 1) C dX7_obeysGroup_170 (by decide) ?_
          refine pw_goto (tgt := 175) C dX7_obeysGroup_171 (by decide) ?_
          exact hJ true (if_neg q4)
    · replace h := h.2.2.2.2.1 q2
      refine pw_tin (tgt := 176) (off := 165) C 5 dX7_obeysGroup_11 q2 (by decide) (by decide) rfl (by decide) ?_
      refine pw_iload_n C dX7_obeysGroup_176 rfl 0 rfl ?_
      refine pw_bipush (v := 10) C dX7_obeysGroup_177 (by decide) ?_
      refine pw_icmp_ge (tgt := 201) C dX7_obeysGroup_179 (by decide) (fun q => ?_) (fun q => ?_)
      · replace h := h.1 q
        refine pw_iconst (v := 0) C dX7_obeysGroup_201 (by decide) ?_
        exact pw_zret (b := false) C hT dX7_obeysGroup_202 h
      · replace h := h.2 q
        refine pw_aload_n C dX7_obeysGroup_182 rfl 1 rfl ?_
        refine pw_getr C dX7_obeysGroup_183 gf_RX7_44 gk_0.1 gk_0.2 rfl ?_
        refine pw_aload_n C dX7_obeysGroup_186 rfl 1 rfl ?_
        refine pw_getr C dX7_obeysGroup_187 gf_RX7_38 gk_0.1 gk_0.2 rfl ?_
        refine pw_iload_n C dX7_obeysGroup_190 rfl 0 rfl ?_
        obtain ⟨Φ13, hM, h⟩ := h
        refine pw_callV C dX7_obeysGroup_191 hM gm_X0_tries gl_RX7_332 rfl hR (by decide) (by decide) (by decide) rfl gk_151.1 gk_151.2 rfl (Nat.le_of_ble_eq_true rfl) ?_
        rintro _ τ14 ⟨r15, rfl, hv⟩
        replace h := h r15 τ14 hv
        show PW x G 3 194 [(2, .int (v1 - v1 / 100000 * 100000)), (0, .ref (G.1 + 0)), (1, .int v1)] [.int (gz r15)] τ14
        have hJ : ∀ w0 : Bool, (if r15 = false then false else true : Bool) = w0 → PW x G 3 202 [(2, .int (v1 - v1 / 100000 * 100000)), (0, .ref (G.1 + 0)), (1, .int v1)] [.int (gz w0)] τ14 := by
          rintro _ rfl
          exact pw_zret (b := (if r15 = false then false else true : Bool)) C hT dX7_obeysGroup_202 h
        clear h
        refine pw_z_eq (tgt := 201) C dX7_obeysGroup_194 (by decide) (fun q4 => ?_) (fun q4 => ?_)
        · refine pw_iconst (v := 0) C dX7_obeysGroup_201 (by decide) ?_
          exact hJ false (if_pos q4)
        · refine pw_iconst (v := 1) C dX7_obeysGroup_197 (by decide) ?_
          refine pw_goto (tgt := 202) C dX7_obeysGroup_198 (by decide) ?_
          exact hJ true (if_neg q4)
    · replace h := h.2.2.2.2.2.1 q2
      refine pw_tin (tgt := 203) (off := 192) C 6 dX7_obeysGroup_11 q2 (by decide) (by decide) rfl (by decide) ?_
      refine pw_iload_n C dX7_obeysGroup_203 rfl 0 rfl ?_
      refine pw_if_ne (tgt := 225) C dX7_obeysGroup_204 (by decide) (fun q => ?_) (fun q => ?_)
      · replace h := h.1 q
        refine pw_iconst (v := 0) C dX7_obeysGroup_225 (by decide) ?_
        exact pw_zret (b := false) C hT dX7_obeysGroup_226 h
      · replace h := h.2 q
        refine pw_aload_n C dX7_obeysGroup_207 rfl 1 rfl ?_
        refine pw_getr C dX7_obeysGroup_208 gf_RX7_51 gk_0.1 gk_0.2 rfl ?_
        refine pw_aload_n C dX7_obeysGroup_211 rfl 1 rfl ?_
        refine pw_getr C dX7_obeysGroup_212 gf_RX7_38 gk_0.1 gk_0.2 rfl ?_
        obtain ⟨Φ16, hM, h⟩ := h
        refine pw_callV C dX7_obeysGroup_215 hM gm_X4_agreeIn gl_RX7_126 rfl hR (by decide) (by decide) (by decide) rfl gk_167.1 gk_167.2 rfl (Nat.le_of_ble_eq_true rfl) ?_
        rintro _ τ17 ⟨r18, rfl, hv⟩
        replace h := h r18 τ17 hv
        show PW x G 3 218 [(2, .int (v1 - v1 / 100000 * 100000)), (0, .ref (G.1 + 0)), (1, .int v1)] [.int (gz r18)] τ17
        have hJ : ∀ w0 : Bool, (if r18 = false then false else true : Bool) = w0 → PW x G 3 226 [(2, .int (v1 - v1 / 100000 * 100000)), (0, .ref (G.1 + 0)), (1, .int v1)] [.int (gz w0)] τ17 := by
          rintro _ rfl
          exact pw_zret (b := (if r18 = false then false else true : Bool)) C hT dX7_obeysGroup_226 h
        clear h
        refine pw_z_eq (tgt := 225) C dX7_obeysGroup_218 (by decide) (fun q4 => ?_) (fun q4 => ?_)
        · refine pw_iconst (v := 0) C dX7_obeysGroup_225 (by decide) ?_
          exact hJ false (if_pos q4)
        · refine pw_iconst (v := 1) C dX7_obeysGroup_221 (by decide) ?_
          refine pw_goto (tgt := 226) C dX7_obeysGroup_222 (by decide) ?_
          exact hJ true (if_neg q4)
    · replace h := h.2.2.2.2.2.2.1 q2
      refine pw_tin (tgt := 227) (off := 216) C 7 dX7_obeysGroup_11 q2 (by decide) (by decide) rfl (by decide) ?_
      refine pw_iload_n C dX7_obeysGroup_227 rfl 0 rfl ?_
      refine pw_sipush (v := 10000) C dX7_obeysGroup_228 (by decide) ?_
      refine pw_icmp_ge (tgt := 256) C dX7_obeysGroup_231 (by decide) (fun q => ?_) (fun q => ?_)
      · replace h := h.1 q
        refine pw_iconst (v := 0) C dX7_obeysGroup_256 (by decide) ?_
        exact pw_zret (b := false) C hT dX7_obeysGroup_257 h
      · replace h := h.2 q
        refine pw_aload_n C dX7_obeysGroup_234 rfl 1 rfl ?_
        refine pw_getr C dX7_obeysGroup_235 gf_RX7_38 gk_0.1 gk_0.2 rfl ?_
        refine pw_iload_n C dX7_obeysGroup_238 rfl 0 rfl ?_
        refine pw_bipush (v := 100) C dX7_obeysGroup_239 (by decide) ?_
        refine pw_idiv C dX7_obeysGroup_241 (by decide) ?_
        refine pw_iload_n C dX7_obeysGroup_242 rfl 0 rfl ?_
        refine pw_bipush (v := 100) C dX7_obeysGroup_243 (by decide) ?_
        refine pw_irem C dX7_obeysGroup_245 (by decide) ?_
        obtain ⟨Φ19, hM, h⟩ := h
        refine pw_callV C dX7_obeysGroup_246 hM gm_X3_hasMarks gl_RX7_336 rfl hR (by decide) (by decide) (by decide) rfl gk_142.1 gk_142.2 rfl (Nat.le_of_ble_eq_true rfl) ?_
        rintro _ τ20 ⟨r21, rfl, hv⟩
        replace h := h r21 τ20 hv
        show PW x G 3 249 [(2, .int (v1 - v1 / 100000 * 100000)), (0, .ref (G.1 + 0)), (1, .int v1)] [.int (gz r21)] τ20
        have hJ : ∀ w0 : Bool, (if r21 = false then false else true : Bool) = w0 → PW x G 3 257 [(2, .int (v1 - v1 / 100000 * 100000)), (0, .ref (G.1 + 0)), (1, .int v1)] [.int (gz w0)] τ20 := by
          rintro _ rfl
          exact pw_zret (b := (if r21 = false then false else true : Bool)) C hT dX7_obeysGroup_257 h
        clear h
        refine pw_z_eq (tgt := 256) C dX7_obeysGroup_249 (by decide) (fun q4 => ?_) (fun q4 => ?_)
        · refine pw_iconst (v := 0) C dX7_obeysGroup_256 (by decide) ?_
          exact hJ false (if_pos q4)
        · refine pw_iconst (v := 1) C dX7_obeysGroup_252 (by decide) ?_
          refine pw_goto (tgt := 257) C dX7_obeysGroup_253 (by decide) ?_
          exact hJ true (if_neg q4)
    · replace h := h.2.2.2.2.2.2.2.1 q2
      refine pw_tin (tgt := 258) (off := 247) C 8 dX7_obeysGroup_11 q2 (by decide) (by decide) rfl (by decide) ?_
      refine pw_iload_n C dX7_obeysGroup_258 rfl 0 rfl ?_
      refine pw_sipush (v := 1000) C dX7_obeysGroup_259 (by decide) ?_
      refine pw_icmp_ge (tgt := 280) C dX7_obeysGroup_262 (by decide) (fun q => ?_) (fun q => ?_)
      · replace h := h.1 q
        refine pw_iconst (v := 0) C dX7_obeysGroup_280 (by decide) ?_
        exact pw_zret (b := false) C hT dX7_obeysGroup_281 h
      · replace h := h.2 q
        refine pw_aload_n C dX7_obeysGroup_265 rfl 1 rfl ?_
        refine pw_getr C dX7_obeysGroup_266 gf_RX7_38 gk_0.1 gk_0.2 rfl ?_
        obtain ⟨Φ22, hM, h⟩ := h
        refine pw_callV C dX7_obeysGroup_269 hM gm_X3_allMarks gl_RX7_120 rfl hR (by decide) (by decide) (by decide) rfl gk_142.1 gk_142.2 rfl (Nat.le_of_ble_eq_true rfl) ?_
        rintro _ τ23 ⟨r24, rfl, hv⟩
        replace h := h r24 τ23 hv
        show PW x G 3 272 [(2, .int (v1 - v1 / 100000 * 100000)), (0, .ref (G.1 + 0)), (1, .int v1)] [.int r24] τ23
        refine pw_iload_n C dX7_obeysGroup_272 rfl 0 rfl ?_
        have hJ : ∀ w0 : Bool, (if (v1 - v1 / 100000 * 100000) < r24 then false else true : Bool) = w0 → PW x G 3 281 [(2, .int (v1 - v1 / 100000 * 100000)), (0, .ref (G.1 + 0)), (1, .int v1)] [.int (gz w0)] τ23 := by
          rintro _ rfl
          exact pw_zret (b := (if (v1 - v1 / 100000 * 100000) < r24 then false else true : Bool)) C hT dX7_obeysGroup_281 h
        clear h
        refine pw_icmp_gt (tgt := 280) C dX7_obeysGroup_273 (by decide) (fun q4 => ?_) (fun q4 => ?_)
        · refine pw_iconst (v := 0) C dX7_obeysGroup_280 (by decide) ?_
          exact hJ false (if_pos q4)
        · refine pw_iconst (v := 1) C dX7_obeysGroup_276 (by decide) ?_
          refine pw_goto (tgt := 281) C dX7_obeysGroup_277 (by decide) ?_
          exact hJ true (if_neg q4)
    · replace h := h.2.2.2.2.2.2.2.2 q2
      refine pw_tin (tgt := 282) (off := 271) C 9 dX7_obeysGroup_11 q2 (by decide) (by decide) rfl (by decide) ?_
      refine pw_iload_n C dX7_obeysGroup_282 rfl 0 rfl ?_
      refine pw_sipush (v := 1000) C dX7_obeysGroup_283 (by decide) ?_
      refine pw_icmp_ge (tgt := 311) C dX7_obeysGroup_286 (by decide) (fun q => ?_) (fun q => ?_)
      · replace h := h.1 q
        refine pw_iconst (v := 0) C dX7_obeysGroup_311 (by decide) ?_
        exact pw_zret (b := false) C hT dX7_obeysGroup_312 h
      · replace h := h.2 q
        refine pw_aload_n C dX7_obeysGroup_289 rfl 1 rfl ?_
        refine pw_getr C dX7_obeysGroup_290 gf_RX7_38 gk_0.1 gk_0.2 rfl ?_
        refine pw_iload_n C dX7_obeysGroup_293 rfl 0 rfl ?_
        refine pw_bipush (v := 100) C dX7_obeysGroup_294 (by decide) ?_
        refine pw_idiv C dX7_obeysGroup_296 (by decide) ?_
        refine pw_iload_n C dX7_obeysGroup_297 rfl 0 rfl ?_
        refine pw_bipush (v := 100) C dX7_obeysGroup_298 (by decide) ?_
        refine pw_irem C dX7_obeysGroup_300 (by decide) ?_
        obtain ⟨Φ25, hM, h⟩ := h
        refine pw_callV C dX7_obeysGroup_301 hM gm_X3_hasWorked gl_RX7_339 rfl hR (by decide) (by decide) (by decide) rfl gk_142.1 gk_142.2 rfl (Nat.le_of_ble_eq_true rfl) ?_
        rintro _ τ26 ⟨r27, rfl, hv⟩
        replace h := h r27 τ26 hv
        show PW x G 3 304 [(2, .int (v1 - v1 / 100000 * 100000)), (0, .ref (G.1 + 0)), (1, .int v1)] [.int (gz r27)] τ26
        have hJ : ∀ w0 : Bool, (if r27 = false then false else true : Bool) = w0 → PW x G 3 312 [(2, .int (v1 - v1 / 100000 * 100000)), (0, .ref (G.1 + 0)), (1, .int v1)] [.int (gz w0)] τ26 := by
          rintro _ rfl
          exact pw_zret (b := (if r27 = false then false else true : Bool)) C hT dX7_obeysGroup_312 h
        clear h
        refine pw_z_eq (tgt := 311) C dX7_obeysGroup_304 (by decide) (fun q4 => ?_) (fun q4 => ?_)
        · refine pw_iconst (v := 0) C dX7_obeysGroup_311 (by decide) ?_
          exact hJ false (if_pos q4)
        · refine pw_iconst (v := 1) C dX7_obeysGroup_307 (by decide) ?_
          refine pw_goto (tgt := 312) C dX7_obeysGroup_308 (by decide) ?_
          exact hJ true (if_neg q4)
set_option maxRecDepth 4000 in
theorem sg_X7_takeTurn_0 {x : gw_X} {G : gw_G} {Φ : Int32 → gw_S → Prop} (C : XC x G RX7 cX7_takeTurn 3 (some .int)) (hR : gw_ok x 5) (hT : RT x G (fi Φ)) (v1 : Int32) (σ : gw_S)
    (h : ((v1 - v1 / 8 * 8).toInt < 0 ∨ 2 < (v1 - v1 / 8 * 8).toInt → ∃ Φ1 : Bool → gw_S → Prop, gw_M (xl x) G yX3_triesWork cX3_triesWork 3 (some .boolean) 3 [.ref (G.1 + 142), .int ((v1 / 8) - (v1 / 8) / 8 * 8)] σ (fz Φ1) ∧ ∀ (r3 : Bool) (τ2 : gw_S), Φ1 r3 τ2 → (Φ (gz (if r3 = false then false else true : Bool)) τ2)) ∧ ((v1 - v1 / 8 * 8).toInt = 0 → ∃ Φ4 : Bool → gw_S → Prop, gw_M (xl x) G yX3_triesWire cX3_triesWire 7 (some .boolean) 3 [.ref (G.1 + 142), .int ((v1 / 8) - (v1 / 8) / 8 * 8), .int ((v1 / 64) - (v1 / 64) / 8 * 8), .int (1 + ((v1 / 512) - (v1 / 512) / 3 * 3)), .int (1 + ((v1 / 2048) - (v1 / 2048) / 3 * 3)), .int ((v1 / 8192) - (v1 / 8192) / 8 * 8)] σ (fz Φ4) ∧ ∀ (r6 : Bool) (τ5 : gw_S), Φ4 r6 τ5 → (Φ 0 τ5)) ∧ ((v1 - v1 / 8 * 8).toInt = 1 → ∃ Φ7 : Bool → gw_S → Prop, gw_M (xl x) G yX3_triesCut cX3_triesCut 3 (some .boolean) 1 [.ref (G.1 + 142), .int ((v1 / 512) - (v1 / 512) / 14 * 14)] σ (fz Φ7) ∧ ∀ (r9 : Bool) (τ8 : gw_S), Φ7 r9 τ8 → (Φ 0 τ8)) ∧ ((v1 - v1 / 8 * 8).toInt = 2 → ∃ Φ10 : Bool → gw_S → Prop, gw_M (xl x) G yX0_tries cX0_tries 3 (some .boolean) 4 [.ref (G.1 + 151), .ref (G.1 + 142), .int ((v1 / 512) - (v1 / 512) / 3 * 3)] σ (fz Φ10) ∧ ∀ (r12 : Bool) (τ11 : gw_S), Φ10 r12 τ11 → (Φ (if r12 = false then 0 else τ11.1 151 8 : Int32) τ11))) : PW x G 3 0 [(0, .ref (G.1 + 0)), (1, .int v1)] [] σ := by
  refine pw_iload_n C dX7_takeTurn_0 rfl 1 rfl ?_
  refine pw_bipush (v := 8) C dX7_takeTurn_1 (by decide) ?_
  refine pw_idiv C dX7_takeTurn_3 (by decide) ?_
  refine pw_bipush (v := 8) C dX7_takeTurn_4 (by decide) ?_
  refine pw_irem C dX7_takeTurn_6 (by decide) ?_
  refine pw_istore_n C dX7_takeTurn_7 rfl (by decide) rfl ?_
  refine pw_iload_n C dX7_takeTurn_8 rfl 2 rfl ?_
  refine pw_bipush (v := 8) C dX7_takeTurn_9 (by decide) ?_
  refine pw_irem C dX7_takeTurn_11 (by decide) ?_
  rcases Classical.em ((v1 - v1 / 8 * 8).toInt < 0 ∨ 2 < (v1 - v1 / 8 * 8).toInt) with q | q
  · replace h := h.1 q
    refine pw_tout (tgt := 135) C dX7_takeTurn_12 q (by decide) ?_
    refine pw_aload_n C dX7_takeTurn_135 rfl 1 rfl ?_
    refine pw_getr C dX7_takeTurn_136 gf_RX7_38 gk_0.1 gk_0.2 rfl ?_
    refine pw_iload_n C dX7_takeTurn_139 rfl 0 rfl ?_
    obtain ⟨Φ1, hM, h⟩ := h
    refine pw_callV C dX7_takeTurn_140 hM gm_X3_triesWork gl_RX7_325 rfl hR (by decide) (by decide) (by decide) rfl gk_142.1 gk_142.2 rfl (Nat.le_of_ble_eq_true rfl) ?_
    rintro _ τ2 ⟨r3, rfl, hv⟩
    replace h := h r3 τ2 hv
    show PW x G 3 143 [(2, .int ((v1 / 8) - (v1 / 8) / 8 * 8)), (0, .ref (G.1 + 0)), (1, .int v1)] [.int (gz r3)] τ2
    have hJ : ∀ w0 : Bool, (if r3 = false then false else true : Bool) = w0 → PW x G 3 151 [(2, .int ((v1 / 8) - (v1 / 8) / 8 * 8)), (0, .ref (G.1 + 0)), (1, .int v1)] [.int (gz w0)] τ2 := by
      rintro _ rfl
      exact pw_iret C hT dX7_takeTurn_151 h
    clear h
    refine pw_z_eq (tgt := 150) C dX7_takeTurn_143 (by decide) (fun q2 => ?_) (fun q2 => ?_)
    · refine pw_iconst (v := 0) C dX7_takeTurn_150 (by decide) ?_
      exact hJ false (if_pos q2)
    · refine pw_iconst (v := 1) C dX7_takeTurn_146 (by decide) ?_
      refine pw_goto (tgt := 151) C dX7_takeTurn_147 (by decide) ?_
      exact hJ true (if_neg q2)
  · replace h := h.2
    have q2 : (v1 - v1 / 8 * 8).toInt = 0 ∨ (v1 - v1 / 8 * 8).toInt = 1 ∨ (v1 - v1 / 8 * 8).toInt = 2 := by omega
    rcases q2 with q2 | q2 | q2
    · replace h := h.1 q2
      refine pw_tin (tgt := 40) (off := 28) C 0 dX7_takeTurn_12 q2 (by decide) (by decide) rfl (by decide) ?_
      refine pw_aload_n C dX7_takeTurn_40 rfl 1 rfl ?_
      refine pw_getr C dX7_takeTurn_41 gf_RX7_38 gk_0.1 gk_0.2 rfl ?_
      refine pw_iload_n C dX7_takeTurn_44 rfl 0 rfl ?_
      refine pw_iload_n C dX7_takeTurn_45 rfl 2 rfl ?_
      refine pw_bipush (v := 64) C dX7_takeTurn_46 (by decide) ?_
      refine pw_idiv C dX7_takeTurn_48 (by decide) ?_
      refine pw_bipush (v := 8) C dX7_takeTurn_49 (by decide) ?_
      refine pw_irem C dX7_takeTurn_51 (by decide) ?_
      refine pw_iconst (v := 1) C dX7_takeTurn_52 (by decide) ?_
      refine pw_iload_n C dX7_takeTurn_53 rfl 2 rfl ?_
      refine pw_sipush (v := 512) C dX7_takeTurn_54 (by decide) ?_
      refine pw_idiv C dX7_takeTurn_57 (by decide) ?_
      refine pw_iconst (v := 3) C dX7_takeTurn_58 (by decide) ?_
      refine pw_irem C dX7_takeTurn_59 (by decide) ?_
      refine pw_iadd C dX7_takeTurn_60 ?_
      refine pw_iconst (v := 1) C dX7_takeTurn_61 (by decide) ?_
      refine pw_iload_n C dX7_takeTurn_62 rfl 2 rfl ?_
      refine pw_sipush (v := 2048) C dX7_takeTurn_63 (by decide) ?_
      refine pw_idiv C dX7_takeTurn_66 (by decide) ?_
      refine pw_iconst (v := 3) C dX7_takeTurn_67 (by decide) ?_
      refine pw_irem C dX7_takeTurn_68 (by decide) ?_
      refine pw_iadd C dX7_takeTurn_69 ?_
      refine pw_iload_n C dX7_takeTurn_70 rfl 2 rfl ?_
      refine pw_sipush (v := 8192) C dX7_takeTurn_71 (by decide) ?_
      refine pw_idiv C dX7_takeTurn_74 (by decide) ?_
      refine pw_bipush (v := 8) C dX7_takeTurn_75 (by decide) ?_
      refine pw_irem C dX7_takeTurn_77 (by decide) ?_
      obtain ⟨Φ4, hM, h⟩ := h
      refine pw_callV C dX7_takeTurn_78 hM gm_X3_triesWire gl_RX7_318 rfl hR (by decide) (by decide) (by decide) rfl gk_142.1 gk_142.2 rfl (Nat.le_of_ble_eq_true rfl) ?_
      rintro _ τ5 ⟨r6, rfl, hv⟩
      replace h := h r6 τ5 hv
      show PW x G 3 81 [(2, .int ((v1 / 8) - (v1 / 8) / 8 * 8)), (0, .ref (G.1 + 0)), (1, .int v1)] [.int (gz r6)] τ5
      refine pw_pop C dX7_takeTurn_81 rfl ?_
      refine pw_iconst (v := 0) C dX7_takeTurn_82 (by decide) ?_
      exact pw_iret C hT dX7_takeTurn_83 h
    · replace h := h.2.1 q2
      refine pw_tin (tgt := 84) (off := 72) C 1 dX7_takeTurn_12 q2 (by decide) (by decide) rfl (by decide) ?_
      refine pw_aload_n C dX7_takeTurn_84 rfl 1 rfl ?_
      refine pw_getr C dX7_takeTurn_85 gf_RX7_38 gk_0.1 gk_0.2 rfl ?_
      refine pw_iload_n C dX7_takeTurn_88 rfl 2 rfl ?_
      refine pw_sipush (v := 512) C dX7_takeTurn_89 (by decide) ?_
      refine pw_idiv C dX7_takeTurn_92 (by decide) ?_
      refine pw_bipush (v := 14) C dX7_takeTurn_93 (by decide) ?_
      refine pw_irem C dX7_takeTurn_95 (by decide) ?_
      obtain ⟨Φ7, hM, h⟩ := h
      refine pw_callV C dX7_takeTurn_96 hM gm_X3_triesCut gl_RX7_322 rfl hR (by decide) (by decide) (by decide) rfl gk_142.1 gk_142.2 rfl (Nat.le_of_ble_eq_true rfl) ?_
      rintro _ τ8 ⟨r9, rfl, hv⟩
      replace h := h r9 τ8 hv
      show PW x G 3 99 [(2, .int ((v1 / 8) - (v1 / 8) / 8 * 8)), (0, .ref (G.1 + 0)), (1, .int v1)] [.int (gz r9)] τ8
      refine pw_pop C dX7_takeTurn_99 rfl ?_
      refine pw_iconst (v := 0) C dX7_takeTurn_100 (by decide) ?_
      exact pw_iret C hT dX7_takeTurn_101 h
    · replace h := h.2.2 q2
      refine pw_tin (tgt := 102) (off := 90) C 2 dX7_takeTurn_12 q2 (by decide) (by decide) rfl (by decide) ?_
      refine pw_aload_n C dX7_takeTurn_102 rfl 1 rfl ?_
      refine pw_getr C dX7_takeTurn_103 gf_RX7_44 gk_0.1 gk_0.2 rfl ?_
      refine pw_aload_n C dX7_takeTurn_106 rfl 1 rfl ?_
      refine pw_getr C dX7_takeTurn_107 gf_RX7_38 gk_0.1 gk_0.2 rfl ?_
      refine pw_iload_n C dX7_takeTurn_110 rfl 2 rfl ?_
      refine pw_sipush (v := 512) C dX7_takeTurn_111 (by decide) ?_
      refine pw_idiv C dX7_takeTurn_114 (by decide) ?_
      refine pw_iconst (v := 3) C dX7_takeTurn_115 (by decide) ?_
      refine pw_irem C dX7_takeTurn_116 (by decide) ?_
      obtain ⟨Φ10, hM, h⟩ := h
      refine pw_callV C dX7_takeTurn_117 hM gm_X0_tries gl_RX7_332 rfl hR (by decide) (by decide) (by decide) rfl gk_151.1 gk_151.2 rfl (Nat.le_of_ble_eq_true rfl) ?_
      rintro _ τ11 ⟨r12, rfl, hv⟩
      replace h := h r12 τ11 hv
      show PW x G 3 120 [(2, .int ((v1 / 8) - (v1 / 8) / 8 * 8)), (0, .ref (G.1 + 0)), (1, .int v1)] [.int (gz r12)] τ11
      have hJ : ∀ w0 : Int32, (if r12 = false then 0 else τ11.1 151 8 : Int32) = w0 → PW x G 3 134 [(2, .int ((v1 / 8) - (v1 / 8) / 8 * 8)), (0, .ref (G.1 + 0)), (1, .int v1)] [.int w0] τ11 := by
        rintro _ rfl
        exact pw_iret C hT dX7_takeTurn_134 h
      clear h
      refine pw_z_eq (tgt := 133) C dX7_takeTurn_120 (by decide) (fun q3 => ?_) (fun q3 => ?_)
      · refine pw_iconst (v := 0) C dX7_takeTurn_133 (by decide) ?_
        exact hJ 0 (if_pos q3)
      · refine pw_aload_n C dX7_takeTurn_123 rfl 1 rfl ?_
        refine pw_getr C dX7_takeTurn_124 gf_RX7_44 gk_0.1 gk_0.2 rfl ?_
        refine pw_getiN C dX7_takeTurn_127 gf_RX7_252 gk_151.1 gk_151.2 rfl ?_
        refine pw_goto (tgt := 134) C dX7_takeTurn_130 (by decide) ?_
        exact hJ (τ11.1 151 8) (if_neg q3)
