set_option maxRecDepth 20000 in
theorem gx_k1 : Cond.classLink RX7 295 (gw_exn 1) ∈ gw_tbl := gw_mem (List.mem_of_getElem? (i := 394) (by decide +kernel)) (by decide +kernel)
set_option maxRecDepth 20000 in
theorem gx_i1 : Cond.initialized (gw_exn 1) ∈ gw_tbl := gw_mem (List.mem_of_getElem? (i := 67) (by decide +kernel)) (by decide +kernel)
set_option maxRecDepth 20000 in
theorem gx_g1 : ∀ w ∈ (vx_atS RX7 299 (gw_exn 1) gw_ch).filter goodWord, w ∈ gw_tbl := fun w hw => List.contains_iff_mem.mp (List.all_eq_true.mp (show ((vx_atS RX7 299 (gw_exn 1) gw_ch).filter goodWord).all (fun w => gw_tbl.contains w) = true by decide +kernel) w hw)
set_option maxRecDepth 20000 in
theorem gx_n1 : ∀ w ∈ (vx_atS RX7 299 (gw_exn 1) gw_ch).filter (fun w => !goodWord w), w ∈ gw_nst := fun w hw => List.contains_iff_mem.mp (List.all_eq_true.mp (show ((vx_atS RX7 299 (gw_exn 1) gw_ch).filter (fun w => !goodWord w)).all (fun w => gw_nst.contains w) = true by decide +kernel) w hw)
set_option maxRecDepth 20000 in
theorem gx_o1 : ∀ w ∈ Cond.classLink RX7 295 (gw_exn 1) :: Cond.initialized (gw_exn 1) :: vx_atS RX7 299 (gw_exn 1) gw_ch, vx_ot w = true := fun w hw => List.all_eq_true.mp (show (Cond.classLink RX7 295 (gw_exn 1) :: Cond.initialized (gw_exn 1) :: vx_atS RX7 299 (gw_exn 1) gw_ch).all vx_ot = true by decide +kernel) w hw
set_option maxRecDepth 20000 in
theorem gx_k2 : Cond.classLink RX7 302 (gw_exn 2) ∈ gw_tbl := gw_mem (List.mem_of_getElem? (i := 462) (by decide +kernel)) (by decide +kernel)
set_option maxRecDepth 20000 in
theorem gx_i2 : Cond.initialized (gw_exn 2) ∈ gw_tbl := gw_mem (List.mem_of_getElem? (i := 68) (by decide +kernel)) (by decide +kernel)
set_option maxRecDepth 20000 in
theorem gx_g2 : ∀ w ∈ (vx_atS RX7 306 (gw_exn 2) gw_ch).filter goodWord, w ∈ gw_tbl := fun w hw => List.contains_iff_mem.mp (List.all_eq_true.mp (show ((vx_atS RX7 306 (gw_exn 2) gw_ch).filter goodWord).all (fun w => gw_tbl.contains w) = true by decide +kernel) w hw)
set_option maxRecDepth 20000 in
theorem gx_n2 : ∀ w ∈ (vx_atS RX7 306 (gw_exn 2) gw_ch).filter (fun w => !goodWord w), w ∈ gw_nst := fun w hw => List.contains_iff_mem.mp (List.all_eq_true.mp (show ((vx_atS RX7 306 (gw_exn 2) gw_ch).filter (fun w => !goodWord w)).all (fun w => gw_nst.contains w) = true by decide +kernel) w hw)
set_option maxRecDepth 20000 in
theorem gx_o2 : ∀ w ∈ Cond.classLink RX7 302 (gw_exn 2) :: Cond.initialized (gw_exn 2) :: vx_atS RX7 306 (gw_exn 2) gw_ch, vx_ot w = true := fun w hw => List.all_eq_true.mp (show (Cond.classLink RX7 302 (gw_exn 2) :: Cond.initialized (gw_exn 2) :: vx_atS RX7 306 (gw_exn 2) gw_ch).all vx_ot = true by decide +kernel) w hw
set_option maxRecDepth 20000 in
theorem gx_k3 : Cond.classLink RX7 307 (gw_exn 3) ∈ gw_tbl := gw_mem (List.mem_of_getElem? (i := 480) (by decide +kernel)) (by decide +kernel)
set_option maxRecDepth 20000 in
theorem gx_i3 : Cond.initialized (gw_exn 3) ∈ gw_tbl := gw_mem (List.mem_of_getElem? (i := 69) (by decide +kernel)) (by decide +kernel)
set_option maxRecDepth 20000 in
theorem gx_g3 : ∀ w ∈ (vx_atS RX7 311 (gw_exn 3) gw_ch).filter goodWord, w ∈ gw_tbl := fun w hw => List.contains_iff_mem.mp (List.all_eq_true.mp (show ((vx_atS RX7 311 (gw_exn 3) gw_ch).filter goodWord).all (fun w => gw_tbl.contains w) = true by decide +kernel) w hw)
set_option maxRecDepth 20000 in
theorem gx_n3 : ∀ w ∈ (vx_atS RX7 311 (gw_exn 3) gw_ch).filter (fun w => !goodWord w), w ∈ gw_nst := fun w hw => List.contains_iff_mem.mp (List.all_eq_true.mp (show ((vx_atS RX7 311 (gw_exn 3) gw_ch).filter (fun w => !goodWord w)).all (fun w => gw_nst.contains w) = true by decide +kernel) w hw)
set_option maxRecDepth 20000 in
theorem gx_o3 : ∀ w ∈ Cond.classLink RX7 307 (gw_exn 3) :: Cond.initialized (gw_exn 3) :: vx_atS RX7 311 (gw_exn 3) gw_ch, vx_ot w = true := fun w hw => List.all_eq_true.mp (show (Cond.classLink RX7 307 (gw_exn 3) :: Cond.initialized (gw_exn 3) :: vx_atS RX7 311 (gw_exn 3) gw_ch).all vx_ot = true by decide +kernel) w hw
theorem k_X7_refuse0 {l : Launch} {G : gw_G} (σ : gw_S) : gw_M l G yX7_refuse cX7_refuse 1 none 6 [.ref (G.2.2.2 0)] σ (fv (fun τ => σ = τ)) := by
  refine gw_met (by decide) (Nat.le_of_ble_eq_true rfl) (fun x C hR hT => ?_)
  refine pw_aload_n (ls := [(0, .ref (G.2.2.2 0))]) C dX7_refuse_0 rfl 0 rfl ?_
  refine pw_gets (i := 1) C dX7_refuse_1 (by decide) gl_RX7_292 ?_
  refine pw_acmp_ne (tgt := 18) C dX7_refuse_4 (by decide) (by decide) (by decide) (fun _ => ?_) (fun q => absurd q (by decide))
  refine pw_aload_n C dX7_refuse_18 rfl 0 rfl ?_
  refine pw_gets (i := 2) C dX7_refuse_19 (by decide) gl_RX7_242 ?_
  refine pw_acmp_ne (tgt := 36) C dX7_refuse_22 (by decide) (by decide) (by decide) (fun _ => ?_) (fun q => absurd q (by decide))
  refine pw_aload_n C dX7_refuse_36 rfl 0 rfl ?_
  refine pw_gets (i := 3) C dX7_refuse_37 (by decide) gl_RX7_74 ?_
  refine pw_acmp_ne (tgt := 54) C dX7_refuse_40 (by decide) (by decide) (by decide) (fun _ => ?_) (fun q => absurd q (by decide))
  exact pw_vret C hT dX7_refuse_54 rfl
theorem k_X7_refuse1 {l : Launch} {G : gw_G} (hl9 : l.stackTraces = false) (σ : gw_S) : gw_MX l G yX7_refuse cX7_refuse 1 none 6 [.ref (G.2.2.2 1)] σ (fun _ _ => False) (fun j τ => j = 1 ∧ σ = τ) := by
  refine gw_metX (by decide) (Nat.le_of_ble_eq_true rfl) (fun x hxl C hR hout hX => ?_)
  have hl : (xl x).stackTraces = false := by rw [hxl]; exact hl9
  refine pw_aload_n (ls := [(0, .ref (G.2.2.2 1))]) C dX7_refuse_0 rfl 0 rfl ?_
  refine pw_gets (i := 1) C dX7_refuse_1 (by decide) gl_RX7_292 ?_
  refine pw_acmp_ne (tgt := 18) C dX7_refuse_4 (by decide) (by decide) (by decide) (fun q => absurd rfl q) (fun _ => ?_)
  exact pw_throw C hl hR hout hX (by decide) (by decide) (by decide +kernel) gx_k1 gx_i1 (C.2.2.2.2.2.2.2.2.2.2.2.2.1) gx_g1 gx_n1 gx_o1 dX7_refuse_7 dX7_refuse_10 dX7_refuse_11 dX7_refuse_14 dX7_refuse_17 ⟨rfl, rfl⟩
theorem k_X7_refuse2 {l : Launch} {G : gw_G} (hl9 : l.stackTraces = false) (σ : gw_S) : gw_MX l G yX7_refuse cX7_refuse 1 none 6 [.ref (G.2.2.2 2)] σ (fun _ _ => False) (fun j τ => j = 2 ∧ σ = τ) := by
  refine gw_metX (by decide) (Nat.le_of_ble_eq_true rfl) (fun x hxl C hR hout hX => ?_)
  have hl : (xl x).stackTraces = false := by rw [hxl]; exact hl9
  refine pw_aload_n (ls := [(0, .ref (G.2.2.2 2))]) C dX7_refuse_0 rfl 0 rfl ?_
  refine pw_gets (i := 1) C dX7_refuse_1 (by decide) gl_RX7_292 ?_
  refine pw_acmp_ne (tgt := 18) C dX7_refuse_4 (by decide) (by decide) (by decide) (fun _ => ?_) (fun q => absurd q (by decide))
  refine pw_aload_n C dX7_refuse_18 rfl 0 rfl ?_
  refine pw_gets (i := 2) C dX7_refuse_19 (by decide) gl_RX7_242 ?_
  refine pw_acmp_ne (tgt := 36) C dX7_refuse_22 (by decide) (by decide) (by decide) (fun q => absurd rfl q) (fun _ => ?_)
  exact pw_throw C hl hR hout hX (by decide) (by decide) (by decide +kernel) gx_k2 gx_i2 (C.2.2.2.2.2.2.2.2.2.2.2.2.2.1) gx_g2 gx_n2 gx_o2 dX7_refuse_25 dX7_refuse_28 dX7_refuse_29 dX7_refuse_32 dX7_refuse_35 ⟨rfl, rfl⟩
theorem k_X7_refuse3 {l : Launch} {G : gw_G} (hl9 : l.stackTraces = false) (σ : gw_S) : gw_MX l G yX7_refuse cX7_refuse 1 none 6 [.ref (G.2.2.2 3)] σ (fun _ _ => False) (fun j τ => j = 3 ∧ σ = τ) := by
  refine gw_metX (by decide) (Nat.le_of_ble_eq_true rfl) (fun x hxl C hR hout hX => ?_)
  have hl : (xl x).stackTraces = false := by rw [hxl]; exact hl9
  refine pw_aload_n (ls := [(0, .ref (G.2.2.2 3))]) C dX7_refuse_0 rfl 0 rfl ?_
  refine pw_gets (i := 1) C dX7_refuse_1 (by decide) gl_RX7_292 ?_
  refine pw_acmp_ne (tgt := 18) C dX7_refuse_4 (by decide) (by decide) (by decide) (fun _ => ?_) (fun q => absurd q (by decide))
  refine pw_aload_n C dX7_refuse_18 rfl 0 rfl ?_
  refine pw_gets (i := 2) C dX7_refuse_19 (by decide) gl_RX7_242 ?_
  refine pw_acmp_ne (tgt := 36) C dX7_refuse_22 (by decide) (by decide) (by decide) (fun _ => ?_) (fun q => absurd q (by decide))
  refine pw_aload_n C dX7_refuse_36 rfl 0 rfl ?_
  refine pw_gets (i := 3) C dX7_refuse_37 (by decide) gl_RX7_74 ?_
  refine pw_acmp_ne (tgt := 54) C dX7_refuse_40 (by decide) (by decide) (by decide) (fun q => absurd rfl q) (fun _ => ?_)
  exact pw_throw C hl hR hout hX (by decide) (by decide) (by decide +kernel) gx_k3 gx_i3 (C.2.2.2.2.2.2.2.2.2.2.2.2.2.2.1) gx_g3 gx_n3 gx_o3 dX7_refuse_43 dX7_refuse_46 dX7_refuse_47 dX7_refuse_50 dX7_refuse_53 ⟨rfl, rfl⟩
theorem k_X7_refuseT {l : Launch} {G : gw_G} (hl9 : l.stackTraces = false) (σ : gw_S) (i : Nat) (h0 : ¬ i = 0) (h4 : i < 4) : gw_MX l G yX7_refuse cX7_refuse 1 none 6 [.ref (G.2.2.2 i)] σ (fun _ _ => False) (fun j τ => j = i ∧ σ = τ) := by
  rcases (show i = 1 ∨ i = 2 ∨ i = 3 by omega) with rfl | rfl | rfl
  · exact k_X7_refuse1 hl9 σ
  · exact k_X7_refuse2 hl9 σ
  · exact k_X7_refuse3 hl9 σ
/-- a call of refuse, in a body that may throw -/
theorem gw_TX {x : gw_X} {G : gw_G} {own : String} {cc : ByteArray} {nL : Nat} {ret : Option FieldType} {Φ : Option Value → gw_S → Prop} {K : Nat → gw_S → Prop} (C : XC x G own cc nL ret) (hl : (xl x).stackTraces = false) (hR : gw_okX x 7) (hout : ∀ z ∈ (xc x).exceptionTable.toList, False) (hX : XE x G Φ K) : TX x G own cc nL K := by
  intro pc idx ls i σ hd hw hi hK h0
  by_cases h : i = 0
  · subst h
    refine pw_callS C hd (k_X7_refuse0 σ) gm_X7_refuse hw rfl (hR.ok hX) (by decide) (by decide) rfl (Nat.le_of_ble_eq_true rfl) ?_
    rintro _ _ ⟨rfl, rfl⟩
    exact h0 rfl
  · intro H locs arr hP hS hl'
    have hW := C.2.2.2.2.1
    intro T hT X
    have hr := vx_runS (p := xp x) (l := xl x) (e := xe x) (R := xR x) (below := xb x) (meth := xM x) (H := H) (locs := locs) (cells := xk x) (slots := xn x) (bytes := cX7_refuse) (maxL := 1) (ret := none) (n := 1) (index := idx) (As := [.ref (G.2.2.2 i)]) (rest := []) (g := F0 (xm x) pc arr [.ref (G.2.2.2 i)]) ⟨C.1, C.2.1, C.2.2.1, C.2.2.2.1, hW⟩ (k_X7_refuseT hl σ i h hi) ⟨callB_of 1 hW (gw_good gm_X7_refuse.1) rfl rfl rfl (hW _ gm_X7_refuse.2.2.1) (hW _ hw) gm_X7_refuse.2.2.2 ⟨Nat.le_trans (by decide) hR.1, Nat.le_trans (by decide) hR.2.1⟩, hW _ gm_X7_refuse.2.1⟩ ⟨gw_blind, fun U hU hW9 => ⟨rfl, by rw [hU]; exact hP, C.2.2.2.2.2.2.2.go hW9 hU hS⟩⟩ rfl rfl hl'.1 rfl (lv_room (Nat.le_of_ble_eq_true rfl)) hd ⟨by rw [hX.2.1]; exact hR.2.2.1, by rw [hX.2.2]; exact hR.2.2.2⟩
    rcases hr T hT X with ⟨v, st₀, t, T', L, e0, X', hL, e1, e2, ⟨⟨v', σ', hv, hp, hb⟩, hF⟩, st⟩ | ⟨q, st₀, t, T', L, E, ce, e0, X', hL, e1, e2, ⟨j, σ', hj0, hj4, rfl, ⟨rfl, rfl⟩, hPt, hF⟩, hce, hcv, hcl, st⟩
    · exact hp.elim
    · obtain ⟨k1, k2, k3⟩ := vx_keep (A0 := gw_A G) (A1 := gw_A G) (free := gw_A G) e0 e1 hS (fun _ _ h => h) (fun _ h => h) hL hF
      obtain ⟨t2, a1, b1⟩ := vx_out (Qc := gw_Q G Φ) (XC := gw_XC G K) (free := gw_A G) (mc := 1) (ms := 6) (pc := pc) (ls := arr) (rest := []) (E := gw_exn j) (ce := ce) (q := q) (fun z hz => (hout z hz).elim) C.2.2.2.2.2.2.1 (by rw [e1]; exact hce) hcv hcl (fun u hu hal => ⟨j, σ, hj0, hj4, rfl, hK h, by rw [hu, e1]; exact hPt, k3.F hu⟩) k3.2.2 (by rw [hX.2.1]; decide) (by rw [hX.2.2]; decide) T' rfl X'
      refine ⟨t2, st.trans a1, ?_⟩
      rw [hX.1]
      exact b1
