/-! the law's wrappers, one by one (laid by wip/whole/mkwraps.py) -/
theorem gc_L1 : Cond.classLink RL 28 (gw_exn 1) ∈ gw_tbl := gw_mem (List.mem_of_getElem? (i := 631) (by decide +kernel)) (by decide +kernel)
theorem gc_L2 : Cond.classLink RL 13 (gw_exn 2) ∈ gw_tbl := gw_mem (List.mem_of_getElem? (i := 376) (by decide +kernel)) (by decide +kernel)
theorem gc_L3 : Cond.classLink RL 15 (gw_exn 3) ∈ gw_tbl := gw_mem (List.mem_of_getElem? (i := 377) (by decide +kernel)) (by decide +kernel)
theorem gc_X1 : Cond.castable (gw_exn 1) (gw_exn 1) ∈ gw_nst := gw_nmem (List.mem_of_getElem? (i := 396) (by decide +kernel)) (by decide +kernel)
theorem gc_X2 : Cond.castable (gw_exn 2) (gw_exn 2) ∈ gw_nst := gw_nmem (List.mem_of_getElem? (i := 464) (by decide +kernel)) (by decide +kernel)
theorem gc_X3 : Cond.castable (gw_exn 3) (gw_exn 3) ∈ gw_nst := gw_nmem (List.mem_of_getElem? (i := 482) (by decide +kernel)) (by decide +kernel)
theorem aL_append (A : aS) (v1 : Int32) : (anAppend A v1).1 ∈ (0 :: [2, 3] : List Nat) := by
  unfold anAppend
  repeat' split
  all_goals (first | exact List.Mem.head _ | exact List.Mem.tail _ (List.Mem.head _) | exact List.Mem.tail _ (List.Mem.tail _ (List.Mem.head _)) | exact List.Mem.tail _ (List.Mem.tail _ (List.Mem.tail _ (List.Mem.head _))))
theorem aL_load (A : aS) : (anLoad A).1 ∈ (0 :: [3] : List Nat) := by
  unfold anLoad
  repeat' split
  all_goals (first | exact List.Mem.head _ | exact List.Mem.tail _ (List.Mem.head _) | exact List.Mem.tail _ (List.Mem.tail _ (List.Mem.head _)) | exact List.Mem.tail _ (List.Mem.tail _ (List.Mem.tail _ (List.Mem.head _))))
theorem aL_about (A : aS) (v1 : Int32) : (anAbout A v1).1 ∈ (0 :: [2] : List Nat) := by
  unfold anAbout
  repeat' split
  all_goals (first | exact List.Mem.head _ | exact List.Mem.tail _ (List.Mem.head _) | exact List.Mem.tail _ (List.Mem.tail _ (List.Mem.head _)) | exact List.Mem.tail _ (List.Mem.tail _ (List.Mem.tail _ (List.Mem.head _))))
theorem aL_module (A : aS) (v1 : Int32) (v2 : Int32) : (anModule A v1 v2).1 ∈ (0 :: [1, 2] : List Nat) := by
  unfold anModule
  repeat' split
  all_goals (first | exact List.Mem.head _ | exact List.Mem.tail _ (List.Mem.head _) | exact List.Mem.tail _ (List.Mem.tail _ (List.Mem.head _)) | exact List.Mem.tail _ (List.Mem.tail _ (List.Mem.tail _ (List.Mem.head _))))
theorem aL_wire (A : aS) (v1 : Int32) (v2 : Int32) : (anWire A v1 v2).1 ∈ (0 :: [1, 2] : List Nat) := by
  unfold anWire
  repeat' split
  all_goals (first | exact List.Mem.head _ | exact List.Mem.tail _ (List.Mem.head _) | exact List.Mem.tail _ (List.Mem.tail _ (List.Mem.head _)) | exact List.Mem.tail _ (List.Mem.tail _ (List.Mem.tail _ (List.Mem.head _))))
theorem aL_between (A : aS) (v1 : Int32) (v2 : Int32) : (anBetween A v1 v2).1 ∈ (0 :: [1] : List Nat) := by
  unfold anBetween
  repeat' split
  all_goals (first | exact List.Mem.head _ | exact List.Mem.tail _ (List.Mem.head _) | exact List.Mem.tail _ (List.Mem.tail _ (List.Mem.head _)) | exact List.Mem.tail _ (List.Mem.tail _ (List.Mem.tail _ (List.Mem.head _))))
theorem aL_addModule (A : aS) (v1 : Int32) (v2 : Int32) : (anAdd A v1 v2).1 ∈ (0 :: [2, 3] : List Nat) := by
  have h1 : (anAdd A v1 v2).1 = wfM A.2.1 v1 v2 := an_1
  rw [h1, wfM_e]
  repeat' split
  all_goals (first | exact List.Mem.head _ | exact List.Mem.tail _ (List.Mem.head _) | exact List.Mem.tail _ (List.Mem.tail _ (List.Mem.head _)) | exact List.Mem.tail _ (List.Mem.tail _ (List.Mem.tail _ (List.Mem.head _))))
theorem aL_lay (A : aS) (v1 : Int32) (v2 : Int32) (v3 : Int32) (v4 : Int32) (v5 : Int32) : (anLay A v1 v2 v3 v4 v5).1 ∈ (0 :: [1, 2, 3] : List Nat) := by
  have h1 : (anLay A v1 v2 v3 v4 v5).1 = wfW A.2.1 v1 v2 v3 v4 v5 := an_1
  rw [h1, wfW_e]
  repeat' split
  all_goals (first | exact List.Mem.head _ | exact List.Mem.tail _ (List.Mem.head _) | exact List.Mem.tail _ (List.Mem.tail _ (List.Mem.head _)) | exact List.Mem.tail _ (List.Mem.tail _ (List.Mem.tail _ (List.Mem.head _))))
theorem aL_cut (A : aS) (v1 : Int32) : (anCut A v1).1 ∈ (0 :: [1] : List Nat) := by
  unfold anCut
  repeat' split
  all_goals (first | exact List.Mem.head _ | exact List.Mem.tail _ (List.Mem.head _) | exact List.Mem.tail _ (List.Mem.tail _ (List.Mem.head _)) | exact List.Mem.tail _ (List.Mem.tail _ (List.Mem.tail _ (List.Mem.head _))))
theorem aL_put (A : aS) (v1 : Int32) (v2 : Int32) : (anPut A v1 v2).1 ∈ (0 :: [1, 2, 3] : List Nat) := by
  have h1 : (anPut A v1 v2).1 = wfH A.2.1 v1 v2 := an_1
  rw [h1, wfH_e]
  repeat' split
  all_goals (first | exact List.Mem.head _ | exact List.Mem.tail _ (List.Mem.head _) | exact List.Mem.tail _ (List.Mem.tail _ (List.Mem.head _)) | exact List.Mem.tail _ (List.Mem.tail _ (List.Mem.tail _ (List.Mem.head _))))
theorem aL_work (A : aS) (v1 : Int32) : (anWork A v1).1 ∈ (0 :: [1, 3] : List Nat) := by
  have h1 : (anWork A v1).1 = wfF A.2.1 v1 := an_1
  rw [h1, wfF_e]
  repeat' split
  all_goals (first | exact List.Mem.head _ | exact List.Mem.tail _ (List.Mem.head _) | exact List.Mem.tail _ (List.Mem.tail _ (List.Mem.head _)) | exact List.Mem.tail _ (List.Mem.tail _ (List.Mem.tail _ (List.Mem.head _))))
theorem aL_round (A : aS) (v1 : Int32) : (anRound A v1).1 ∈ (0 :: [2, 3] : List Nat) := by
  unfold anRound
  repeat' split
  all_goals (first | exact List.Mem.head _ | exact List.Mem.tail _ (List.Mem.head _) | exact List.Mem.tail _ (List.Mem.tail _ (List.Mem.head _)) | exact List.Mem.tail _ (List.Mem.tail _ (List.Mem.tail _ (List.Mem.head _))))
theorem aL_undo (A : aS) : (anUndo A).1 ∈ (0 :: [3] : List Nat) := by
  unfold anUndo
  repeat' split
  all_goals (first | exact List.Mem.head _ | exact List.Mem.tail _ (List.Mem.head _) | exact List.Mem.tail _ (List.Mem.tail _ (List.Mem.head _)) | exact List.Mem.tail _ (List.Mem.tail _ (List.Mem.tail _ (List.Mem.head _))))
theorem aL_order (A : aS) (v1 : Int32) (v2 : Int32) : (anOrder A v1 v2).1 ∈ (0 :: [2] : List Nat) := by
  unfold anOrder
  repeat' split
  all_goals (first | exact List.Mem.head _ | exact List.Mem.tail _ (List.Mem.head _) | exact List.Mem.tail _ (List.Mem.tail _ (List.Mem.head _)) | exact List.Mem.tail _ (List.Mem.tail _ (List.Mem.tail _ (List.Mem.head _))))
theorem aL_sticks (A : aS) (v1 : Int32) : (anSticks A v1).1 ∈ (0 :: [2] : List Nat) := by
  unfold anSticks
  repeat' split
  all_goals (first | exact List.Mem.head _ | exact List.Mem.tail _ (List.Mem.head _) | exact List.Mem.tail _ (List.Mem.tail _ (List.Mem.head _)) | exact List.Mem.tail _ (List.Mem.tail _ (List.Mem.tail _ (List.Mem.head _))))
theorem aL_holds (A : aS) (v1 : Int32) (v2 : Int32) : (anHolds A v1 v2).1 ∈ (0 :: [1, 2] : List Nat) := by
  unfold anHolds
  repeat' split
  all_goals (first | exact List.Mem.head _ | exact List.Mem.tail _ (List.Mem.head _) | exact List.Mem.tail _ (List.Mem.tail _ (List.Mem.head _)) | exact List.Mem.tail _ (List.Mem.tail _ (List.Mem.tail _ (List.Mem.head _))))
theorem aL_fewest (A : aS) (v1 : Int32) : (anFewest A v1).1 ∈ (0 :: [1] : List Nat) := by
  unfold anFewest
  repeat' split
  all_goals (first | exact List.Mem.head _ | exact List.Mem.tail _ (List.Mem.head _) | exact List.Mem.tail _ (List.Mem.tail _ (List.Mem.head _)) | exact List.Mem.tail _ (List.Mem.tail _ (List.Mem.tail _ (List.Mem.head _))))
theorem aL_agrees (A : aS) (v1 : Int32) (v2 : Int32) : (anAgrees A v1 v2).1 ∈ (0 :: [1, 2] : List Nat) := by
  unfold anAgrees
  repeat' split
  all_goals (first | exact List.Mem.head _ | exact List.Mem.tail _ (List.Mem.head _) | exact List.Mem.tail _ (List.Mem.tail _ (List.Mem.head _)) | exact List.Mem.tail _ (List.Mem.tail _ (List.Mem.tail _ (List.Mem.head _))))
theorem aL_runScript (A : aS) (v1 : Int32) (v2 : Int64) : (anScript A v1 v2).1 ∈ (0 :: [2] : List Nat) := by
  unfold anScript
  repeat' split
  all_goals (first | exact List.Mem.head _ | exact List.Mem.tail _ (List.Mem.head _) | exact List.Mem.tail _ (List.Mem.tail _ (List.Mem.head _)) | exact List.Mem.tail _ (List.Mem.tail _ (List.Mem.tail _ (List.Mem.head _))))
theorem aL_simulate (A : aS) (v1 : Int64) (v2 : Int32) : (anSim A v1 v2).1 ∈ (0 :: [2] : List Nat) := by
  unfold anSim
  repeat' split
  all_goals (first | exact List.Mem.head _ | exact List.Mem.tail _ (List.Mem.head _) | exact List.Mem.tail _ (List.Mem.tail _ (List.Mem.head _)) | exact List.Mem.tail _ (List.Mem.tail _ (List.Mem.tail _ (List.Mem.head _))))
theorem aL_save (A : aS) (v1 : Int32) : (anSave A v1).1 ∈ (0 :: [1] : List Nat) := by
  unfold anSave
  repeat' split
  all_goals (first | exact List.Mem.head _ | exact List.Mem.tail _ (List.Mem.head _) | exact List.Mem.tail _ (List.Mem.tail _ (List.Mem.head _)) | exact List.Mem.tail _ (List.Mem.tail _ (List.Mem.tail _ (List.Mem.head _))))
theorem aL_restore (A : aS) (v1 : Int32) : (anRestore A v1).1 ∈ (0 :: [1, 3] : List Nat) := by
  unfold anRestore
  repeat' split
  all_goals (first | exact List.Mem.head _ | exact List.Mem.tail _ (List.Mem.head _) | exact List.Mem.tail _ (List.Mem.tail _ (List.Mem.head _)) | exact List.Mem.tail _ (List.Mem.tail _ (List.Mem.tail _ (List.Mem.head _))))
section WR
variable {l : Launch} {G : gw_G} {σ : gw_S} {A : aS}
theorem w_append (hst : l.stackTraces = false) (h : CI σ A) (hv : VA A) (v1 : Int32) : gw_MH l G yL_append cL_append 4 [(0, 9, 12, 13), (0, 9, 15, 15)] 8 [.ref (G.1 + 0), .int v1, .ref (G.1 + 206)] σ (fi (wL [2, 3] (anAppend A v1) σ)) := by
  refine gw_metH (by decide) (Nat.le_of_ble_eq_true rfl) (fun x hxl C hR htab hX => ?_)
  have hRT := gw_RTu hX
  refine pw_aload_n C dL_append_0 rfl 2 rfl ?_
  refine pw_iconst (v := 0) C dL_append_1 (by decide) ?_
  refine pw_aload_n C dL_append_2 rfl 0 rfl ?_
  refine pw_iload_n C dL_append_3 rfl 1 rfl ?_
  refine pw_callVX C dL_append_4 (by rw [hxl]; exact f_append hst h hv v1) gm_X7_append gl_RL_7 rfl (D := 8) ⟨hR.1, hR.2.1⟩ ⟨by rw [hX.2.1]; exact hR.2.2.1, by rw [hX.2.2]; exact hR.2.2.2⟩ (by decide) (by decide) (ci := 6) (by decide) rfl gk_0.1 gk_0.2 rfl (Nat.le_of_ble_eq_true rfl) (fun r τ hr => ?_) (fun i τ hi hi4 hK => ?_)
  · refine pw_i2l (v := r.toInt64) (C.up 1 6) dL_append_7 rfl ?_
    refine pw_last (C.up 1 6) dL_append_8 gk_206.1 gk_206.2 (vp_in_nI (n := 0) (N := 1) (by decide) (by decide)) ?_
    refine pw_goto (tgt := 18) (C.up 1 6) dL_append_9 (by decide) ?_
    refine pw_iconst (v := 0) (C.up 1 6) dL_append_18 (by decide) ?_
    exact pw_iret (C.up 1 6) hRT dL_append_19 (wL_y hr (by rw [gc0]))
  · have hm : i ∈ (0 :: [2, 3] : List Nat) := by rw [hK.1]; exact aL_append A v1
    have hc : i = 2 ∨ i = 3 := by
      simp only [List.mem_cons, List.not_mem_nil, or_false] at hm; omega
    rcases hc with rfl | rfl
    · refine ew_catch (C.up 1 6) [] (⟨0, 9, 12, 13⟩ : ExceptionTableEntry) [(⟨0, 9, 15, 15⟩ : ExceptionTableEntry)] (htab.trans rfl) (fun z hz => absurd hz List.not_mem_nil) (by decide) (by decide) gc_L2 gc_X2 hi hi4 (fun q => ?_)
      refine pw_astore_n (C.up 1 6) dL_append_12 rfl (by decide) rfl ?_
      refine pw_iconst (v := nI 1) (C.up 1 6) dL_append_13 (by decide) ?_
      exact pw_iret (C.up 1 6) hRT dL_append_14 (wL_x hK hi (by decide))
    · refine ew_catch (C.up 1 6) [(⟨0, 9, 12, 13⟩ : ExceptionTableEntry)] (⟨0, 9, 15, 15⟩ : ExceptionTableEntry) [] (htab.trans rfl) (fun z hz => by rw [List.mem_singleton.mp hz]; exact ⟨by decide, 2, by decide, by decide, by decide, gc_L2⟩) (by decide) (by decide) gc_L3 gc_X3 hi hi4 (fun q => ?_)
      refine pw_astore_n (C.up 1 6) dL_append_15 rfl (by decide) rfl ?_
      refine pw_iconst (v := nI 2) (C.up 1 6) dL_append_16 (by decide) ?_
      exact pw_iret (C.up 1 6) hRT dL_append_17 (wL_x hK hi (by decide))
theorem w_load (hst : l.stackTraces = false) (h : CI σ A) (hv : VA A) : gw_MH l G yL_load cL_load 3 [(0, 8, 11, 15)] 8 [.ref (G.1 + 0), .ref (G.1 + 206)] σ (fi (wL [3] (anLoad A) σ)) := by
  refine gw_metH (by decide) (Nat.le_of_ble_eq_true rfl) (fun x hxl C hR htab hX => ?_)
  have hRT := gw_RTu hX
  refine pw_aload_n C dL_load_0 rfl 1 rfl ?_
  refine pw_iconst (v := 0) C dL_load_1 (by decide) ?_
  refine pw_aload_n C dL_load_2 rfl 0 rfl ?_
  refine pw_callVX C dL_load_3 (by rw [hxl]; exact f_load hst h hv) gm_X7_load gl_RL_17 rfl (D := 8) ⟨hR.1, hR.2.1⟩ ⟨by rw [hX.2.1]; exact hR.2.2.1, by rw [hX.2.2]; exact hR.2.2.2⟩ (by decide) (by decide) (ci := 6) (by decide) rfl gk_0.1 gk_0.2 rfl (Nat.le_of_ble_eq_true rfl) (fun r τ hr => ?_) (fun i τ hi hi4 hK => ?_)
  · refine pw_i2l (v := r.toInt64) (C.up 1 6) dL_load_6 rfl ?_
    refine pw_last (C.up 1 6) dL_load_7 gk_206.1 gk_206.2 (vp_in_nI (n := 0) (N := 1) (by decide) (by decide)) ?_
    refine pw_goto (tgt := 14) (C.up 1 6) dL_load_8 (by decide) ?_
    refine pw_iconst (v := 0) (C.up 1 6) dL_load_14 (by decide) ?_
    exact pw_iret (C.up 1 6) hRT dL_load_15 (wL_y hr (by rw [gc0]))
  · have hm : i ∈ (0 :: [3] : List Nat) := by rw [hK.1]; exact aL_load A
    have hc : i = 3 := by
      simp only [List.mem_cons, List.not_mem_nil, or_false] at hm; omega
    subst hc
    refine ew_catch (C.up 1 6) [] (⟨0, 8, 11, 15⟩ : ExceptionTableEntry) [] (htab.trans rfl) (fun z hz => absurd hz List.not_mem_nil) (by decide) (by decide) gc_L3 gc_X3 hi hi4 (fun q => ?_)
    refine pw_astore_n (C.up 1 6) dL_load_11 rfl (by decide) rfl ?_
    refine pw_iconst (v := nI 1) (C.up 1 6) dL_load_12 (by decide) ?_
    exact pw_iret (C.up 1 6) hRT dL_load_13 (wL_x hK hi (by decide))
theorem w_about (hst : l.stackTraces = false) (h : CI σ A) (hv : VA A) (v1 : Int32) : gw_MH l G yL_about cL_about 4 [(0, 9, 12, 13)] 8 [.ref (G.1 + 0), .int v1, .ref (G.1 + 206)] σ (fi (wL [2] (anAbout A v1) σ)) := by
  refine gw_metH (by decide) (Nat.le_of_ble_eq_true rfl) (fun x hxl C hR htab hX => ?_)
  have hRT := gw_RTu hX
  refine pw_aload_n C dL_about_0 rfl 2 rfl ?_
  refine pw_iconst (v := 0) C dL_about_1 (by decide) ?_
  refine pw_aload_n C dL_about_2 rfl 0 rfl ?_
  refine pw_iload_n C dL_about_3 rfl 1 rfl ?_
  refine pw_callVX C dL_about_4 (by rw [hxl]; exact f_about hst h hv v1) gm_X7_about gl_RL_21 rfl (D := 8) ⟨hR.1, hR.2.1⟩ ⟨by rw [hX.2.1]; exact hR.2.2.1, by rw [hX.2.2]; exact hR.2.2.2⟩ (by decide) (by decide) (ci := 6) (by decide) rfl gk_0.1 gk_0.2 rfl (Nat.le_of_ble_eq_true rfl) (fun r τ hr => ?_) (fun i τ hi hi4 hK => ?_)
  · refine pw_i2l (v := r.toInt64) (C.up 1 6) dL_about_7 rfl ?_
    refine pw_last (C.up 1 6) dL_about_8 gk_206.1 gk_206.2 (vp_in_nI (n := 0) (N := 1) (by decide) (by decide)) ?_
    refine pw_goto (tgt := 15) (C.up 1 6) dL_about_9 (by decide) ?_
    refine pw_iconst (v := 0) (C.up 1 6) dL_about_15 (by decide) ?_
    exact pw_iret (C.up 1 6) hRT dL_about_16 (wL_y hr (by rw [gc0]))
  · have hm : i ∈ (0 :: [2] : List Nat) := by rw [hK.1]; exact aL_about A v1
    have hc : i = 2 := by
      simp only [List.mem_cons, List.not_mem_nil, or_false] at hm; omega
    subst hc
    refine ew_catch (C.up 1 6) [] (⟨0, 9, 12, 13⟩ : ExceptionTableEntry) [] (htab.trans rfl) (fun z hz => absurd hz List.not_mem_nil) (by decide) (by decide) gc_L2 gc_X2 hi hi4 (fun q => ?_)
    refine pw_astore_n (C.up 1 6) dL_about_12 rfl (by decide) rfl ?_
    refine pw_iconst (v := nI 1) (C.up 1 6) dL_about_13 (by decide) ?_
    exact pw_iret (C.up 1 6) hRT dL_about_14 (wL_x hK hi (by decide))
theorem w_module (hst : l.stackTraces = false) (h : CI σ A) (hv : VA A) (v1 : Int32) (v2 : Int32) : gw_MH l G yL_module cL_module 5 [(0, 10, 13, 28), (0, 10, 17, 13)] 8 [.ref (G.1 + 0), .int v1, .int v2, .ref (G.1 + 206)] σ (fi (wL [1, 2] (anModule A v1 v2) σ)) := by
  refine gw_metH (by decide) (Nat.le_of_ble_eq_true rfl) (fun x hxl C hR htab hX => ?_)
  have hRT := gw_RTu hX
  refine pw_aload_n C dL_module_0 rfl 3 rfl ?_
  refine pw_iconst (v := 0) C dL_module_1 (by decide) ?_
  refine pw_aload_n C dL_module_2 rfl 0 rfl ?_
  refine pw_iload_n C dL_module_3 rfl 1 rfl ?_
  refine pw_iload_n C dL_module_4 rfl 2 rfl ?_
  refine pw_callVX C dL_module_5 (by rw [hxl]; exact f_module hst h hv v1 v2) gm_X7_module gl_RL_24 rfl (D := 8) ⟨hR.1, hR.2.1⟩ ⟨by rw [hX.2.1]; exact hR.2.2.1, by rw [hX.2.2]; exact hR.2.2.2⟩ (by decide) (by decide) (ci := 6) (by decide) rfl gk_0.1 gk_0.2 rfl (Nat.le_of_ble_eq_true rfl) (fun r τ hr => ?_) (fun i τ hi hi4 hK => ?_)
  · refine pw_i2l (v := r.toInt64) (C.up 1 6) dL_module_8 rfl ?_
    refine pw_last (C.up 1 6) dL_module_9 gk_206.1 gk_206.2 (vp_in_nI (n := 0) (N := 1) (by decide) (by decide)) ?_
    refine pw_goto (tgt := 21) (C.up 1 6) dL_module_10 (by decide) ?_
    refine pw_iconst (v := 0) (C.up 1 6) dL_module_21 (by decide) ?_
    exact pw_iret (C.up 1 6) hRT dL_module_22 (wL_y hr (by rw [gc0]))
  · have hm : i ∈ (0 :: [1, 2] : List Nat) := by rw [hK.1]; exact aL_module A v1 v2
    have hc : i = 1 ∨ i = 2 := by
      simp only [List.mem_cons, List.not_mem_nil, or_false] at hm; omega
    rcases hc with rfl | rfl
    · refine ew_catch (C.up 1 6) [] (⟨0, 10, 13, 28⟩ : ExceptionTableEntry) [(⟨0, 10, 17, 13⟩ : ExceptionTableEntry)] (htab.trans rfl) (fun z hz => absurd hz List.not_mem_nil) (by decide) (by decide) gc_L1 gc_X1 hi hi4 (fun q => ?_)
      refine pw_astore (C.up 1 6) dL_module_13 (by decide) rfl ?_
      refine pw_iconst (v := nI 1) (C.up 1 6) dL_module_15 (by decide) ?_
      exact pw_iret (C.up 1 6) hRT dL_module_16 (wL_x hK hi (by decide))
    · refine ew_catch (C.up 1 6) [(⟨0, 10, 13, 28⟩ : ExceptionTableEntry)] (⟨0, 10, 17, 13⟩ : ExceptionTableEntry) [] (htab.trans rfl) (fun z hz => by rw [List.mem_singleton.mp hz]; exact ⟨by decide, 1, by decide, by decide, by decide, gc_L1⟩) (by decide) (by decide) gc_L2 gc_X2 hi hi4 (fun q => ?_)
      refine pw_astore (C.up 1 6) dL_module_17 (by decide) rfl ?_
      refine pw_iconst (v := nI 2) (C.up 1 6) dL_module_19 (by decide) ?_
      exact pw_iret (C.up 1 6) hRT dL_module_20 (wL_x hK hi (by decide))
theorem w_wire (hst : l.stackTraces = false) (h : CI σ A) (hv : VA A) (v1 : Int32) (v2 : Int32) : gw_MH l G yL_wire cL_wire 5 [(0, 10, 13, 28), (0, 10, 17, 13)] 8 [.ref (G.1 + 0), .int v1, .int v2, .ref (G.1 + 206)] σ (fi (wL [1, 2] (anWire A v1 v2) σ)) := by
  refine gw_metH (by decide) (Nat.le_of_ble_eq_true rfl) (fun x hxl C hR htab hX => ?_)
  have hRT := gw_RTu hX
  refine pw_aload_n C dL_wire_0 rfl 3 rfl ?_
  refine pw_iconst (v := 0) C dL_wire_1 (by decide) ?_
  refine pw_aload_n C dL_wire_2 rfl 0 rfl ?_
  refine pw_iload_n C dL_wire_3 rfl 1 rfl ?_
  refine pw_iload_n C dL_wire_4 rfl 2 rfl ?_
  refine pw_callVX C dL_wire_5 (by rw [hxl]; exact f_wire hst h hv v1 v2) gm_X7_wire gl_RL_30 rfl (D := 8) ⟨hR.1, hR.2.1⟩ ⟨by rw [hX.2.1]; exact hR.2.2.1, by rw [hX.2.2]; exact hR.2.2.2⟩ (by decide) (by decide) (ci := 6) (by decide) rfl gk_0.1 gk_0.2 rfl (Nat.le_of_ble_eq_true rfl) (fun r τ hr => ?_) (fun i τ hi hi4 hK => ?_)
  · refine pw_i2l (v := r.toInt64) (C.up 1 6) dL_wire_8 rfl ?_
    refine pw_last (C.up 1 6) dL_wire_9 gk_206.1 gk_206.2 (vp_in_nI (n := 0) (N := 1) (by decide) (by decide)) ?_
    refine pw_goto (tgt := 21) (C.up 1 6) dL_wire_10 (by decide) ?_
    refine pw_iconst (v := 0) (C.up 1 6) dL_wire_21 (by decide) ?_
    exact pw_iret (C.up 1 6) hRT dL_wire_22 (wL_y hr (by rw [gc0]))
  · have hm : i ∈ (0 :: [1, 2] : List Nat) := by rw [hK.1]; exact aL_wire A v1 v2
    have hc : i = 1 ∨ i = 2 := by
      simp only [List.mem_cons, List.not_mem_nil, or_false] at hm; omega
    rcases hc with rfl | rfl
    · refine ew_catch (C.up 1 6) [] (⟨0, 10, 13, 28⟩ : ExceptionTableEntry) [(⟨0, 10, 17, 13⟩ : ExceptionTableEntry)] (htab.trans rfl) (fun z hz => absurd hz List.not_mem_nil) (by decide) (by decide) gc_L1 gc_X1 hi hi4 (fun q => ?_)
      refine pw_astore (C.up 1 6) dL_wire_13 (by decide) rfl ?_
      refine pw_iconst (v := nI 1) (C.up 1 6) dL_wire_15 (by decide) ?_
      exact pw_iret (C.up 1 6) hRT dL_wire_16 (wL_x hK hi (by decide))
    · refine ew_catch (C.up 1 6) [(⟨0, 10, 13, 28⟩ : ExceptionTableEntry)] (⟨0, 10, 17, 13⟩ : ExceptionTableEntry) [] (htab.trans rfl) (fun z hz => by rw [List.mem_singleton.mp hz]; exact ⟨by decide, 1, by decide, by decide, by decide, gc_L1⟩) (by decide) (by decide) gc_L2 gc_X2 hi hi4 (fun q => ?_)
      refine pw_astore (C.up 1 6) dL_wire_17 (by decide) rfl ?_
      refine pw_iconst (v := nI 2) (C.up 1 6) dL_wire_19 (by decide) ?_
      exact pw_iret (C.up 1 6) hRT dL_wire_20 (wL_x hK hi (by decide))
theorem w_between (hst : l.stackTraces = false) (h : CI σ A) (hv : VA A) (v1 : Int32) (v2 : Int32) : gw_MH l G yL_between cL_between 5 [(0, 10, 13, 28)] 8 [.ref (G.1 + 0), .int v1, .int v2, .ref (G.1 + 206)] σ (fi (wL [1] (anBetween A v1 v2) σ)) := by
  refine gw_metH (by decide) (Nat.le_of_ble_eq_true rfl) (fun x hxl C hR htab hX => ?_)
  have hRT := gw_RTu hX
  refine pw_aload_n C dL_between_0 rfl 3 rfl ?_
  refine pw_iconst (v := 0) C dL_between_1 (by decide) ?_
  refine pw_aload_n C dL_between_2 rfl 0 rfl ?_
  refine pw_iload_n C dL_between_3 rfl 1 rfl ?_
  refine pw_iload_n C dL_between_4 rfl 2 rfl ?_
  refine pw_callVX C dL_between_5 (by rw [hxl]; exact f_between hst h hv v1 v2) gm_X7_between gl_RL_33 rfl (D := 8) ⟨hR.1, hR.2.1⟩ ⟨by rw [hX.2.1]; exact hR.2.2.1, by rw [hX.2.2]; exact hR.2.2.2⟩ (by decide) (by decide) (ci := 6) (by decide) rfl gk_0.1 gk_0.2 rfl (Nat.le_of_ble_eq_true rfl) (fun r τ hr => ?_) (fun i τ hi hi4 hK => ?_)
  · refine pw_i2l (v := r.toInt64) (C.up 1 6) dL_between_8 rfl ?_
    refine pw_last (C.up 1 6) dL_between_9 gk_206.1 gk_206.2 (vp_in_nI (n := 0) (N := 1) (by decide) (by decide)) ?_
    refine pw_goto (tgt := 17) (C.up 1 6) dL_between_10 (by decide) ?_
    refine pw_iconst (v := 0) (C.up 1 6) dL_between_17 (by decide) ?_
    exact pw_iret (C.up 1 6) hRT dL_between_18 (wL_y hr (by rw [gc0]))
  · have hm : i ∈ (0 :: [1] : List Nat) := by rw [hK.1]; exact aL_between A v1 v2
    have hc : i = 1 := by
      simp only [List.mem_cons, List.not_mem_nil, or_false] at hm; omega
    subst hc
    refine ew_catch (C.up 1 6) [] (⟨0, 10, 13, 28⟩ : ExceptionTableEntry) [] (htab.trans rfl) (fun z hz => absurd hz List.not_mem_nil) (by decide) (by decide) gc_L1 gc_X1 hi hi4 (fun q => ?_)
    refine pw_astore (C.up 1 6) dL_between_13 (by decide) rfl ?_
    refine pw_iconst (v := nI 1) (C.up 1 6) dL_between_15 (by decide) ?_
    exact pw_iret (C.up 1 6) hRT dL_between_16 (wL_x hK hi (by decide))
theorem w_addModule (hst : l.stackTraces = false) (h : CI σ A) (hv : VA A) (v1 : Int32) (v2 : Int32) : gw_MH l G yL_addModule cL_addModule 5 [(0, 10, 13, 13), (0, 10, 17, 15)] 8 [.ref (G.1 + 0), .int v1, .int v2, .ref (G.1 + 206)] σ (fi (wL [2, 3] (anAdd A v1 v2) σ)) := by
  refine gw_metH (by decide) (Nat.le_of_ble_eq_true rfl) (fun x hxl C hR htab hX => ?_)
  have hRT := gw_RTu hX
  refine pw_aload_n C dL_addModule_0 rfl 3 rfl ?_
  refine pw_iconst (v := 0) C dL_addModule_1 (by decide) ?_
  refine pw_aload_n C dL_addModule_2 rfl 0 rfl ?_
  refine pw_iload_n C dL_addModule_3 rfl 1 rfl ?_
  refine pw_iload_n C dL_addModule_4 rfl 2 rfl ?_
  refine pw_callVX C dL_addModule_5 (by rw [hxl]; exact f_addModule hst h hv v1 v2) gm_X7_addModule gl_RL_36 rfl (D := 8) ⟨hR.1, hR.2.1⟩ ⟨by rw [hX.2.1]; exact hR.2.2.1, by rw [hX.2.2]; exact hR.2.2.2⟩ (by decide) (by decide) (ci := 6) (by decide) rfl gk_0.1 gk_0.2 rfl (Nat.le_of_ble_eq_true rfl) (fun r τ hr => ?_) (fun i τ hi hi4 hK => ?_)
  · refine pw_i2l (v := r.toInt64) (C.up 1 6) dL_addModule_8 rfl ?_
    refine pw_last (C.up 1 6) dL_addModule_9 gk_206.1 gk_206.2 (vp_in_nI (n := 0) (N := 1) (by decide) (by decide)) ?_
    refine pw_goto (tgt := 21) (C.up 1 6) dL_addModule_10 (by decide) ?_
    refine pw_iconst (v := 0) (C.up 1 6) dL_addModule_21 (by decide) ?_
    exact pw_iret (C.up 1 6) hRT dL_addModule_22 (wL_y hr (by rw [gc0]))
  · have hm : i ∈ (0 :: [2, 3] : List Nat) := by rw [hK.1]; exact aL_addModule A v1 v2
    have hc : i = 2 ∨ i = 3 := by
      simp only [List.mem_cons, List.not_mem_nil, or_false] at hm; omega
    rcases hc with rfl | rfl
    · refine ew_catch (C.up 1 6) [] (⟨0, 10, 13, 13⟩ : ExceptionTableEntry) [(⟨0, 10, 17, 15⟩ : ExceptionTableEntry)] (htab.trans rfl) (fun z hz => absurd hz List.not_mem_nil) (by decide) (by decide) gc_L2 gc_X2 hi hi4 (fun q => ?_)
      refine pw_astore (C.up 1 6) dL_addModule_13 (by decide) rfl ?_
      refine pw_iconst (v := nI 1) (C.up 1 6) dL_addModule_15 (by decide) ?_
      exact pw_iret (C.up 1 6) hRT dL_addModule_16 (wL_x hK hi (by decide))
    · refine ew_catch (C.up 1 6) [(⟨0, 10, 13, 13⟩ : ExceptionTableEntry)] (⟨0, 10, 17, 15⟩ : ExceptionTableEntry) [] (htab.trans rfl) (fun z hz => by rw [List.mem_singleton.mp hz]; exact ⟨by decide, 2, by decide, by decide, by decide, gc_L2⟩) (by decide) (by decide) gc_L3 gc_X3 hi hi4 (fun q => ?_)
      refine pw_astore (C.up 1 6) dL_addModule_17 (by decide) rfl ?_
      refine pw_iconst (v := nI 2) (C.up 1 6) dL_addModule_19 (by decide) ?_
      exact pw_iret (C.up 1 6) hRT dL_addModule_20 (wL_x hK hi (by decide))
theorem w_lay (hst : l.stackTraces = false) (h : CI σ A) (hv : VA A) (v1 : Int32) (v2 : Int32) (v3 : Int32) (v4 : Int32) (v5 : Int32) : gw_MH l G yL_lay cL_lay 8 [(0, 16, 19, 28), (0, 16, 23, 13), (0, 16, 27, 15)] 8 [.ref (G.1 + 0), .int v1, .int v2, .int v3, .int v4, .int v5, .ref (G.1 + 206)] σ (fi (wL [1, 2, 3] (anLay A v1 v2 v3 v4 v5) σ)) := by
  refine gw_metH (by decide) (Nat.le_of_ble_eq_true rfl) (fun x hxl C hR htab hX => ?_)
  have hRT := gw_RTu hX
  refine pw_aload C dL_lay_0 6 rfl ?_
  refine pw_iconst (v := 0) C dL_lay_2 (by decide) ?_
  refine pw_aload_n C dL_lay_3 rfl 0 rfl ?_
  refine pw_iload_n C dL_lay_4 rfl 1 rfl ?_
  refine pw_iload_n C dL_lay_5 rfl 2 rfl ?_
  refine pw_iload_n C dL_lay_6 rfl 3 rfl ?_
  refine pw_iload C dL_lay_7 4 rfl ?_
  refine pw_iload C dL_lay_9 5 rfl ?_
  refine pw_callVX C dL_lay_11 (by rw [hxl]; exact f_lay hst h hv v1 v2 v3 v4 v5) gm_X7_lay gl_RL_39 rfl (D := 8) ⟨hR.1, hR.2.1⟩ ⟨by rw [hX.2.1]; exact hR.2.2.1, by rw [hX.2.2]; exact hR.2.2.2⟩ (by decide) (by decide) (ci := 6) (by decide) rfl gk_0.1 gk_0.2 rfl (Nat.le_of_ble_eq_true rfl) (fun r τ hr => ?_) (fun i τ hi hi4 hK => ?_)
  · refine pw_i2l (v := r.toInt64) (C.up 1 6) dL_lay_14 rfl ?_
    refine pw_last (C.up 1 6) dL_lay_15 gk_206.1 gk_206.2 (vp_in_nI (n := 0) (N := 1) (by decide) (by decide)) ?_
    refine pw_goto (tgt := 31) (C.up 1 6) dL_lay_16 (by decide) ?_
    refine pw_iconst (v := 0) (C.up 1 6) dL_lay_31 (by decide) ?_
    exact pw_iret (C.up 1 6) hRT dL_lay_32 (wL_y hr (by rw [gc0]))
  · have hm : i ∈ (0 :: [1, 2, 3] : List Nat) := by rw [hK.1]; exact aL_lay A v1 v2 v3 v4 v5
    have hc : i = 1 ∨ i = 2 ∨ i = 3 := by
      simp only [List.mem_cons, List.not_mem_nil, or_false] at hm; omega
    rcases hc with rfl | rfl | rfl
    · refine ew_catch (C.up 1 6) [] (⟨0, 16, 19, 28⟩ : ExceptionTableEntry) [(⟨0, 16, 23, 13⟩ : ExceptionTableEntry), (⟨0, 16, 27, 15⟩ : ExceptionTableEntry)] (htab.trans rfl) (fun z hz => absurd hz List.not_mem_nil) (by decide) (by decide) gc_L1 gc_X1 hi hi4 (fun q => ?_)
      refine pw_astore (C.up 1 6) dL_lay_19 (by decide) rfl ?_
      refine pw_iconst (v := nI 1) (C.up 1 6) dL_lay_21 (by decide) ?_
      exact pw_iret (C.up 1 6) hRT dL_lay_22 (wL_x hK hi (by decide))
    · refine ew_catch (C.up 1 6) [(⟨0, 16, 19, 28⟩ : ExceptionTableEntry)] (⟨0, 16, 23, 13⟩ : ExceptionTableEntry) [(⟨0, 16, 27, 15⟩ : ExceptionTableEntry)] (htab.trans rfl) (fun z hz => by rw [List.mem_singleton.mp hz]; exact ⟨by decide, 1, by decide, by decide, by decide, gc_L1⟩) (by decide) (by decide) gc_L2 gc_X2 hi hi4 (fun q => ?_)
      refine pw_astore (C.up 1 6) dL_lay_23 (by decide) rfl ?_
      refine pw_iconst (v := nI 2) (C.up 1 6) dL_lay_25 (by decide) ?_
      exact pw_iret (C.up 1 6) hRT dL_lay_26 (wL_x hK hi (by decide))
    · have hps : ∀ z ∈ [(⟨0, 16, 19, 28⟩ : ExceptionTableEntry), (⟨0, 16, 23, 13⟩ : ExceptionTableEntry)], z.catchType ≠ 0 ∧ ∃ j, 0 < j ∧ j < 4 ∧ ¬ 3 = j ∧ Cond.classLink RL z.catchType (gw_exn j) ∈ gw_tbl := fun z hz => by
        rcases List.mem_cons.mp hz with e | e
        · rw [e]; exact ⟨by decide, 1, by decide, by decide, by decide, gc_L1⟩
        · rw [List.mem_singleton.mp e]; exact ⟨by decide, 2, by decide, by decide, by decide, gc_L2⟩
      refine ew_catch (C.up 1 6) [(⟨0, 16, 19, 28⟩ : ExceptionTableEntry), (⟨0, 16, 23, 13⟩ : ExceptionTableEntry)] (⟨0, 16, 27, 15⟩ : ExceptionTableEntry) [] (htab.trans rfl) hps (by decide) (by decide) gc_L3 gc_X3 hi hi4 (fun q => ?_)
      refine pw_astore (C.up 1 6) dL_lay_27 (by decide) rfl ?_
      refine pw_iconst (v := nI 3) (C.up 1 6) dL_lay_29 (by decide) ?_
      exact pw_iret (C.up 1 6) hRT dL_lay_30 (wL_x hK hi (by decide))
theorem w_cut (hst : l.stackTraces = false) (h : CI σ A) (hv : VA A) (v1 : Int32) : gw_MH l G yL_cut cL_cut 4 [(0, 9, 12, 28)] 8 [.ref (G.1 + 0), .int v1, .ref (G.1 + 206)] σ (fi (wL [1] (anCut A v1) σ)) := by
  refine gw_metH (by decide) (Nat.le_of_ble_eq_true rfl) (fun x hxl C hR htab hX => ?_)
  have hRT := gw_RTu hX
  refine pw_aload_n C dL_cut_0 rfl 2 rfl ?_
  refine pw_iconst (v := 0) C dL_cut_1 (by decide) ?_
  refine pw_aload_n C dL_cut_2 rfl 0 rfl ?_
  refine pw_iload_n C dL_cut_3 rfl 1 rfl ?_
  refine pw_callVX C dL_cut_4 (by rw [hxl]; exact f_cut hst h hv v1) gm_X7_cut gl_RL_43 rfl (D := 8) ⟨hR.1, hR.2.1⟩ ⟨by rw [hX.2.1]; exact hR.2.2.1, by rw [hX.2.2]; exact hR.2.2.2⟩ (by decide) (by decide) (ci := 6) (by decide) rfl gk_0.1 gk_0.2 rfl (Nat.le_of_ble_eq_true rfl) (fun r τ hr => ?_) (fun i τ hi hi4 hK => ?_)
  · refine pw_i2l (v := r.toInt64) (C.up 1 6) dL_cut_7 rfl ?_
    refine pw_last (C.up 1 6) dL_cut_8 gk_206.1 gk_206.2 (vp_in_nI (n := 0) (N := 1) (by decide) (by decide)) ?_
    refine pw_goto (tgt := 15) (C.up 1 6) dL_cut_9 (by decide) ?_
    refine pw_iconst (v := 0) (C.up 1 6) dL_cut_15 (by decide) ?_
    exact pw_iret (C.up 1 6) hRT dL_cut_16 (wL_y hr (by rw [gc0]))
  · have hm : i ∈ (0 :: [1] : List Nat) := by rw [hK.1]; exact aL_cut A v1
    have hc : i = 1 := by
      simp only [List.mem_cons, List.not_mem_nil, or_false] at hm; omega
    subst hc
    refine ew_catch (C.up 1 6) [] (⟨0, 9, 12, 28⟩ : ExceptionTableEntry) [] (htab.trans rfl) (fun z hz => absurd hz List.not_mem_nil) (by decide) (by decide) gc_L1 gc_X1 hi hi4 (fun q => ?_)
    refine pw_astore_n (C.up 1 6) dL_cut_12 rfl (by decide) rfl ?_
    refine pw_iconst (v := nI 1) (C.up 1 6) dL_cut_13 (by decide) ?_
    exact pw_iret (C.up 1 6) hRT dL_cut_14 (wL_x hK hi (by decide))
theorem w_put (hst : l.stackTraces = false) (h : CI σ A) (hv : VA A) (v1 : Int32) (v2 : Int32) : gw_MH l G yL_put cL_put 5 [(0, 10, 13, 28), (0, 10, 17, 13), (0, 10, 21, 15)] 8 [.ref (G.1 + 0), .int v1, .int v2, .ref (G.1 + 206)] σ (fi (wL [1, 2, 3] (anPut A v1 v2) σ)) := by
  refine gw_metH (by decide) (Nat.le_of_ble_eq_true rfl) (fun x hxl C hR htab hX => ?_)
  have hRT := gw_RTu hX
  refine pw_aload_n C dL_put_0 rfl 3 rfl ?_
  refine pw_iconst (v := 0) C dL_put_1 (by decide) ?_
  refine pw_aload_n C dL_put_2 rfl 0 rfl ?_
  refine pw_iload_n C dL_put_3 rfl 1 rfl ?_
  refine pw_iload_n C dL_put_4 rfl 2 rfl ?_
  refine pw_callVX C dL_put_5 (by rw [hxl]; exact f_put hst h hv v1 v2) gm_X7_put gl_RL_46 rfl (D := 8) ⟨hR.1, hR.2.1⟩ ⟨by rw [hX.2.1]; exact hR.2.2.1, by rw [hX.2.2]; exact hR.2.2.2⟩ (by decide) (by decide) (ci := 6) (by decide) rfl gk_0.1 gk_0.2 rfl (Nat.le_of_ble_eq_true rfl) (fun r τ hr => ?_) (fun i τ hi hi4 hK => ?_)
  · refine pw_i2l (v := r.toInt64) (C.up 1 6) dL_put_8 rfl ?_
    refine pw_last (C.up 1 6) dL_put_9 gk_206.1 gk_206.2 (vp_in_nI (n := 0) (N := 1) (by decide) (by decide)) ?_
    refine pw_goto (tgt := 25) (C.up 1 6) dL_put_10 (by decide) ?_
    refine pw_iconst (v := 0) (C.up 1 6) dL_put_25 (by decide) ?_
    exact pw_iret (C.up 1 6) hRT dL_put_26 (wL_y hr (by rw [gc0]))
  · have hm : i ∈ (0 :: [1, 2, 3] : List Nat) := by rw [hK.1]; exact aL_put A v1 v2
    have hc : i = 1 ∨ i = 2 ∨ i = 3 := by
      simp only [List.mem_cons, List.not_mem_nil, or_false] at hm; omega
    rcases hc with rfl | rfl | rfl
    · refine ew_catch (C.up 1 6) [] (⟨0, 10, 13, 28⟩ : ExceptionTableEntry) [(⟨0, 10, 17, 13⟩ : ExceptionTableEntry), (⟨0, 10, 21, 15⟩ : ExceptionTableEntry)] (htab.trans rfl) (fun z hz => absurd hz List.not_mem_nil) (by decide) (by decide) gc_L1 gc_X1 hi hi4 (fun q => ?_)
      refine pw_astore (C.up 1 6) dL_put_13 (by decide) rfl ?_
      refine pw_iconst (v := nI 1) (C.up 1 6) dL_put_15 (by decide) ?_
      exact pw_iret (C.up 1 6) hRT dL_put_16 (wL_x hK hi (by decide))
    · refine ew_catch (C.up 1 6) [(⟨0, 10, 13, 28⟩ : ExceptionTableEntry)] (⟨0, 10, 17, 13⟩ : ExceptionTableEntry) [(⟨0, 10, 21, 15⟩ : ExceptionTableEntry)] (htab.trans rfl) (fun z hz => by rw [List.mem_singleton.mp hz]; exact ⟨by decide, 1, by decide, by decide, by decide, gc_L1⟩) (by decide) (by decide) gc_L2 gc_X2 hi hi4 (fun q => ?_)
      refine pw_astore (C.up 1 6) dL_put_17 (by decide) rfl ?_
      refine pw_iconst (v := nI 2) (C.up 1 6) dL_put_19 (by decide) ?_
      exact pw_iret (C.up 1 6) hRT dL_put_20 (wL_x hK hi (by decide))
    · have hps : ∀ z ∈ [(⟨0, 10, 13, 28⟩ : ExceptionTableEntry), (⟨0, 10, 17, 13⟩ : ExceptionTableEntry)], z.catchType ≠ 0 ∧ ∃ j, 0 < j ∧ j < 4 ∧ ¬ 3 = j ∧ Cond.classLink RL z.catchType (gw_exn j) ∈ gw_tbl := fun z hz => by
        rcases List.mem_cons.mp hz with e | e
        · rw [e]; exact ⟨by decide, 1, by decide, by decide, by decide, gc_L1⟩
        · rw [List.mem_singleton.mp e]; exact ⟨by decide, 2, by decide, by decide, by decide, gc_L2⟩
      refine ew_catch (C.up 1 6) [(⟨0, 10, 13, 28⟩ : ExceptionTableEntry), (⟨0, 10, 17, 13⟩ : ExceptionTableEntry)] (⟨0, 10, 21, 15⟩ : ExceptionTableEntry) [] (htab.trans rfl) hps (by decide) (by decide) gc_L3 gc_X3 hi hi4 (fun q => ?_)
      refine pw_astore (C.up 1 6) dL_put_21 (by decide) rfl ?_
      refine pw_iconst (v := nI 3) (C.up 1 6) dL_put_23 (by decide) ?_
      exact pw_iret (C.up 1 6) hRT dL_put_24 (wL_x hK hi (by decide))
theorem w_work (hst : l.stackTraces = false) (h : CI σ A) (hv : VA A) (v1 : Int32) : gw_MH l G yL_work cL_work 4 [(0, 9, 12, 28), (0, 9, 15, 15)] 8 [.ref (G.1 + 0), .int v1, .ref (G.1 + 206)] σ (fi (wL [1, 3] (anWork A v1) σ)) := by
  refine gw_metH (by decide) (Nat.le_of_ble_eq_true rfl) (fun x hxl C hR htab hX => ?_)
  have hRT := gw_RTu hX
  refine pw_aload_n C dL_work_0 rfl 2 rfl ?_
  refine pw_iconst (v := 0) C dL_work_1 (by decide) ?_
  refine pw_aload_n C dL_work_2 rfl 0 rfl ?_
  refine pw_iload_n C dL_work_3 rfl 1 rfl ?_
  refine pw_callVX C dL_work_4 (by rw [hxl]; exact f_work hst h hv v1) gm_X7_work gl_RL_49 rfl (D := 8) ⟨hR.1, hR.2.1⟩ ⟨by rw [hX.2.1]; exact hR.2.2.1, by rw [hX.2.2]; exact hR.2.2.2⟩ (by decide) (by decide) (ci := 6) (by decide) rfl gk_0.1 gk_0.2 rfl (Nat.le_of_ble_eq_true rfl) (fun r τ hr => ?_) (fun i τ hi hi4 hK => ?_)
  · refine pw_i2l (v := r.toInt64) (C.up 1 6) dL_work_7 rfl ?_
    refine pw_last (C.up 1 6) dL_work_8 gk_206.1 gk_206.2 (vp_in_nI (n := 0) (N := 1) (by decide) (by decide)) ?_
    refine pw_goto (tgt := 18) (C.up 1 6) dL_work_9 (by decide) ?_
    refine pw_iconst (v := 0) (C.up 1 6) dL_work_18 (by decide) ?_
    exact pw_iret (C.up 1 6) hRT dL_work_19 (wL_y hr (by rw [gc0]))
  · have hm : i ∈ (0 :: [1, 3] : List Nat) := by rw [hK.1]; exact aL_work A v1
    have hc : i = 1 ∨ i = 3 := by
      simp only [List.mem_cons, List.not_mem_nil, or_false] at hm; omega
    rcases hc with rfl | rfl
    · refine ew_catch (C.up 1 6) [] (⟨0, 9, 12, 28⟩ : ExceptionTableEntry) [(⟨0, 9, 15, 15⟩ : ExceptionTableEntry)] (htab.trans rfl) (fun z hz => absurd hz List.not_mem_nil) (by decide) (by decide) gc_L1 gc_X1 hi hi4 (fun q => ?_)
      refine pw_astore_n (C.up 1 6) dL_work_12 rfl (by decide) rfl ?_
      refine pw_iconst (v := nI 1) (C.up 1 6) dL_work_13 (by decide) ?_
      exact pw_iret (C.up 1 6) hRT dL_work_14 (wL_x hK hi (by decide))
    · refine ew_catch (C.up 1 6) [(⟨0, 9, 12, 28⟩ : ExceptionTableEntry)] (⟨0, 9, 15, 15⟩ : ExceptionTableEntry) [] (htab.trans rfl) (fun z hz => by rw [List.mem_singleton.mp hz]; exact ⟨by decide, 1, by decide, by decide, by decide, gc_L1⟩) (by decide) (by decide) gc_L3 gc_X3 hi hi4 (fun q => ?_)
      refine pw_astore_n (C.up 1 6) dL_work_15 rfl (by decide) rfl ?_
      refine pw_iconst (v := nI 2) (C.up 1 6) dL_work_16 (by decide) ?_
      exact pw_iret (C.up 1 6) hRT dL_work_17 (wL_x hK hi (by decide))
theorem w_round (hst : l.stackTraces = false) (h : CI σ A) (hv : VA A) (v1 : Int32) : gw_MH l G yL_round cL_round 4 [(0, 9, 12, 13), (0, 9, 15, 15)] 8 [.ref (G.1 + 0), .int v1, .ref (G.1 + 206)] σ (fi (wL [2, 3] (anRound A v1) σ)) := by
  refine gw_metH (by decide) (Nat.le_of_ble_eq_true rfl) (fun x hxl C hR htab hX => ?_)
  have hRT := gw_RTu hX
  refine pw_aload_n C dL_round_0 rfl 2 rfl ?_
  refine pw_iconst (v := 0) C dL_round_1 (by decide) ?_
  refine pw_aload_n C dL_round_2 rfl 0 rfl ?_
  refine pw_iload_n C dL_round_3 rfl 1 rfl ?_
  refine pw_callVX C dL_round_4 (by rw [hxl]; exact f_round hst h hv v1) gm_X7_round gl_RL_52 rfl (D := 8) ⟨hR.1, hR.2.1⟩ ⟨by rw [hX.2.1]; exact hR.2.2.1, by rw [hX.2.2]; exact hR.2.2.2⟩ (by decide) (by decide) (ci := 6) (by decide) rfl gk_0.1 gk_0.2 rfl (Nat.le_of_ble_eq_true rfl) (fun r τ hr => ?_) (fun i τ hi hi4 hK => ?_)
  · refine pw_i2l (v := r.toInt64) (C.up 1 6) dL_round_7 rfl ?_
    refine pw_last (C.up 1 6) dL_round_8 gk_206.1 gk_206.2 (vp_in_nI (n := 0) (N := 1) (by decide) (by decide)) ?_
    refine pw_goto (tgt := 18) (C.up 1 6) dL_round_9 (by decide) ?_
    refine pw_iconst (v := 0) (C.up 1 6) dL_round_18 (by decide) ?_
    exact pw_iret (C.up 1 6) hRT dL_round_19 (wL_y hr (by rw [gc0]))
  · have hm : i ∈ (0 :: [2, 3] : List Nat) := by rw [hK.1]; exact aL_round A v1
    have hc : i = 2 ∨ i = 3 := by
      simp only [List.mem_cons, List.not_mem_nil, or_false] at hm; omega
    rcases hc with rfl | rfl
    · refine ew_catch (C.up 1 6) [] (⟨0, 9, 12, 13⟩ : ExceptionTableEntry) [(⟨0, 9, 15, 15⟩ : ExceptionTableEntry)] (htab.trans rfl) (fun z hz => absurd hz List.not_mem_nil) (by decide) (by decide) gc_L2 gc_X2 hi hi4 (fun q => ?_)
      refine pw_astore_n (C.up 1 6) dL_round_12 rfl (by decide) rfl ?_
      refine pw_iconst (v := nI 1) (C.up 1 6) dL_round_13 (by decide) ?_
      exact pw_iret (C.up 1 6) hRT dL_round_14 (wL_x hK hi (by decide))
    · refine ew_catch (C.up 1 6) [(⟨0, 9, 12, 13⟩ : ExceptionTableEntry)] (⟨0, 9, 15, 15⟩ : ExceptionTableEntry) [] (htab.trans rfl) (fun z hz => by rw [List.mem_singleton.mp hz]; exact ⟨by decide, 2, by decide, by decide, by decide, gc_L2⟩) (by decide) (by decide) gc_L3 gc_X3 hi hi4 (fun q => ?_)
      refine pw_astore_n (C.up 1 6) dL_round_15 rfl (by decide) rfl ?_
      refine pw_iconst (v := nI 2) (C.up 1 6) dL_round_16 (by decide) ?_
      exact pw_iret (C.up 1 6) hRT dL_round_17 (wL_x hK hi (by decide))
theorem w_undo (hst : l.stackTraces = false) (h : CI σ A) (hv : VA A) : gw_MH l G yL_undo cL_undo 3 [(0, 8, 11, 15)] 8 [.ref (G.1 + 0), .ref (G.1 + 206)] σ (fi (wL [3] (anUndo A) σ)) := by
  refine gw_metH (by decide) (Nat.le_of_ble_eq_true rfl) (fun x hxl C hR htab hX => ?_)
  have hRT := gw_RTu hX
  refine pw_aload_n C dL_undo_0 rfl 1 rfl ?_
  refine pw_iconst (v := 0) C dL_undo_1 (by decide) ?_
  refine pw_aload_n C dL_undo_2 rfl 0 rfl ?_
  refine pw_callVX C dL_undo_3 (by rw [hxl]; exact f_undo hst h hv) gm_X7_undo gl_RL_55 rfl (D := 8) ⟨hR.1, hR.2.1⟩ ⟨by rw [hX.2.1]; exact hR.2.2.1, by rw [hX.2.2]; exact hR.2.2.2⟩ (by decide) (by decide) (ci := 6) (by decide) rfl gk_0.1 gk_0.2 rfl (Nat.le_of_ble_eq_true rfl) (fun r τ hr => ?_) (fun i τ hi hi4 hK => ?_)
  · refine pw_i2l (v := r.toInt64) (C.up 1 6) dL_undo_6 rfl ?_
    refine pw_last (C.up 1 6) dL_undo_7 gk_206.1 gk_206.2 (vp_in_nI (n := 0) (N := 1) (by decide) (by decide)) ?_
    refine pw_goto (tgt := 14) (C.up 1 6) dL_undo_8 (by decide) ?_
    refine pw_iconst (v := 0) (C.up 1 6) dL_undo_14 (by decide) ?_
    exact pw_iret (C.up 1 6) hRT dL_undo_15 (wL_y hr (by rw [gc0]))
  · have hm : i ∈ (0 :: [3] : List Nat) := by rw [hK.1]; exact aL_undo A
    have hc : i = 3 := by
      simp only [List.mem_cons, List.not_mem_nil, or_false] at hm; omega
    subst hc
    refine ew_catch (C.up 1 6) [] (⟨0, 8, 11, 15⟩ : ExceptionTableEntry) [] (htab.trans rfl) (fun z hz => absurd hz List.not_mem_nil) (by decide) (by decide) gc_L3 gc_X3 hi hi4 (fun q => ?_)
    refine pw_astore_n (C.up 1 6) dL_undo_11 rfl (by decide) rfl ?_
    refine pw_iconst (v := nI 1) (C.up 1 6) dL_undo_12 (by decide) ?_
    exact pw_iret (C.up 1 6) hRT dL_undo_13 (wL_x hK hi (by decide))
theorem w_order (hst : l.stackTraces = false) (h : CI σ A) (hv : VA A) (v1 : Int32) (v2 : Int32) : gw_MH l G yL_order cL_order 5 [(0, 10, 13, 13)] 8 [.ref (G.1 + 0), .int v1, .int v2, .ref (G.1 + 206)] σ (fi (wL [2] (anOrder A v1 v2) σ)) := by
  refine gw_metH (by decide) (Nat.le_of_ble_eq_true rfl) (fun x hxl C hR htab hX => ?_)
  have hRT := gw_RTu hX
  refine pw_aload_n C dL_order_0 rfl 3 rfl ?_
  refine pw_iconst (v := 0) C dL_order_1 (by decide) ?_
  refine pw_aload_n C dL_order_2 rfl 0 rfl ?_
  refine pw_iload_n C dL_order_3 rfl 1 rfl ?_
  refine pw_iload_n C dL_order_4 rfl 2 rfl ?_
  refine pw_callVX C dL_order_5 (by rw [hxl]; exact f_order hst h hv v1 v2) gm_X7_order gl_RL_58 rfl (D := 8) ⟨hR.1, hR.2.1⟩ ⟨by rw [hX.2.1]; exact hR.2.2.1, by rw [hX.2.2]; exact hR.2.2.2⟩ (by decide) (by decide) (ci := 6) (by decide) rfl gk_0.1 gk_0.2 rfl (Nat.le_of_ble_eq_true rfl) (fun r τ hr => ?_) (fun i τ hi hi4 hK => ?_)
  · refine pw_i2l (v := r.toInt64) (C.up 1 6) dL_order_8 rfl ?_
    refine pw_last (C.up 1 6) dL_order_9 gk_206.1 gk_206.2 (vp_in_nI (n := 0) (N := 1) (by decide) (by decide)) ?_
    refine pw_goto (tgt := 17) (C.up 1 6) dL_order_10 (by decide) ?_
    refine pw_iconst (v := 0) (C.up 1 6) dL_order_17 (by decide) ?_
    exact pw_iret (C.up 1 6) hRT dL_order_18 (wL_y hr (by rw [gc0]))
  · have hm : i ∈ (0 :: [2] : List Nat) := by rw [hK.1]; exact aL_order A v1 v2
    have hc : i = 2 := by
      simp only [List.mem_cons, List.not_mem_nil, or_false] at hm; omega
    subst hc
    refine ew_catch (C.up 1 6) [] (⟨0, 10, 13, 13⟩ : ExceptionTableEntry) [] (htab.trans rfl) (fun z hz => absurd hz List.not_mem_nil) (by decide) (by decide) gc_L2 gc_X2 hi hi4 (fun q => ?_)
    refine pw_astore (C.up 1 6) dL_order_13 (by decide) rfl ?_
    refine pw_iconst (v := nI 1) (C.up 1 6) dL_order_15 (by decide) ?_
    exact pw_iret (C.up 1 6) hRT dL_order_16 (wL_x hK hi (by decide))
theorem w_sticks (hst : l.stackTraces = false) (h : CI σ A) (hv : VA A) (v1 : Int32) : gw_MH l G yL_sticks cL_sticks 4 [(0, 9, 12, 13)] 8 [.ref (G.1 + 0), .int v1, .ref (G.1 + 206)] σ (fi (wL [2] (anSticks A v1) σ)) := by
  refine gw_metH (by decide) (Nat.le_of_ble_eq_true rfl) (fun x hxl C hR htab hX => ?_)
  have hRT := gw_RTu hX
  refine pw_aload_n C dL_sticks_0 rfl 2 rfl ?_
  refine pw_iconst (v := 0) C dL_sticks_1 (by decide) ?_
  refine pw_aload_n C dL_sticks_2 rfl 0 rfl ?_
  refine pw_iload_n C dL_sticks_3 rfl 1 rfl ?_
  refine pw_callVX C dL_sticks_4 (by rw [hxl]; exact f_sticks hst h hv v1) gm_X7_sticks gl_RL_61 rfl (D := 8) ⟨hR.1, hR.2.1⟩ ⟨by rw [hX.2.1]; exact hR.2.2.1, by rw [hX.2.2]; exact hR.2.2.2⟩ (by decide) (by decide) (ci := 6) (by decide) rfl gk_0.1 gk_0.2 rfl (Nat.le_of_ble_eq_true rfl) (fun r τ hr => ?_) (fun i τ hi hi4 hK => ?_)
  · refine pw_i2l (v := r.toInt64) (C.up 1 6) dL_sticks_7 rfl ?_
    refine pw_last (C.up 1 6) dL_sticks_8 gk_206.1 gk_206.2 (vp_in_nI (n := 0) (N := 1) (by decide) (by decide)) ?_
    refine pw_goto (tgt := 15) (C.up 1 6) dL_sticks_9 (by decide) ?_
    refine pw_iconst (v := 0) (C.up 1 6) dL_sticks_15 (by decide) ?_
    exact pw_iret (C.up 1 6) hRT dL_sticks_16 (wL_y hr (by rw [gc0]))
  · have hm : i ∈ (0 :: [2] : List Nat) := by rw [hK.1]; exact aL_sticks A v1
    have hc : i = 2 := by
      simp only [List.mem_cons, List.not_mem_nil, or_false] at hm; omega
    subst hc
    refine ew_catch (C.up 1 6) [] (⟨0, 9, 12, 13⟩ : ExceptionTableEntry) [] (htab.trans rfl) (fun z hz => absurd hz List.not_mem_nil) (by decide) (by decide) gc_L2 gc_X2 hi hi4 (fun q => ?_)
    refine pw_astore_n (C.up 1 6) dL_sticks_12 rfl (by decide) rfl ?_
    refine pw_iconst (v := nI 1) (C.up 1 6) dL_sticks_13 (by decide) ?_
    exact pw_iret (C.up 1 6) hRT dL_sticks_14 (wL_x hK hi (by decide))
theorem w_holds (hst : l.stackTraces = false) (h : CI σ A) (hv : VA A) (v1 : Int32) (v2 : Int32) : gw_MH l G yL_holds cL_holds 5 [(0, 10, 13, 28), (0, 10, 17, 13)] 8 [.ref (G.1 + 0), .int v1, .int v2, .ref (G.1 + 206)] σ (fi (wL [1, 2] (anHolds A v1 v2) σ)) := by
  refine gw_metH (by decide) (Nat.le_of_ble_eq_true rfl) (fun x hxl C hR htab hX => ?_)
  have hRT := gw_RTu hX
  refine pw_aload_n C dL_holds_0 rfl 3 rfl ?_
  refine pw_iconst (v := 0) C dL_holds_1 (by decide) ?_
  refine pw_aload_n C dL_holds_2 rfl 0 rfl ?_
  refine pw_iload_n C dL_holds_3 rfl 1 rfl ?_
  refine pw_iload_n C dL_holds_4 rfl 2 rfl ?_
  refine pw_callVX C dL_holds_5 (by rw [hxl]; exact f_holds hst h hv v1 v2) gm_X7_holds gl_RL_64 rfl (D := 8) ⟨hR.1, hR.2.1⟩ ⟨by rw [hX.2.1]; exact hR.2.2.1, by rw [hX.2.2]; exact hR.2.2.2⟩ (by decide) (by decide) (ci := 6) (by decide) rfl gk_0.1 gk_0.2 rfl (Nat.le_of_ble_eq_true rfl) (fun r τ hr => ?_) (fun i τ hi hi4 hK => ?_)
  · refine pw_i2l (v := r.toInt64) (C.up 1 6) dL_holds_8 rfl ?_
    refine pw_last (C.up 1 6) dL_holds_9 gk_206.1 gk_206.2 (vp_in_nI (n := 0) (N := 1) (by decide) (by decide)) ?_
    refine pw_goto (tgt := 21) (C.up 1 6) dL_holds_10 (by decide) ?_
    refine pw_iconst (v := 0) (C.up 1 6) dL_holds_21 (by decide) ?_
    exact pw_iret (C.up 1 6) hRT dL_holds_22 (wL_y hr (by rw [gc0]))
  · have hm : i ∈ (0 :: [1, 2] : List Nat) := by rw [hK.1]; exact aL_holds A v1 v2
    have hc : i = 1 ∨ i = 2 := by
      simp only [List.mem_cons, List.not_mem_nil, or_false] at hm; omega
    rcases hc with rfl | rfl
    · refine ew_catch (C.up 1 6) [] (⟨0, 10, 13, 28⟩ : ExceptionTableEntry) [(⟨0, 10, 17, 13⟩ : ExceptionTableEntry)] (htab.trans rfl) (fun z hz => absurd hz List.not_mem_nil) (by decide) (by decide) gc_L1 gc_X1 hi hi4 (fun q => ?_)
      refine pw_astore (C.up 1 6) dL_holds_13 (by decide) rfl ?_
      refine pw_iconst (v := nI 1) (C.up 1 6) dL_holds_15 (by decide) ?_
      exact pw_iret (C.up 1 6) hRT dL_holds_16 (wL_x hK hi (by decide))
    · refine ew_catch (C.up 1 6) [(⟨0, 10, 13, 28⟩ : ExceptionTableEntry)] (⟨0, 10, 17, 13⟩ : ExceptionTableEntry) [] (htab.trans rfl) (fun z hz => by rw [List.mem_singleton.mp hz]; exact ⟨by decide, 1, by decide, by decide, by decide, gc_L1⟩) (by decide) (by decide) gc_L2 gc_X2 hi hi4 (fun q => ?_)
      refine pw_astore (C.up 1 6) dL_holds_17 (by decide) rfl ?_
      refine pw_iconst (v := nI 2) (C.up 1 6) dL_holds_19 (by decide) ?_
      exact pw_iret (C.up 1 6) hRT dL_holds_20 (wL_x hK hi (by decide))
theorem w_fewest (hst : l.stackTraces = false) (h : CI σ A) (hv : VA A) (v1 : Int32) : gw_MH l G yL_fewest cL_fewest 4 [(0, 9, 12, 28)] 8 [.ref (G.1 + 0), .int v1, .ref (G.1 + 206)] σ (fi (wL [1] (anFewest A v1) σ)) := by
  refine gw_metH (by decide) (Nat.le_of_ble_eq_true rfl) (fun x hxl C hR htab hX => ?_)
  have hRT := gw_RTu hX
  refine pw_aload_n C dL_fewest_0 rfl 2 rfl ?_
  refine pw_iconst (v := 0) C dL_fewest_1 (by decide) ?_
  refine pw_aload_n C dL_fewest_2 rfl 0 rfl ?_
  refine pw_iload_n C dL_fewest_3 rfl 1 rfl ?_
  refine pw_callVX C dL_fewest_4 (by rw [hxl]; exact f_fewest hst h hv v1) gm_X7_fewest gl_RL_67 rfl (D := 8) ⟨hR.1, hR.2.1⟩ ⟨by rw [hX.2.1]; exact hR.2.2.1, by rw [hX.2.2]; exact hR.2.2.2⟩ (by decide) (by decide) (ci := 6) (by decide) rfl gk_0.1 gk_0.2 rfl (Nat.le_of_ble_eq_true rfl) (fun r τ hr => ?_) (fun i τ hi hi4 hK => ?_)
  · refine pw_i2l (v := r.toInt64) (C.up 1 6) dL_fewest_7 rfl ?_
    refine pw_last (C.up 1 6) dL_fewest_8 gk_206.1 gk_206.2 (vp_in_nI (n := 0) (N := 1) (by decide) (by decide)) ?_
    refine pw_goto (tgt := 15) (C.up 1 6) dL_fewest_9 (by decide) ?_
    refine pw_iconst (v := 0) (C.up 1 6) dL_fewest_15 (by decide) ?_
    exact pw_iret (C.up 1 6) hRT dL_fewest_16 (wL_y hr (by rw [gc0]))
  · have hm : i ∈ (0 :: [1] : List Nat) := by rw [hK.1]; exact aL_fewest A v1
    have hc : i = 1 := by
      simp only [List.mem_cons, List.not_mem_nil, or_false] at hm; omega
    subst hc
    refine ew_catch (C.up 1 6) [] (⟨0, 9, 12, 28⟩ : ExceptionTableEntry) [] (htab.trans rfl) (fun z hz => absurd hz List.not_mem_nil) (by decide) (by decide) gc_L1 gc_X1 hi hi4 (fun q => ?_)
    refine pw_astore_n (C.up 1 6) dL_fewest_12 rfl (by decide) rfl ?_
    refine pw_iconst (v := nI 1) (C.up 1 6) dL_fewest_13 (by decide) ?_
    exact pw_iret (C.up 1 6) hRT dL_fewest_14 (wL_x hK hi (by decide))
theorem w_agrees (hst : l.stackTraces = false) (h : CI σ A) (hv : VA A) (v1 : Int32) (v2 : Int32) : gw_MH l G yL_agrees cL_agrees 5 [(0, 10, 13, 28), (0, 10, 17, 13)] 8 [.ref (G.1 + 0), .int v1, .int v2, .ref (G.1 + 206)] σ (fi (wL [1, 2] (anAgrees A v1 v2) σ)) := by
  refine gw_metH (by decide) (Nat.le_of_ble_eq_true rfl) (fun x hxl C hR htab hX => ?_)
  have hRT := gw_RTu hX
  refine pw_aload_n C dL_agrees_0 rfl 3 rfl ?_
  refine pw_iconst (v := 0) C dL_agrees_1 (by decide) ?_
  refine pw_aload_n C dL_agrees_2 rfl 0 rfl ?_
  refine pw_iload_n C dL_agrees_3 rfl 1 rfl ?_
  refine pw_iload_n C dL_agrees_4 rfl 2 rfl ?_
  refine pw_callVX C dL_agrees_5 (by rw [hxl]; exact f_agrees hst h hv v1 v2) gm_X7_agrees gl_RL_70 rfl (D := 8) ⟨hR.1, hR.2.1⟩ ⟨by rw [hX.2.1]; exact hR.2.2.1, by rw [hX.2.2]; exact hR.2.2.2⟩ (by decide) (by decide) (ci := 6) (by decide) rfl gk_0.1 gk_0.2 rfl (Nat.le_of_ble_eq_true rfl) (fun r τ hr => ?_) (fun i τ hi hi4 hK => ?_)
  · refine pw_i2l (v := r.toInt64) (C.up 1 6) dL_agrees_8 rfl ?_
    refine pw_last (C.up 1 6) dL_agrees_9 gk_206.1 gk_206.2 (vp_in_nI (n := 0) (N := 1) (by decide) (by decide)) ?_
    refine pw_goto (tgt := 21) (C.up 1 6) dL_agrees_10 (by decide) ?_
    refine pw_iconst (v := 0) (C.up 1 6) dL_agrees_21 (by decide) ?_
    exact pw_iret (C.up 1 6) hRT dL_agrees_22 (wL_y hr (by rw [gc0]))
  · have hm : i ∈ (0 :: [1, 2] : List Nat) := by rw [hK.1]; exact aL_agrees A v1 v2
    have hc : i = 1 ∨ i = 2 := by
      simp only [List.mem_cons, List.not_mem_nil, or_false] at hm; omega
    rcases hc with rfl | rfl
    · refine ew_catch (C.up 1 6) [] (⟨0, 10, 13, 28⟩ : ExceptionTableEntry) [(⟨0, 10, 17, 13⟩ : ExceptionTableEntry)] (htab.trans rfl) (fun z hz => absurd hz List.not_mem_nil) (by decide) (by decide) gc_L1 gc_X1 hi hi4 (fun q => ?_)
      refine pw_astore (C.up 1 6) dL_agrees_13 (by decide) rfl ?_
      refine pw_iconst (v := nI 1) (C.up 1 6) dL_agrees_15 (by decide) ?_
      exact pw_iret (C.up 1 6) hRT dL_agrees_16 (wL_x hK hi (by decide))
    · refine ew_catch (C.up 1 6) [(⟨0, 10, 13, 28⟩ : ExceptionTableEntry)] (⟨0, 10, 17, 13⟩ : ExceptionTableEntry) [] (htab.trans rfl) (fun z hz => by rw [List.mem_singleton.mp hz]; exact ⟨by decide, 1, by decide, by decide, by decide, gc_L1⟩) (by decide) (by decide) gc_L2 gc_X2 hi hi4 (fun q => ?_)
      refine pw_astore (C.up 1 6) dL_agrees_17 (by decide) rfl ?_
      refine pw_iconst (v := nI 2) (C.up 1 6) dL_agrees_19 (by decide) ?_
      exact pw_iret (C.up 1 6) hRT dL_agrees_20 (wL_x hK hi (by decide))
theorem w_runScript (hst : l.stackTraces = false) (h : CI σ A) (hv : VA A) (v1 : Int32) (v2 : Int64) : gw_MH l G yL_runScript cL_runScript 6 [(0, 11, 14, 13)] 8 [.ref (G.1 + 0), .int v1, .long v2, .ref (G.1 + 206)] σ (fi (wL [2] (anScript A v1 v2) σ)) := by
  refine gw_metH (by decide) (Nat.le_of_ble_eq_true rfl) (fun x hxl C hR htab hX => ?_)
  have hRT := gw_RTu hX
  refine pw_aload C dL_runScript_0 3 rfl ?_
  refine pw_iconst (v := 0) C dL_runScript_2 (by decide) ?_
  refine pw_aload_n C dL_runScript_3 rfl 0 rfl ?_
  refine pw_iload_n C dL_runScript_4 rfl 1 rfl ?_
  refine pw_lload_n C dL_runScript_5 rfl 2 rfl ?_
  refine pw_callVX C dL_runScript_6 (by rw [hxl]; exact f_runScript hst h hv v1 v2) gm_X7_runScript gl_RL_73 rfl (D := 8) ⟨hR.1, hR.2.1⟩ ⟨by rw [hX.2.1]; exact hR.2.2.1, by rw [hX.2.2]; exact hR.2.2.2⟩ (by decide) (by decide) (ci := 6) (by decide) rfl gk_0.1 gk_0.2 rfl (Nat.le_of_ble_eq_true rfl) (fun r τ hr => ?_) (fun i τ hi hi4 hK => ?_)
  · refine pw_i2l (v := r.toInt64) (C.up 1 6) dL_runScript_9 rfl ?_
    refine pw_last (C.up 1 6) dL_runScript_10 gk_206.1 gk_206.2 (vp_in_nI (n := 0) (N := 1) (by decide) (by decide)) ?_
    refine pw_goto (tgt := 18) (C.up 1 6) dL_runScript_11 (by decide) ?_
    refine pw_iconst (v := 0) (C.up 1 6) dL_runScript_18 (by decide) ?_
    exact pw_iret (C.up 1 6) hRT dL_runScript_19 (wL_y hr (by rw [gc0]))
  · have hm : i ∈ (0 :: [2] : List Nat) := by rw [hK.1]; exact aL_runScript A v1 v2
    have hc : i = 2 := by
      simp only [List.mem_cons, List.not_mem_nil, or_false] at hm; omega
    subst hc
    refine ew_catch (C.up 1 6) [] (⟨0, 11, 14, 13⟩ : ExceptionTableEntry) [] (htab.trans rfl) (fun z hz => absurd hz List.not_mem_nil) (by decide) (by decide) gc_L2 gc_X2 hi hi4 (fun q => ?_)
    refine pw_astore (C.up 1 6) dL_runScript_14 (by decide) rfl ?_
    refine pw_iconst (v := nI 1) (C.up 1 6) dL_runScript_16 (by decide) ?_
    exact pw_iret (C.up 1 6) hRT dL_runScript_17 (wL_x hK hi (by decide))
theorem w_simulate (hst : l.stackTraces = false) (h : CI σ A) (hv : VA A) (v1 : Int64) (v2 : Int32) : gw_MH l G yL_simulate cL_simulate 6 [(0, 11, 14, 13)] 8 [.ref (G.1 + 0), .long v1, .int v2, .ref (G.1 + 206)] σ (fi (wL [2] (anSim A v1 v2) σ)) := by
  refine gw_metH (by decide) (Nat.le_of_ble_eq_true rfl) (fun x hxl C hR htab hX => ?_)
  have hRT := gw_RTu hX
  refine pw_aload C dL_simulate_0 3 rfl ?_
  refine pw_iconst (v := 0) C dL_simulate_2 (by decide) ?_
  refine pw_aload_n C dL_simulate_3 rfl 0 rfl ?_
  refine pw_lload_n C dL_simulate_4 rfl 1 rfl ?_
  refine pw_iload_n C dL_simulate_5 rfl 2 rfl ?_
  refine pw_callVX C dL_simulate_6 (by rw [hxl]; exact f_simulate hst h hv v1 v2) gm_X7_simulate gl_RL_77 rfl (D := 8) ⟨hR.1, hR.2.1⟩ ⟨by rw [hX.2.1]; exact hR.2.2.1, by rw [hX.2.2]; exact hR.2.2.2⟩ (by decide) (by decide) (ci := 6) (by decide) rfl gk_0.1 gk_0.2 rfl (Nat.le_of_ble_eq_true rfl) (fun r τ hr => ?_) (fun i τ hi hi4 hK => ?_)
  · refine pw_i2l (v := r.toInt64) (C.up 1 6) dL_simulate_9 rfl ?_
    refine pw_last (C.up 1 6) dL_simulate_10 gk_206.1 gk_206.2 (vp_in_nI (n := 0) (N := 1) (by decide) (by decide)) ?_
    refine pw_goto (tgt := 18) (C.up 1 6) dL_simulate_11 (by decide) ?_
    refine pw_iconst (v := 0) (C.up 1 6) dL_simulate_18 (by decide) ?_
    exact pw_iret (C.up 1 6) hRT dL_simulate_19 (wL_y hr (by rw [gc0]))
  · have hm : i ∈ (0 :: [2] : List Nat) := by rw [hK.1]; exact aL_simulate A v1 v2
    have hc : i = 2 := by
      simp only [List.mem_cons, List.not_mem_nil, or_false] at hm; omega
    subst hc
    refine ew_catch (C.up 1 6) [] (⟨0, 11, 14, 13⟩ : ExceptionTableEntry) [] (htab.trans rfl) (fun z hz => absurd hz List.not_mem_nil) (by decide) (by decide) gc_L2 gc_X2 hi hi4 (fun q => ?_)
    refine pw_astore (C.up 1 6) dL_simulate_14 (by decide) rfl ?_
    refine pw_iconst (v := nI 1) (C.up 1 6) dL_simulate_16 (by decide) ?_
    exact pw_iret (C.up 1 6) hRT dL_simulate_17 (wL_x hK hi (by decide))
theorem w_save (hst : l.stackTraces = false) (h : CI σ A) (hv : VA A) (v1 : Int32) : gw_MH l G yL_save cL_save 4 [(0, 9, 12, 28)] 8 [.ref (G.1 + 0), .int v1, .ref (G.1 + 206)] σ (fi (wL [1] (anSave A v1) σ)) := by
  refine gw_metH (by decide) (Nat.le_of_ble_eq_true rfl) (fun x hxl C hR htab hX => ?_)
  have hRT := gw_RTu hX
  refine pw_aload_n C dL_save_0 rfl 2 rfl ?_
  refine pw_iconst (v := 0) C dL_save_1 (by decide) ?_
  refine pw_aload_n C dL_save_2 rfl 0 rfl ?_
  refine pw_iload_n C dL_save_3 rfl 1 rfl ?_
  refine pw_callVX C dL_save_4 (by rw [hxl]; exact f_save hst h hv v1) gm_X7_save gl_RL_81 rfl (D := 8) ⟨hR.1, hR.2.1⟩ ⟨by rw [hX.2.1]; exact hR.2.2.1, by rw [hX.2.2]; exact hR.2.2.2⟩ (by decide) (by decide) (ci := 6) (by decide) rfl gk_0.1 gk_0.2 rfl (Nat.le_of_ble_eq_true rfl) (fun r τ hr => ?_) (fun i τ hi hi4 hK => ?_)
  · refine pw_i2l (v := r.toInt64) (C.up 1 6) dL_save_7 rfl ?_
    refine pw_last (C.up 1 6) dL_save_8 gk_206.1 gk_206.2 (vp_in_nI (n := 0) (N := 1) (by decide) (by decide)) ?_
    refine pw_goto (tgt := 15) (C.up 1 6) dL_save_9 (by decide) ?_
    refine pw_iconst (v := 0) (C.up 1 6) dL_save_15 (by decide) ?_
    exact pw_iret (C.up 1 6) hRT dL_save_16 (wL_y hr (by rw [gc0]))
  · have hm : i ∈ (0 :: [1] : List Nat) := by rw [hK.1]; exact aL_save A v1
    have hc : i = 1 := by
      simp only [List.mem_cons, List.not_mem_nil, or_false] at hm; omega
    subst hc
    refine ew_catch (C.up 1 6) [] (⟨0, 9, 12, 28⟩ : ExceptionTableEntry) [] (htab.trans rfl) (fun z hz => absurd hz List.not_mem_nil) (by decide) (by decide) gc_L1 gc_X1 hi hi4 (fun q => ?_)
    refine pw_astore_n (C.up 1 6) dL_save_12 rfl (by decide) rfl ?_
    refine pw_iconst (v := nI 1) (C.up 1 6) dL_save_13 (by decide) ?_
    exact pw_iret (C.up 1 6) hRT dL_save_14 (wL_x hK hi (by decide))
theorem w_restore (hst : l.stackTraces = false) (h : CI σ A) (hv : VA A) (v1 : Int32) : gw_MH l G yL_restore cL_restore 4 [(0, 9, 12, 28), (0, 9, 15, 15)] 8 [.ref (G.1 + 0), .int v1, .ref (G.1 + 206)] σ (fi (wL [1, 3] (anRestore A v1) σ)) := by
  refine gw_metH (by decide) (Nat.le_of_ble_eq_true rfl) (fun x hxl C hR htab hX => ?_)
  have hRT := gw_RTu hX
  refine pw_aload_n C dL_restore_0 rfl 2 rfl ?_
  refine pw_iconst (v := 0) C dL_restore_1 (by decide) ?_
  refine pw_aload_n C dL_restore_2 rfl 0 rfl ?_
  refine pw_iload_n C dL_restore_3 rfl 1 rfl ?_
  refine pw_callVX C dL_restore_4 (by rw [hxl]; exact f_restore hst h hv v1) gm_X7_restore gl_RL_84 rfl (D := 8) ⟨hR.1, hR.2.1⟩ ⟨by rw [hX.2.1]; exact hR.2.2.1, by rw [hX.2.2]; exact hR.2.2.2⟩ (by decide) (by decide) (ci := 6) (by decide) rfl gk_0.1 gk_0.2 rfl (Nat.le_of_ble_eq_true rfl) (fun r τ hr => ?_) (fun i τ hi hi4 hK => ?_)
  · refine pw_i2l (v := r.toInt64) (C.up 1 6) dL_restore_7 rfl ?_
    refine pw_last (C.up 1 6) dL_restore_8 gk_206.1 gk_206.2 (vp_in_nI (n := 0) (N := 1) (by decide) (by decide)) ?_
    refine pw_goto (tgt := 18) (C.up 1 6) dL_restore_9 (by decide) ?_
    refine pw_iconst (v := 0) (C.up 1 6) dL_restore_18 (by decide) ?_
    exact pw_iret (C.up 1 6) hRT dL_restore_19 (wL_y hr (by rw [gc0]))
  · have hm : i ∈ (0 :: [1, 3] : List Nat) := by rw [hK.1]; exact aL_restore A v1
    have hc : i = 1 ∨ i = 3 := by
      simp only [List.mem_cons, List.not_mem_nil, or_false] at hm; omega
    rcases hc with rfl | rfl
    · refine ew_catch (C.up 1 6) [] (⟨0, 9, 12, 28⟩ : ExceptionTableEntry) [(⟨0, 9, 15, 15⟩ : ExceptionTableEntry)] (htab.trans rfl) (fun z hz => absurd hz List.not_mem_nil) (by decide) (by decide) gc_L1 gc_X1 hi hi4 (fun q => ?_)
      refine pw_astore_n (C.up 1 6) dL_restore_12 rfl (by decide) rfl ?_
      refine pw_iconst (v := nI 1) (C.up 1 6) dL_restore_13 (by decide) ?_
      exact pw_iret (C.up 1 6) hRT dL_restore_14 (wL_x hK hi (by decide))
    · refine ew_catch (C.up 1 6) [(⟨0, 9, 12, 28⟩ : ExceptionTableEntry)] (⟨0, 9, 15, 15⟩ : ExceptionTableEntry) [] (htab.trans rfl) (fun z hz => by rw [List.mem_singleton.mp hz]; exact ⟨by decide, 1, by decide, by decide, by decide, gc_L1⟩) (by decide) (by decide) gc_L3 gc_X3 hi hi4 (fun q => ?_)
      refine pw_astore_n (C.up 1 6) dL_restore_15 rfl (by decide) rfl ?_
      refine pw_iconst (v := nI 2) (C.up 1 6) dL_restore_16 (by decide) ?_
      exact pw_iret (C.up 1 6) hRT dL_restore_17 (wL_x hK hi (by decide))
end WR
