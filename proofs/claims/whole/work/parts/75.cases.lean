/-! the cases of the law's loop (laid by wip/whole/mklaw.py) -/
theorem gi_RL : Cond.initialized RL ∈ gw_tbl := gw_mem (List.mem_of_getElem? (i := 53) (by decide +kernel)) (by decide +kernel)
theorem cw_append : Cond.codeWith yL_append cL_append 4 (some .int) [(0, 9, 12, 13), (0, 9, 15, 15)] ∈ gw_tbl := gw_mem (List.mem_of_getElem? (i := 375) (by decide +kernel)) (by decide +kernel)
theorem cs_append : Cond.static yL_append ∈ gw_tbl := gw_mem (List.mem_of_getElem? (i := 374) (by decide +kernel)) (by decide +kernel)
theorem cw_load : Cond.codeWith yL_load cL_load 3 (some .int) [(0, 8, 11, 15)] ∈ gw_tbl := gw_mem (List.mem_of_getElem? (i := 506) (by decide +kernel)) (by decide +kernel)
theorem cs_load : Cond.static yL_load ∈ gw_tbl := gw_mem (List.mem_of_getElem? (i := 505) (by decide +kernel)) (by decide +kernel)
theorem cw_about : Cond.codeWith yL_about cL_about 4 (some .int) [(0, 9, 12, 13)] ∈ gw_tbl := gw_mem (List.mem_of_getElem? (i := 597) (by decide +kernel)) (by decide +kernel)
theorem cs_about : Cond.static yL_about ∈ gw_tbl := gw_mem (List.mem_of_getElem? (i := 596) (by decide +kernel)) (by decide +kernel)
theorem cw_module : Cond.codeWith yL_module cL_module 5 (some .int) [(0, 10, 13, 28), (0, 10, 17, 13)] ∈ gw_tbl := gw_mem (List.mem_of_getElem? (i := 630) (by decide +kernel)) (by decide +kernel)
theorem cs_module : Cond.static yL_module ∈ gw_tbl := gw_mem (List.mem_of_getElem? (i := 629) (by decide +kernel)) (by decide +kernel)
theorem cw_wire : Cond.codeWith yL_wire cL_wire 5 (some .int) [(0, 10, 13, 28), (0, 10, 17, 13)] ∈ gw_tbl := gw_mem (List.mem_of_getElem? (i := 645) (by decide +kernel)) (by decide +kernel)
theorem cs_wire : Cond.static yL_wire ∈ gw_tbl := gw_mem (List.mem_of_getElem? (i := 644) (by decide +kernel)) (by decide +kernel)
theorem cw_between : Cond.codeWith yL_between cL_between 5 (some .int) [(0, 10, 13, 28)] ∈ gw_tbl := gw_mem (List.mem_of_getElem? (i := 656) (by decide +kernel)) (by decide +kernel)
theorem cs_between : Cond.static yL_between ∈ gw_tbl := gw_mem (List.mem_of_getElem? (i := 655) (by decide +kernel)) (by decide +kernel)
theorem cw_addModule : Cond.codeWith yL_addModule cL_addModule 5 (some .int) [(0, 10, 13, 13), (0, 10, 17, 15)] ∈ gw_tbl := gw_mem (List.mem_of_getElem? (i := 671) (by decide +kernel)) (by decide +kernel)
theorem cs_addModule : Cond.static yL_addModule ∈ gw_tbl := gw_mem (List.mem_of_getElem? (i := 670) (by decide +kernel)) (by decide +kernel)
theorem cw_lay : Cond.codeWith yL_lay cL_lay 8 (some .int) [(0, 16, 19, 28), (0, 16, 23, 13), (0, 16, 27, 15)] ∈ gw_tbl := gw_mem (List.mem_of_getElem? (i := 685) (by decide +kernel)) (by decide +kernel)
theorem cs_lay : Cond.static yL_lay ∈ gw_tbl := gw_mem (List.mem_of_getElem? (i := 684) (by decide +kernel)) (by decide +kernel)
theorem cw_cut : Cond.codeWith yL_cut cL_cut 4 (some .int) [(0, 9, 12, 28)] ∈ gw_tbl := gw_mem (List.mem_of_getElem? (i := 694) (by decide +kernel)) (by decide +kernel)
theorem cs_cut : Cond.static yL_cut ∈ gw_tbl := gw_mem (List.mem_of_getElem? (i := 693) (by decide +kernel)) (by decide +kernel)
theorem cw_put : Cond.codeWith yL_put cL_put 5 (some .int) [(0, 10, 13, 28), (0, 10, 17, 13), (0, 10, 21, 15)] ∈ gw_tbl := gw_mem (List.mem_of_getElem? (i := 702) (by decide +kernel)) (by decide +kernel)
theorem cs_put : Cond.static yL_put ∈ gw_tbl := gw_mem (List.mem_of_getElem? (i := 701) (by decide +kernel)) (by decide +kernel)
theorem cw_work : Cond.codeWith yL_work cL_work 4 (some .int) [(0, 9, 12, 28), (0, 9, 15, 15)] ∈ gw_tbl := gw_mem (List.mem_of_getElem? (i := 717) (by decide +kernel)) (by decide +kernel)
theorem cs_work : Cond.static yL_work ∈ gw_tbl := gw_mem (List.mem_of_getElem? (i := 716) (by decide +kernel)) (by decide +kernel)
theorem cw_round : Cond.codeWith yL_round cL_round 4 (some .int) [(0, 9, 12, 13), (0, 9, 15, 15)] ∈ gw_tbl := gw_mem (List.mem_of_getElem? (i := 726) (by decide +kernel)) (by decide +kernel)
theorem cs_round : Cond.static yL_round ∈ gw_tbl := gw_mem (List.mem_of_getElem? (i := 725) (by decide +kernel)) (by decide +kernel)
theorem cw_undo : Cond.codeWith yL_undo cL_undo 3 (some .int) [(0, 8, 11, 15)] ∈ gw_tbl := gw_mem (List.mem_of_getElem? (i := 740) (by decide +kernel)) (by decide +kernel)
theorem cs_undo : Cond.static yL_undo ∈ gw_tbl := gw_mem (List.mem_of_getElem? (i := 739) (by decide +kernel)) (by decide +kernel)
theorem cw_order : Cond.codeWith yL_order cL_order 5 (some .int) [(0, 10, 13, 13)] ∈ gw_tbl := gw_mem (List.mem_of_getElem? (i := 755) (by decide +kernel)) (by decide +kernel)
theorem cs_order : Cond.static yL_order ∈ gw_tbl := gw_mem (List.mem_of_getElem? (i := 754) (by decide +kernel)) (by decide +kernel)
theorem cw_sticks : Cond.codeWith yL_sticks cL_sticks 4 (some .int) [(0, 9, 12, 13)] ∈ gw_tbl := gw_mem (List.mem_of_getElem? (i := 763) (by decide +kernel)) (by decide +kernel)
theorem cs_sticks : Cond.static yL_sticks ∈ gw_tbl := gw_mem (List.mem_of_getElem? (i := 762) (by decide +kernel)) (by decide +kernel)
theorem cw_holds : Cond.codeWith yL_holds cL_holds 5 (some .int) [(0, 10, 13, 28), (0, 10, 17, 13)] ∈ gw_tbl := gw_mem (List.mem_of_getElem? (i := 770) (by decide +kernel)) (by decide +kernel)
theorem cs_holds : Cond.static yL_holds ∈ gw_tbl := gw_mem (List.mem_of_getElem? (i := 769) (by decide +kernel)) (by decide +kernel)
theorem cw_fewest : Cond.codeWith yL_fewest cL_fewest 4 (some .int) [(0, 9, 12, 28)] ∈ gw_tbl := gw_mem (List.mem_of_getElem? (i := 777) (by decide +kernel)) (by decide +kernel)
theorem cs_fewest : Cond.static yL_fewest ∈ gw_tbl := gw_mem (List.mem_of_getElem? (i := 776) (by decide +kernel)) (by decide +kernel)
theorem cw_agrees : Cond.codeWith yL_agrees cL_agrees 5 (some .int) [(0, 10, 13, 28), (0, 10, 17, 13)] ∈ gw_tbl := gw_mem (List.mem_of_getElem? (i := 789) (by decide +kernel)) (by decide +kernel)
theorem cs_agrees : Cond.static yL_agrees ∈ gw_tbl := gw_mem (List.mem_of_getElem? (i := 788) (by decide +kernel)) (by decide +kernel)
theorem cw_runScript : Cond.codeWith yL_runScript cL_runScript 6 (some .int) [(0, 11, 14, 13)] ∈ gw_tbl := gw_mem (List.mem_of_getElem? (i := 796) (by decide +kernel)) (by decide +kernel)
theorem cs_runScript : Cond.static yL_runScript ∈ gw_tbl := gw_mem (List.mem_of_getElem? (i := 795) (by decide +kernel)) (by decide +kernel)
theorem cw_simulate : Cond.codeWith yL_simulate cL_simulate 6 (some .int) [(0, 11, 14, 13)] ∈ gw_tbl := gw_mem (List.mem_of_getElem? (i := 835) (by decide +kernel)) (by decide +kernel)
theorem cs_simulate : Cond.static yL_simulate ∈ gw_tbl := gw_mem (List.mem_of_getElem? (i := 834) (by decide +kernel)) (by decide +kernel)
theorem cw_save : Cond.codeWith yL_save cL_save 4 (some .int) [(0, 9, 12, 28)] ∈ gw_tbl := gw_mem (List.mem_of_getElem? (i := 851) (by decide +kernel)) (by decide +kernel)
theorem cs_save : Cond.static yL_save ∈ gw_tbl := gw_mem (List.mem_of_getElem? (i := 850) (by decide +kernel)) (by decide +kernel)
theorem cw_restore : Cond.codeWith yL_restore cL_restore 4 (some .int) [(0, 9, 12, 28), (0, 9, 15, 15)] ∈ gw_tbl := gw_mem (List.mem_of_getElem? (i := 861) (by decide +kernel)) (by decide +kernel)
theorem cs_restore : Cond.static yL_restore ∈ gw_tbl := gw_mem (List.mem_of_getElem? (i := 860) (by decide +kernel)) (by decide +kernel)
section LC
variable {x : gw_X} {G : gw_G} {b L : Nat} {sc : Nat → Int32} {σ : gw_S}
theorem lc_append (X : LX x G b L sc) {i : Nat} {A : aS} (hi : i + 6 ≤ L) (hL : L ≤ 3072) (h : CI σ A) (m : MI σ A) (hv : VA A) (hroom : xk x + 1 ≤ 601024 ∧ xn x + 6 ≤ 7293034) (k : ∀ (τ : gw_S) (B : aS), CI τ B → MI τ B → VA B → PW (xup x 1 6) G 7 1635 [(0, .ref b), (1, .ref (G.1 + 0)), (2, .ref (G.1 + 189)), (3, .ref (G.1 + 206)), (4, .int (nI i))] [] τ) : PW x G 7 156 [(0, .ref b), (1, .ref (G.1 + 0)), (2, .ref (G.1 + 189)), (3, .ref (G.1 + 206)), (4, .int (nI i))] [] σ := by
  refine pw_aload_n X.1 dL_law_156 rfl 1 rfl ?_
  refine pw_sk X (i := i) (k := 1) dL_law_157 dL_law_158 dL_law_160 dL_law_161 dL_law_162 0 4 rfl rfl (by omega) hL ?_
  refine pw_aload_n X.1 dL_law_163 rfl 3 rfl ?_
  refine pw_callSH (n := 3) X dL_law_164 (w_append X.2.2.2.2.2.1 h hv _) cw_append cs_append gi_RL ⟨by decide +kernel, by decide +kernel, by decide +kernel⟩ gl_RL_91 rfl (by decide) (by decide) hroom rfl (Nat.le_of_ble_eq_true rfl) (fun r τ hw => ?_)
  have X1 : LX (xup x 1 6) G b L sc := X.up 1 6
  have hR1 : gw_ok (xup x 1 6) 11 := X1.ok hroom
  have mτ := LJ1 m hw
  refine pw_istore X1.1 dL_law_167 (by decide) rfl ?_
  refine pw_aload_n X1.1 dL_law_169 rfl 3 rfl ?_
  refine pw_sk X1 (i := i) (k := 1) dL_law_170 dL_law_171 dL_law_173 dL_law_174 dL_law_175 1 5 rfl rfl (by omega) hL ?_
  refine pw_callV X1.1 dL_law_176 (g_append mτ hv _) gm_X8_append gl_RL_96 rfl hR1 (by decide) (by decide) (ci := 7) (by decide) rfl gk_189.1 gk_189.2 rfl (Nat.le_of_ble_eq_true rfl) ?_
  rintro _ υ ⟨q, rfl, hg⟩
  obtain ⟨j1, j2, j3, j4⟩ := LJ2 (by decide) hw hg
  have fin := k υ _ j3 j4 (vA_append hv _)
  refine pw_istore X1.1 dL_law_179 (by decide) rfl ?_
  refine pw_aload_n X1.1 dL_law_181 rfl 4 rfl ?_
  refine pw_callV X1.1 dL_law_182 (k_X8_thrown υ) gm_X8_thrown gl_RL_97 rfl hR1 (by decide) (by decide) (ci := 7) (by decide) rfl gk_189.1 gk_189.2 rfl (Nat.le_of_ble_eq_true rfl) ?_
  rintro _ υ2 ⟨q2, rfl, e1, e2⟩
  subst e2
  rw [j1] at e1
  subst e1
  refine pw_iload X1.1 dL_law_185 1 rfl ?_
  refine pw_icmp_eq (tgt := 192) X1.1 dL_law_187 (by decide) (fun _ => ?_) (fun z => absurd rfl z)
  refine pw_iload X1.1 dL_law_192 1 rfl ?_
  refine pw_if_ne (tgt := 209) X1.1 dL_law_194 (by decide) (fun _ => ?_) (fun z => ?_)
  · refine pw_goto (tgt := 1635) X1.1 dL_law_209 (by decide) ?_
    exact pw_sub [2, 3, 4, 5, 6] rfl fin
  · refine pw_aload_n X1.1 dL_law_197 rfl 5 rfl ?_
    refine pw_iconst (v := 0) X1.1 dL_law_198 (by decide) ?_
    refine pw_lald X1.1 dL_law_199 gk_206.1 gk_206.2 (vp_in_nI (n := 0) (N := 1) (by decide) (by decide)) ?_
    refine pw_iload X1.1 dL_law_200 0 rfl ?_
    refine pw_i2l (v := q.toInt64) X1.1 dL_law_202 rfl ?_
    refine pw_lcmp X1.1 dL_law_203 ?_
    refine pw_if_eq (tgt := 209) X1.1 dL_law_204 (by decide) (fun _ => ?_) (fun y => absurd (j2 z) y)
    refine pw_goto (tgt := 1635) X1.1 dL_law_209 (by decide) ?_
    exact pw_sub [2, 3, 4, 5, 6] rfl fin
theorem lc_clearText (X : LX x G b L sc) {i : Nat} {A : aS} (h : CI σ A) (m : MI σ A) (hv : VA A) (hroom : xk x ≤ 601024 ∧ xn x ≤ 7293034) (k : ∀ (τ : gw_S) (B : aS), CI τ B → MI τ B → VA B → PW x G 7 1635 [(0, .ref b), (1, .ref (G.1 + 0)), (2, .ref (G.1 + 189)), (3, .ref (G.1 + 206)), (4, .int (nI i))] [] τ) : PW x G 7 212 [(0, .ref b), (1, .ref (G.1 + 0)), (2, .ref (G.1 + 189)), (3, .ref (G.1 + 206)), (4, .int (nI i))] [] σ := by
  have hR1 : gw_ok x 11 := X.ok hroom
  refine pw_aload_n X.1 dL_law_212 rfl 1 rfl ?_
  refine pw_callV X.1 dL_law_213 (f_clearText h) gm_X7_clearText gl_RL_100 rfl hR1 (by decide) (by decide) (ci := 6) (by decide) rfl gk_0.1 gk_0.2 rfl (Nat.le_of_ble_eq_true rfl) ?_
  rintro _ τ ⟨r, rfl, h1, h2, h3, h4⟩
  have mτ := m.kc h4
  refine pw_aload_n X.1 dL_law_216 rfl 2 rfl ?_
  refine pw_callV X.1 dL_law_217 (g_clearText mτ) gm_X8_clearText gl_RL_103 rfl hR1 (by decide) (by decide) (ci := 7) (by decide) rfl gk_189.1 gk_189.2 rfl (Nat.le_of_ble_eq_true rfl) ?_
  rintro _ υ ⟨q, rfl, g1, g2, g3, g4⟩
  refine pw_icmp_eq (tgt := 1635) X.1 dL_law_220 (by decide) (fun _ => k υ _ (h3.km g4) g3 (vA_clear hv)) (fun z => absurd (h2.trans (g2 h1).symm) z)
theorem lc_errorPosition (X : LX x G b L sc) {i : Nat} {A : aS} (h : CI σ A) (m : MI σ A) (hv : VA A) (hroom : xk x ≤ 601024 ∧ xn x ≤ 7293034) (k : ∀ (τ : gw_S) (B : aS), CI τ B → MI τ B → VA B → PW x G 7 1635 [(0, .ref b), (1, .ref (G.1 + 0)), (2, .ref (G.1 + 189)), (3, .ref (G.1 + 206)), (4, .int (nI i))] [] τ) : PW x G 7 225 [(0, .ref b), (1, .ref (G.1 + 0)), (2, .ref (G.1 + 189)), (3, .ref (G.1 + 206)), (4, .int (nI i))] [] σ := by
  have hR1 : gw_ok x 11 := X.ok hroom
  refine pw_aload_n X.1 dL_law_225 rfl 1 rfl ?_
  refine pw_callV X.1 dL_law_226 (f_errorPosition h hv) gm_X7_errorPosition gl_RL_104 rfl hR1 (by decide) (by decide) (ci := 6) (by decide) rfl gk_0.1 gk_0.2 rfl (Nat.le_of_ble_eq_true rfl) ?_
  rintro _ τ ⟨r, rfl, h1, h2, h3, h4⟩
  have mτ := m.kc h4
  refine pw_aload_n X.1 dL_law_229 rfl 2 rfl ?_
  refine pw_callV X.1 dL_law_230 (g_errorPosition mτ hv) gm_X8_errorPosition gl_RL_107 rfl hR1 (by decide) (by decide) (ci := 7) (by decide) rfl gk_189.1 gk_189.2 rfl (Nat.le_of_ble_eq_true rfl) ?_
  rintro _ υ ⟨q, rfl, g1, g2, g3, g4⟩
  refine pw_icmp_eq (tgt := 1635) X.1 dL_law_233 (by decide) (fun _ => k υ _ (h3.km g4) g3 (hv)) (fun z => absurd (h2.trans (g2 h1).symm) z)
theorem lc_load (X : LX x G b L sc) {i : Nat} {A : aS} (hi : i + 6 ≤ L) (hL : L ≤ 3072) (h : CI σ A) (m : MI σ A) (hv : VA A) (hroom : xk x + 1 ≤ 601024 ∧ xn x + 6 ≤ 7293034) (k : ∀ (τ : gw_S) (B : aS), CI τ B → MI τ B → VA B → PW (xup x 1 6) G 7 1635 [(0, .ref b), (1, .ref (G.1 + 0)), (2, .ref (G.1 + 189)), (3, .ref (G.1 + 206)), (4, .int (nI i))] [] τ) : PW x G 7 238 [(0, .ref b), (1, .ref (G.1 + 0)), (2, .ref (G.1 + 189)), (3, .ref (G.1 + 206)), (4, .int (nI i))] [] σ := by
  refine pw_aload_n X.1 dL_law_238 rfl 1 rfl ?_
  refine pw_aload_n X.1 dL_law_239 rfl 3 rfl ?_
  refine pw_callSH (n := 2) X dL_law_240 (w_load X.2.2.2.2.2.1 h hv) cw_load cs_load gi_RL ⟨by decide +kernel, by decide +kernel, by decide +kernel⟩ gl_RL_108 rfl (by decide) (by decide) hroom rfl (Nat.le_of_ble_eq_true rfl) (fun r τ hw => ?_)
  have X1 : LX (xup x 1 6) G b L sc := X.up 1 6
  have hR1 : gw_ok (xup x 1 6) 11 := X1.ok hroom
  have mτ := LJ1 m hw
  refine pw_istore X1.1 dL_law_243 (by decide) rfl ?_
  refine pw_aload_n X1.1 dL_law_245 rfl 3 rfl ?_
  refine pw_callV X1.1 dL_law_246 (g_load mτ hv) gm_X8_load gl_RL_111 rfl hR1 (by decide) (by decide) (ci := 7) (by decide) rfl gk_189.1 gk_189.2 rfl (Nat.le_of_ble_eq_true rfl) ?_
  rintro _ υ ⟨q, rfl, hg⟩
  obtain ⟨j1, j2, j3, j4⟩ := LJ2 (by decide) hw hg
  have fin := k υ _ j3 j4 (vA_load hv)
  refine pw_istore X1.1 dL_law_249 (by decide) rfl ?_
  refine pw_aload_n X1.1 dL_law_251 rfl 4 rfl ?_
  refine pw_callV X1.1 dL_law_252 (k_X8_thrown υ) gm_X8_thrown gl_RL_97 rfl hR1 (by decide) (by decide) (ci := 7) (by decide) rfl gk_189.1 gk_189.2 rfl (Nat.le_of_ble_eq_true rfl) ?_
  rintro _ υ2 ⟨q2, rfl, e1, e2⟩
  subst e2
  rw [j1] at e1
  subst e1
  refine pw_iload X1.1 dL_law_255 1 rfl ?_
  refine pw_icmp_eq (tgt := 262) X1.1 dL_law_257 (by decide) (fun _ => ?_) (fun z => absurd rfl z)
  refine pw_iload X1.1 dL_law_262 1 rfl ?_
  refine pw_if_ne (tgt := 279) X1.1 dL_law_264 (by decide) (fun _ => ?_) (fun z => ?_)
  · refine pw_goto (tgt := 1635) X1.1 dL_law_279 (by decide) ?_
    exact pw_sub [2, 3, 4, 5, 6] rfl fin
  · refine pw_aload_n X1.1 dL_law_267 rfl 5 rfl ?_
    refine pw_iconst (v := 0) X1.1 dL_law_268 (by decide) ?_
    refine pw_lald X1.1 dL_law_269 gk_206.1 gk_206.2 (vp_in_nI (n := 0) (N := 1) (by decide) (by decide)) ?_
    refine pw_iload X1.1 dL_law_270 0 rfl ?_
    refine pw_i2l (v := q.toInt64) X1.1 dL_law_272 rfl ?_
    refine pw_lcmp X1.1 dL_law_273 ?_
    refine pw_if_eq (tgt := 279) X1.1 dL_law_274 (by decide) (fun _ => ?_) (fun y => absurd (j2 z) y)
    refine pw_goto (tgt := 1635) X1.1 dL_law_279 (by decide) ?_
    exact pw_sub [2, 3, 4, 5, 6] rfl fin
theorem lc_about (X : LX x G b L sc) {i : Nat} {A : aS} (hi : i + 6 ≤ L) (hL : L ≤ 3072) (h : CI σ A) (m : MI σ A) (hv : VA A) (hroom : xk x + 1 ≤ 601024 ∧ xn x + 6 ≤ 7293034) (k : ∀ (τ : gw_S) (B : aS), CI τ B → MI τ B → VA B → PW (xup x 1 6) G 7 1635 [(0, .ref b), (1, .ref (G.1 + 0)), (2, .ref (G.1 + 189)), (3, .ref (G.1 + 206)), (4, .int (nI i))] [] τ) : PW x G 7 282 [(0, .ref b), (1, .ref (G.1 + 0)), (2, .ref (G.1 + 189)), (3, .ref (G.1 + 206)), (4, .int (nI i))] [] σ := by
  refine pw_aload_n X.1 dL_law_282 rfl 1 rfl ?_
  refine pw_sk X (i := i) (k := 1) dL_law_283 dL_law_284 dL_law_286 dL_law_287 dL_law_288 0 4 rfl rfl (by omega) hL ?_
  refine pw_aload_n X.1 dL_law_289 rfl 3 rfl ?_
  refine pw_callSH (n := 3) X dL_law_290 (w_about X.2.2.2.2.2.1 h hv _) cw_about cs_about gi_RL ⟨by decide +kernel, by decide +kernel, by decide +kernel⟩ gl_RL_112 rfl (by decide) (by decide) hroom rfl (Nat.le_of_ble_eq_true rfl) (fun r τ hw => ?_)
  have X1 : LX (xup x 1 6) G b L sc := X.up 1 6
  have hR1 : gw_ok (xup x 1 6) 11 := X1.ok hroom
  have mτ := LJ1 m hw
  refine pw_istore X1.1 dL_law_293 (by decide) rfl ?_
  refine pw_aload_n X1.1 dL_law_295 rfl 3 rfl ?_
  refine pw_sk X1 (i := i) (k := 1) dL_law_296 dL_law_297 dL_law_299 dL_law_300 dL_law_301 1 5 rfl rfl (by omega) hL ?_
  refine pw_callV X1.1 dL_law_302 (g_about mτ hv _) gm_X8_about gl_RL_114 rfl hR1 (by decide) (by decide) (ci := 7) (by decide) rfl gk_189.1 gk_189.2 rfl (Nat.le_of_ble_eq_true rfl) ?_
  rintro _ υ ⟨q, rfl, hg⟩
  obtain ⟨j1, j2, j3, j4⟩ := LJ2 (by decide) hw hg
  have fin := k υ _ j3 j4 (by rw [vQ_about]; exact hv)
  refine pw_istore X1.1 dL_law_305 (by decide) rfl ?_
  refine pw_aload_n X1.1 dL_law_307 rfl 4 rfl ?_
  refine pw_callV X1.1 dL_law_308 (k_X8_thrown υ) gm_X8_thrown gl_RL_97 rfl hR1 (by decide) (by decide) (ci := 7) (by decide) rfl gk_189.1 gk_189.2 rfl (Nat.le_of_ble_eq_true rfl) ?_
  rintro _ υ2 ⟨q2, rfl, e1, e2⟩
  subst e2
  rw [j1] at e1
  subst e1
  refine pw_iload X1.1 dL_law_311 1 rfl ?_
  refine pw_icmp_eq (tgt := 318) X1.1 dL_law_313 (by decide) (fun _ => ?_) (fun z => absurd rfl z)
  refine pw_iload X1.1 dL_law_318 1 rfl ?_
  refine pw_if_ne (tgt := 335) X1.1 dL_law_320 (by decide) (fun _ => ?_) (fun z => ?_)
  · refine pw_goto (tgt := 1635) X1.1 dL_law_335 (by decide) ?_
    exact pw_sub [2, 3, 4, 5, 6] rfl fin
  · refine pw_aload_n X1.1 dL_law_323 rfl 5 rfl ?_
    refine pw_iconst (v := 0) X1.1 dL_law_324 (by decide) ?_
    refine pw_lald X1.1 dL_law_325 gk_206.1 gk_206.2 (vp_in_nI (n := 0) (N := 1) (by decide) (by decide)) ?_
    refine pw_iload X1.1 dL_law_326 0 rfl ?_
    refine pw_i2l (v := q.toInt64) X1.1 dL_law_328 rfl ?_
    refine pw_lcmp X1.1 dL_law_329 ?_
    refine pw_if_eq (tgt := 335) X1.1 dL_law_330 (by decide) (fun _ => ?_) (fun y => absurd (j2 z) y)
    refine pw_goto (tgt := 1635) X1.1 dL_law_335 (by decide) ?_
    exact pw_sub [2, 3, 4, 5, 6] rfl fin
theorem lc_module (X : LX x G b L sc) {i : Nat} {A : aS} (hi : i + 6 ≤ L) (hL : L ≤ 3072) (h : CI σ A) (m : MI σ A) (hv : VA A) (hroom : xk x + 1 ≤ 601024 ∧ xn x + 6 ≤ 7293034) (k : ∀ (τ : gw_S) (B : aS), CI τ B → MI τ B → VA B → PW (xup x 1 6) G 7 1635 [(0, .ref b), (1, .ref (G.1 + 0)), (2, .ref (G.1 + 189)), (3, .ref (G.1 + 206)), (4, .int (nI i))] [] τ) : PW x G 7 338 [(0, .ref b), (1, .ref (G.1 + 0)), (2, .ref (G.1 + 189)), (3, .ref (G.1 + 206)), (4, .int (nI i))] [] σ := by
  refine pw_aload_n X.1 dL_law_338 rfl 1 rfl ?_
  refine pw_sk X (i := i) (k := 1) dL_law_339 dL_law_340 dL_law_342 dL_law_343 dL_law_344 0 4 rfl rfl (by omega) hL ?_
  refine pw_sk X (i := i) (k := 2) dL_law_345 dL_law_346 dL_law_348 dL_law_349 dL_law_350 0 4 rfl rfl (by omega) hL ?_
  refine pw_aload_n X.1 dL_law_351 rfl 3 rfl ?_
  refine pw_callSH (n := 4) X dL_law_352 (w_module X.2.2.2.2.2.1 h hv _ _) cw_module cs_module gi_RL ⟨by decide +kernel, by decide +kernel, by decide +kernel⟩ gl_RL_115 rfl (by decide) (by decide) hroom rfl (Nat.le_of_ble_eq_true rfl) (fun r τ hw => ?_)
  have X1 : LX (xup x 1 6) G b L sc := X.up 1 6
  have hR1 : gw_ok (xup x 1 6) 11 := X1.ok hroom
  have mτ := LJ1 m hw
  refine pw_istore X1.1 dL_law_355 (by decide) rfl ?_
  refine pw_aload_n X1.1 dL_law_357 rfl 3 rfl ?_
  refine pw_sk X1 (i := i) (k := 1) dL_law_358 dL_law_359 dL_law_361 dL_law_362 dL_law_363 1 5 rfl rfl (by omega) hL ?_
  refine pw_sk X1 (i := i) (k := 2) dL_law_364 dL_law_365 dL_law_367 dL_law_368 dL_law_369 1 5 rfl rfl (by omega) hL ?_
  refine pw_callV X1.1 dL_law_370 (g_module mτ hv _ _) gm_X8_module gl_RL_118 rfl hR1 (by decide) (by decide) (ci := 7) (by decide) rfl gk_189.1 gk_189.2 rfl (Nat.le_of_ble_eq_true rfl) ?_
  rintro _ υ ⟨q, rfl, hg⟩
  obtain ⟨j1, j2, j3, j4⟩ := LJ2 (by decide) hw hg
  have fin := k υ _ j3 j4 (by rw [vQ_module]; exact hv)
  refine pw_istore X1.1 dL_law_373 (by decide) rfl ?_
  refine pw_aload_n X1.1 dL_law_375 rfl 4 rfl ?_
  refine pw_callV X1.1 dL_law_376 (k_X8_thrown υ) gm_X8_thrown gl_RL_97 rfl hR1 (by decide) (by decide) (ci := 7) (by decide) rfl gk_189.1 gk_189.2 rfl (Nat.le_of_ble_eq_true rfl) ?_
  rintro _ υ2 ⟨q2, rfl, e1, e2⟩
  subst e2
  rw [j1] at e1
  subst e1
  refine pw_iload X1.1 dL_law_379 1 rfl ?_
  refine pw_icmp_eq (tgt := 386) X1.1 dL_law_381 (by decide) (fun _ => ?_) (fun z => absurd rfl z)
  refine pw_iload X1.1 dL_law_386 1 rfl ?_
  refine pw_if_ne (tgt := 403) X1.1 dL_law_388 (by decide) (fun _ => ?_) (fun z => ?_)
  · refine pw_goto (tgt := 1635) X1.1 dL_law_403 (by decide) ?_
    exact pw_sub [2, 3, 4, 5, 6] rfl fin
  · refine pw_aload_n X1.1 dL_law_391 rfl 5 rfl ?_
    refine pw_iconst (v := 0) X1.1 dL_law_392 (by decide) ?_
    refine pw_lald X1.1 dL_law_393 gk_206.1 gk_206.2 (vp_in_nI (n := 0) (N := 1) (by decide) (by decide)) ?_
    refine pw_iload X1.1 dL_law_394 0 rfl ?_
    refine pw_i2l (v := q.toInt64) X1.1 dL_law_396 rfl ?_
    refine pw_lcmp X1.1 dL_law_397 ?_
    refine pw_if_eq (tgt := 403) X1.1 dL_law_398 (by decide) (fun _ => ?_) (fun y => absurd (j2 z) y)
    refine pw_goto (tgt := 1635) X1.1 dL_law_403 (by decide) ?_
    exact pw_sub [2, 3, 4, 5, 6] rfl fin
theorem lc_wire (X : LX x G b L sc) {i : Nat} {A : aS} (hi : i + 6 ≤ L) (hL : L ≤ 3072) (h : CI σ A) (m : MI σ A) (hv : VA A) (hroom : xk x + 1 ≤ 601024 ∧ xn x + 6 ≤ 7293034) (k : ∀ (τ : gw_S) (B : aS), CI τ B → MI τ B → VA B → PW (xup x 1 6) G 7 1635 [(0, .ref b), (1, .ref (G.1 + 0)), (2, .ref (G.1 + 189)), (3, .ref (G.1 + 206)), (4, .int (nI i))] [] τ) : PW x G 7 406 [(0, .ref b), (1, .ref (G.1 + 0)), (2, .ref (G.1 + 189)), (3, .ref (G.1 + 206)), (4, .int (nI i))] [] σ := by
  refine pw_aload_n X.1 dL_law_406 rfl 1 rfl ?_
  refine pw_sk X (i := i) (k := 1) dL_law_407 dL_law_408 dL_law_410 dL_law_411 dL_law_412 0 4 rfl rfl (by omega) hL ?_
  refine pw_sk X (i := i) (k := 2) dL_law_413 dL_law_414 dL_law_416 dL_law_417 dL_law_418 0 4 rfl rfl (by omega) hL ?_
  refine pw_aload_n X.1 dL_law_419 rfl 3 rfl ?_
  refine pw_callSH (n := 4) X dL_law_420 (w_wire X.2.2.2.2.2.1 h hv _ _) cw_wire cs_wire gi_RL ⟨by decide +kernel, by decide +kernel, by decide +kernel⟩ gl_RL_119 rfl (by decide) (by decide) hroom rfl (Nat.le_of_ble_eq_true rfl) (fun r τ hw => ?_)
  have X1 : LX (xup x 1 6) G b L sc := X.up 1 6
  have hR1 : gw_ok (xup x 1 6) 11 := X1.ok hroom
  have mτ := LJ1 m hw
  refine pw_istore X1.1 dL_law_423 (by decide) rfl ?_
  refine pw_aload_n X1.1 dL_law_425 rfl 3 rfl ?_
  refine pw_sk X1 (i := i) (k := 1) dL_law_426 dL_law_427 dL_law_429 dL_law_430 dL_law_431 1 5 rfl rfl (by omega) hL ?_
  refine pw_sk X1 (i := i) (k := 2) dL_law_432 dL_law_433 dL_law_435 dL_law_436 dL_law_437 1 5 rfl rfl (by omega) hL ?_
  refine pw_callV X1.1 dL_law_438 (g_wire mτ hv _ _) gm_X8_wire gl_RL_121 rfl hR1 (by decide) (by decide) (ci := 7) (by decide) rfl gk_189.1 gk_189.2 rfl (Nat.le_of_ble_eq_true rfl) ?_
  rintro _ υ ⟨q, rfl, hg⟩
  obtain ⟨j1, j2, j3, j4⟩ := LJ2 (by decide) hw hg
  have fin := k υ _ j3 j4 (by rw [vQ_wire]; exact hv)
  refine pw_istore X1.1 dL_law_441 (by decide) rfl ?_
  refine pw_aload_n X1.1 dL_law_443 rfl 4 rfl ?_
  refine pw_callV X1.1 dL_law_444 (k_X8_thrown υ) gm_X8_thrown gl_RL_97 rfl hR1 (by decide) (by decide) (ci := 7) (by decide) rfl gk_189.1 gk_189.2 rfl (Nat.le_of_ble_eq_true rfl) ?_
  rintro _ υ2 ⟨q2, rfl, e1, e2⟩
  subst e2
  rw [j1] at e1
  subst e1
  refine pw_iload X1.1 dL_law_447 1 rfl ?_
  refine pw_icmp_eq (tgt := 454) X1.1 dL_law_449 (by decide) (fun _ => ?_) (fun z => absurd rfl z)
  refine pw_iload X1.1 dL_law_454 1 rfl ?_
  refine pw_if_ne (tgt := 471) X1.1 dL_law_456 (by decide) (fun _ => ?_) (fun z => ?_)
  · refine pw_goto (tgt := 1635) X1.1 dL_law_471 (by decide) ?_
    exact pw_sub [2, 3, 4, 5, 6] rfl fin
  · refine pw_aload_n X1.1 dL_law_459 rfl 5 rfl ?_
    refine pw_iconst (v := 0) X1.1 dL_law_460 (by decide) ?_
    refine pw_lald X1.1 dL_law_461 gk_206.1 gk_206.2 (vp_in_nI (n := 0) (N := 1) (by decide) (by decide)) ?_
    refine pw_iload X1.1 dL_law_462 0 rfl ?_
    refine pw_i2l (v := q.toInt64) X1.1 dL_law_464 rfl ?_
    refine pw_lcmp X1.1 dL_law_465 ?_
    refine pw_if_eq (tgt := 471) X1.1 dL_law_466 (by decide) (fun _ => ?_) (fun y => absurd (j2 z) y)
    refine pw_goto (tgt := 1635) X1.1 dL_law_471 (by decide) ?_
    exact pw_sub [2, 3, 4, 5, 6] rfl fin
theorem lc_between (X : LX x G b L sc) {i : Nat} {A : aS} (hi : i + 6 ≤ L) (hL : L ≤ 3072) (h : CI σ A) (m : MI σ A) (hv : VA A) (hroom : xk x + 1 ≤ 601024 ∧ xn x + 6 ≤ 7293034) (k : ∀ (τ : gw_S) (B : aS), CI τ B → MI τ B → VA B → PW (xup x 1 6) G 7 1635 [(0, .ref b), (1, .ref (G.1 + 0)), (2, .ref (G.1 + 189)), (3, .ref (G.1 + 206)), (4, .int (nI i))] [] τ) : PW x G 7 474 [(0, .ref b), (1, .ref (G.1 + 0)), (2, .ref (G.1 + 189)), (3, .ref (G.1 + 206)), (4, .int (nI i))] [] σ := by
  refine pw_aload_n X.1 dL_law_474 rfl 1 rfl ?_
  refine pw_sk X (i := i) (k := 1) dL_law_475 dL_law_476 dL_law_478 dL_law_479 dL_law_480 0 4 rfl rfl (by omega) hL ?_
  refine pw_sk X (i := i) (k := 2) dL_law_481 dL_law_482 dL_law_484 dL_law_485 dL_law_486 0 4 rfl rfl (by omega) hL ?_
  refine pw_aload_n X.1 dL_law_487 rfl 3 rfl ?_
  refine pw_callSH (n := 4) X dL_law_488 (w_between X.2.2.2.2.2.1 h hv _ _) cw_between cs_between gi_RL ⟨by decide +kernel, by decide +kernel, by decide +kernel⟩ gl_RL_122 rfl (by decide) (by decide) hroom rfl (Nat.le_of_ble_eq_true rfl) (fun r τ hw => ?_)
  have X1 : LX (xup x 1 6) G b L sc := X.up 1 6
  have hR1 : gw_ok (xup x 1 6) 11 := X1.ok hroom
  have mτ := LJ1 m hw
  refine pw_istore X1.1 dL_law_491 (by decide) rfl ?_
  refine pw_aload_n X1.1 dL_law_493 rfl 3 rfl ?_
  refine pw_sk X1 (i := i) (k := 1) dL_law_494 dL_law_495 dL_law_497 dL_law_498 dL_law_499 1 5 rfl rfl (by omega) hL ?_
  refine pw_sk X1 (i := i) (k := 2) dL_law_500 dL_law_501 dL_law_503 dL_law_504 dL_law_505 1 5 rfl rfl (by omega) hL ?_
  refine pw_callV X1.1 dL_law_506 (g_between mτ hv _ _) gm_X8_between gl_RL_124 rfl hR1 (by decide) (by decide) (ci := 7) (by decide) rfl gk_189.1 gk_189.2 rfl (Nat.le_of_ble_eq_true rfl) ?_
  rintro _ υ ⟨q, rfl, hg⟩
  obtain ⟨j1, j2, j3, j4⟩ := LJ2 (by decide) hw hg
  have fin := k υ _ j3 j4 (by rw [vQ_between]; exact hv)
  refine pw_istore X1.1 dL_law_509 (by decide) rfl ?_
  refine pw_aload_n X1.1 dL_law_511 rfl 4 rfl ?_
  refine pw_callV X1.1 dL_law_512 (k_X8_thrown υ) gm_X8_thrown gl_RL_97 rfl hR1 (by decide) (by decide) (ci := 7) (by decide) rfl gk_189.1 gk_189.2 rfl (Nat.le_of_ble_eq_true rfl) ?_
  rintro _ υ2 ⟨q2, rfl, e1, e2⟩
  subst e2
  rw [j1] at e1
  subst e1
  refine pw_iload X1.1 dL_law_515 1 rfl ?_
  refine pw_icmp_eq (tgt := 522) X1.1 dL_law_517 (by decide) (fun _ => ?_) (fun z => absurd rfl z)
  refine pw_iload X1.1 dL_law_522 1 rfl ?_
  refine pw_if_ne (tgt := 539) X1.1 dL_law_524 (by decide) (fun _ => ?_) (fun z => ?_)
  · refine pw_goto (tgt := 1635) X1.1 dL_law_539 (by decide) ?_
    exact pw_sub [2, 3, 4, 5, 6] rfl fin
  · refine pw_aload_n X1.1 dL_law_527 rfl 5 rfl ?_
    refine pw_iconst (v := 0) X1.1 dL_law_528 (by decide) ?_
    refine pw_lald X1.1 dL_law_529 gk_206.1 gk_206.2 (vp_in_nI (n := 0) (N := 1) (by decide) (by decide)) ?_
    refine pw_iload X1.1 dL_law_530 0 rfl ?_
    refine pw_i2l (v := q.toInt64) X1.1 dL_law_532 rfl ?_
    refine pw_lcmp X1.1 dL_law_533 ?_
    refine pw_if_eq (tgt := 539) X1.1 dL_law_534 (by decide) (fun _ => ?_) (fun y => absurd (j2 z) y)
    refine pw_goto (tgt := 1635) X1.1 dL_law_539 (by decide) ?_
    exact pw_sub [2, 3, 4, 5, 6] rfl fin
theorem lc_addModule (X : LX x G b L sc) {i : Nat} {A : aS} (hi : i + 6 ≤ L) (hL : L ≤ 3072) (h : CI σ A) (m : MI σ A) (hv : VA A) (hroom : xk x + 1 ≤ 601024 ∧ xn x + 6 ≤ 7293034) (k : ∀ (τ : gw_S) (B : aS), CI τ B → MI τ B → VA B → PW (xup x 1 6) G 7 1635 [(0, .ref b), (1, .ref (G.1 + 0)), (2, .ref (G.1 + 189)), (3, .ref (G.1 + 206)), (4, .int (nI i))] [] τ) : PW x G 7 542 [(0, .ref b), (1, .ref (G.1 + 0)), (2, .ref (G.1 + 189)), (3, .ref (G.1 + 206)), (4, .int (nI i))] [] σ := by
  refine pw_aload_n X.1 dL_law_542 rfl 1 rfl ?_
  refine pw_sk X (i := i) (k := 1) dL_law_543 dL_law_544 dL_law_546 dL_law_547 dL_law_548 0 4 rfl rfl (by omega) hL ?_
  refine pw_sk X (i := i) (k := 2) dL_law_549 dL_law_550 dL_law_552 dL_law_553 dL_law_554 0 4 rfl rfl (by omega) hL ?_
  refine pw_aload_n X.1 dL_law_555 rfl 3 rfl ?_
  refine pw_callSH (n := 4) X dL_law_556 (w_addModule X.2.2.2.2.2.1 h hv _ _) cw_addModule cs_addModule gi_RL ⟨by decide +kernel, by decide +kernel, by decide +kernel⟩ gl_RL_125 rfl (by decide) (by decide) hroom rfl (Nat.le_of_ble_eq_true rfl) (fun r τ hw => ?_)
  have X1 : LX (xup x 1 6) G b L sc := X.up 1 6
  have hR1 : gw_ok (xup x 1 6) 11 := X1.ok hroom
  have mτ := LJ1 m hw
  refine pw_istore X1.1 dL_law_559 (by decide) rfl ?_
  refine pw_aload_n X1.1 dL_law_561 rfl 3 rfl ?_
  refine pw_sk X1 (i := i) (k := 1) dL_law_562 dL_law_563 dL_law_565 dL_law_566 dL_law_567 1 5 rfl rfl (by omega) hL ?_
  refine pw_sk X1 (i := i) (k := 2) dL_law_568 dL_law_569 dL_law_571 dL_law_572 dL_law_573 1 5 rfl rfl (by omega) hL ?_
  refine pw_callV X1.1 dL_law_574 (g_addModule mτ hv _ _) gm_X8_addModule gl_RL_127 rfl hR1 (by decide) (by decide) (ci := 7) (by decide) rfl gk_189.1 gk_189.2 rfl (Nat.le_of_ble_eq_true rfl) ?_
  rintro _ υ ⟨q, rfl, hg⟩
  obtain ⟨j1, j2, j3, j4⟩ := LJ2 (by decide) hw hg
  have fin := k υ _ j3 j4 (vA_add hv _ _)
  refine pw_istore X1.1 dL_law_577 (by decide) rfl ?_
  refine pw_aload_n X1.1 dL_law_579 rfl 4 rfl ?_
  refine pw_callV X1.1 dL_law_580 (k_X8_thrown υ) gm_X8_thrown gl_RL_97 rfl hR1 (by decide) (by decide) (ci := 7) (by decide) rfl gk_189.1 gk_189.2 rfl (Nat.le_of_ble_eq_true rfl) ?_
  rintro _ υ2 ⟨q2, rfl, e1, e2⟩
  subst e2
  rw [j1] at e1
  subst e1
  refine pw_iload X1.1 dL_law_583 1 rfl ?_
  refine pw_icmp_eq (tgt := 590) X1.1 dL_law_585 (by decide) (fun _ => ?_) (fun z => absurd rfl z)
  refine pw_iload X1.1 dL_law_590 1 rfl ?_
  refine pw_if_ne (tgt := 607) X1.1 dL_law_592 (by decide) (fun _ => ?_) (fun z => ?_)
  · refine pw_goto (tgt := 1635) X1.1 dL_law_607 (by decide) ?_
    exact pw_sub [2, 3, 4, 5, 6] rfl fin
  · refine pw_aload_n X1.1 dL_law_595 rfl 5 rfl ?_
    refine pw_iconst (v := 0) X1.1 dL_law_596 (by decide) ?_
    refine pw_lald X1.1 dL_law_597 gk_206.1 gk_206.2 (vp_in_nI (n := 0) (N := 1) (by decide) (by decide)) ?_
    refine pw_iload X1.1 dL_law_598 0 rfl ?_
    refine pw_i2l (v := q.toInt64) X1.1 dL_law_600 rfl ?_
    refine pw_lcmp X1.1 dL_law_601 ?_
    refine pw_if_eq (tgt := 607) X1.1 dL_law_602 (by decide) (fun _ => ?_) (fun y => absurd (j2 z) y)
    refine pw_goto (tgt := 1635) X1.1 dL_law_607 (by decide) ?_
    exact pw_sub [2, 3, 4, 5, 6] rfl fin
theorem lc_lay (X : LX x G b L sc) {i : Nat} {A : aS} (hi : i + 6 ≤ L) (hL : L ≤ 3072) (h : CI σ A) (m : MI σ A) (hv : VA A) (hroom : xk x + 1 ≤ 601024 ∧ xn x + 6 ≤ 7293034) (k : ∀ (τ : gw_S) (B : aS), CI τ B → MI τ B → VA B → PW (xup x 1 6) G 7 1635 [(0, .ref b), (1, .ref (G.1 + 0)), (2, .ref (G.1 + 189)), (3, .ref (G.1 + 206)), (4, .int (nI i))] [] τ) : PW x G 7 610 [(0, .ref b), (1, .ref (G.1 + 0)), (2, .ref (G.1 + 189)), (3, .ref (G.1 + 206)), (4, .int (nI i))] [] σ := by
  refine pw_aload_n X.1 dL_law_610 rfl 1 rfl ?_
  refine pw_sk X (i := i) (k := 1) dL_law_611 dL_law_612 dL_law_614 dL_law_615 dL_law_616 0 4 rfl rfl (by omega) hL ?_
  refine pw_sk X (i := i) (k := 2) dL_law_617 dL_law_618 dL_law_620 dL_law_621 dL_law_622 0 4 rfl rfl (by omega) hL ?_
  refine pw_sk X (i := i) (k := 3) dL_law_623 dL_law_624 dL_law_626 dL_law_627 dL_law_628 0 4 rfl rfl (by omega) hL ?_
  refine pw_sk X (i := i) (k := 4) dL_law_629 dL_law_630 dL_law_632 dL_law_633 dL_law_634 0 4 rfl rfl (by omega) hL ?_
  refine pw_sk X (i := i) (k := 5) dL_law_635 dL_law_636 dL_law_638 dL_law_639 dL_law_640 0 4 rfl rfl (by omega) hL ?_
  refine pw_aload_n X.1 dL_law_641 rfl 3 rfl ?_
  refine pw_callSH (n := 7) X dL_law_642 (w_lay X.2.2.2.2.2.1 h hv _ _ _ _ _) cw_lay cs_lay gi_RL ⟨by decide +kernel, by decide +kernel, by decide +kernel⟩ gl_RL_128 rfl (by decide) (by decide) hroom rfl (Nat.le_of_ble_eq_true rfl) (fun r τ hw => ?_)
  have X1 : LX (xup x 1 6) G b L sc := X.up 1 6
  have hR1 : gw_ok (xup x 1 6) 11 := X1.ok hroom
  have mτ := LJ1 m hw
  refine pw_istore X1.1 dL_law_645 (by decide) rfl ?_
  refine pw_aload_n X1.1 dL_law_647 rfl 3 rfl ?_
  refine pw_sk X1 (i := i) (k := 1) dL_law_648 dL_law_649 dL_law_651 dL_law_652 dL_law_653 1 5 rfl rfl (by omega) hL ?_
  refine pw_sk X1 (i := i) (k := 2) dL_law_654 dL_law_655 dL_law_657 dL_law_658 dL_law_659 1 5 rfl rfl (by omega) hL ?_
  refine pw_sk X1 (i := i) (k := 3) dL_law_660 dL_law_661 dL_law_663 dL_law_664 dL_law_665 1 5 rfl rfl (by omega) hL ?_
  refine pw_sk X1 (i := i) (k := 4) dL_law_666 dL_law_667 dL_law_669 dL_law_670 dL_law_671 1 5 rfl rfl (by omega) hL ?_
  refine pw_sk X1 (i := i) (k := 5) dL_law_672 dL_law_673 dL_law_675 dL_law_676 dL_law_677 1 5 rfl rfl (by omega) hL ?_
  refine pw_callV X1.1 dL_law_678 (g_lay mτ hv _ _ _ _ _) gm_X8_lay gl_RL_131 rfl hR1 (by decide) (by decide) (ci := 7) (by decide) rfl gk_189.1 gk_189.2 rfl (Nat.le_of_ble_eq_true rfl) ?_
  rintro _ υ ⟨q, rfl, hg⟩
  obtain ⟨j1, j2, j3, j4⟩ := LJ2 (by decide) hw hg
  have fin := k υ _ j3 j4 (vA_lay hv _ _ _ _ _)
  refine pw_istore X1.1 dL_law_681 (by decide) rfl ?_
  refine pw_aload_n X1.1 dL_law_683 rfl 4 rfl ?_
  refine pw_callV X1.1 dL_law_684 (k_X8_thrown υ) gm_X8_thrown gl_RL_97 rfl hR1 (by decide) (by decide) (ci := 7) (by decide) rfl gk_189.1 gk_189.2 rfl (Nat.le_of_ble_eq_true rfl) ?_
  rintro _ υ2 ⟨q2, rfl, e1, e2⟩
  subst e2
  rw [j1] at e1
  subst e1
  refine pw_iload X1.1 dL_law_687 1 rfl ?_
  refine pw_icmp_eq (tgt := 694) X1.1 dL_law_689 (by decide) (fun _ => ?_) (fun z => absurd rfl z)
  refine pw_iload X1.1 dL_law_694 1 rfl ?_
  refine pw_if_ne (tgt := 711) X1.1 dL_law_696 (by decide) (fun _ => ?_) (fun z => ?_)
  · refine pw_goto (tgt := 1635) X1.1 dL_law_711 (by decide) ?_
    exact pw_sub [2, 3, 4, 5, 6] rfl fin
  · refine pw_aload_n X1.1 dL_law_699 rfl 5 rfl ?_
    refine pw_iconst (v := 0) X1.1 dL_law_700 (by decide) ?_
    refine pw_lald X1.1 dL_law_701 gk_206.1 gk_206.2 (vp_in_nI (n := 0) (N := 1) (by decide) (by decide)) ?_
    refine pw_iload X1.1 dL_law_702 0 rfl ?_
    refine pw_i2l (v := q.toInt64) X1.1 dL_law_704 rfl ?_
    refine pw_lcmp X1.1 dL_law_705 ?_
    refine pw_if_eq (tgt := 711) X1.1 dL_law_706 (by decide) (fun _ => ?_) (fun y => absurd (j2 z) y)
    refine pw_goto (tgt := 1635) X1.1 dL_law_711 (by decide) ?_
    exact pw_sub [2, 3, 4, 5, 6] rfl fin
theorem lc_cut (X : LX x G b L sc) {i : Nat} {A : aS} (hi : i + 6 ≤ L) (hL : L ≤ 3072) (h : CI σ A) (m : MI σ A) (hv : VA A) (hroom : xk x + 1 ≤ 601024 ∧ xn x + 6 ≤ 7293034) (k : ∀ (τ : gw_S) (B : aS), CI τ B → MI τ B → VA B → PW (xup x 1 6) G 7 1635 [(0, .ref b), (1, .ref (G.1 + 0)), (2, .ref (G.1 + 189)), (3, .ref (G.1 + 206)), (4, .int (nI i))] [] τ) : PW x G 7 714 [(0, .ref b), (1, .ref (G.1 + 0)), (2, .ref (G.1 + 189)), (3, .ref (G.1 + 206)), (4, .int (nI i))] [] σ := by
  refine pw_aload_n X.1 dL_law_714 rfl 1 rfl ?_
  refine pw_sk X (i := i) (k := 1) dL_law_715 dL_law_716 dL_law_718 dL_law_719 dL_law_720 0 4 rfl rfl (by omega) hL ?_
  refine pw_aload_n X.1 dL_law_721 rfl 3 rfl ?_
  refine pw_callSH (n := 3) X dL_law_722 (w_cut X.2.2.2.2.2.1 h hv _) cw_cut cs_cut gi_RL ⟨by decide +kernel, by decide +kernel, by decide +kernel⟩ gl_RL_132 rfl (by decide) (by decide) hroom rfl (Nat.le_of_ble_eq_true rfl) (fun r τ hw => ?_)
  have X1 : LX (xup x 1 6) G b L sc := X.up 1 6
  have hR1 : gw_ok (xup x 1 6) 11 := X1.ok hroom
  have mτ := LJ1 m hw
  refine pw_istore X1.1 dL_law_725 (by decide) rfl ?_
  refine pw_aload_n X1.1 dL_law_727 rfl 3 rfl ?_
  refine pw_sk X1 (i := i) (k := 1) dL_law_728 dL_law_729 dL_law_731 dL_law_732 dL_law_733 1 5 rfl rfl (by omega) hL ?_
  refine pw_callV X1.1 dL_law_734 (g_cut mτ hv _) gm_X8_cut gl_RL_134 rfl hR1 (by decide) (by decide) (ci := 7) (by decide) rfl gk_189.1 gk_189.2 rfl (Nat.le_of_ble_eq_true rfl) ?_
  rintro _ υ ⟨q, rfl, hg⟩
  obtain ⟨j1, j2, j3, j4⟩ := LJ2 (by decide) hw hg
  have fin := k υ _ j3 j4 (vA_cut hv _)
  refine pw_istore X1.1 dL_law_737 (by decide) rfl ?_
  refine pw_aload_n X1.1 dL_law_739 rfl 4 rfl ?_
  refine pw_callV X1.1 dL_law_740 (k_X8_thrown υ) gm_X8_thrown gl_RL_97 rfl hR1 (by decide) (by decide) (ci := 7) (by decide) rfl gk_189.1 gk_189.2 rfl (Nat.le_of_ble_eq_true rfl) ?_
  rintro _ υ2 ⟨q2, rfl, e1, e2⟩
  subst e2
  rw [j1] at e1
  subst e1
  refine pw_iload X1.1 dL_law_743 1 rfl ?_
  refine pw_icmp_eq (tgt := 750) X1.1 dL_law_745 (by decide) (fun _ => ?_) (fun z => absurd rfl z)
  refine pw_iload X1.1 dL_law_750 1 rfl ?_
  refine pw_if_ne (tgt := 767) X1.1 dL_law_752 (by decide) (fun _ => ?_) (fun z => ?_)
  · refine pw_goto (tgt := 1635) X1.1 dL_law_767 (by decide) ?_
    exact pw_sub [2, 3, 4, 5, 6] rfl fin
  · refine pw_aload_n X1.1 dL_law_755 rfl 5 rfl ?_
    refine pw_iconst (v := 0) X1.1 dL_law_756 (by decide) ?_
    refine pw_lald X1.1 dL_law_757 gk_206.1 gk_206.2 (vp_in_nI (n := 0) (N := 1) (by decide) (by decide)) ?_
    refine pw_iload X1.1 dL_law_758 0 rfl ?_
    refine pw_i2l (v := q.toInt64) X1.1 dL_law_760 rfl ?_
    refine pw_lcmp X1.1 dL_law_761 ?_
    refine pw_if_eq (tgt := 767) X1.1 dL_law_762 (by decide) (fun _ => ?_) (fun y => absurd (j2 z) y)
    refine pw_goto (tgt := 1635) X1.1 dL_law_767 (by decide) ?_
    exact pw_sub [2, 3, 4, 5, 6] rfl fin
theorem lc_put (X : LX x G b L sc) {i : Nat} {A : aS} (hi : i + 6 ≤ L) (hL : L ≤ 3072) (h : CI σ A) (m : MI σ A) (hv : VA A) (hroom : xk x + 1 ≤ 601024 ∧ xn x + 6 ≤ 7293034) (k : ∀ (τ : gw_S) (B : aS), CI τ B → MI τ B → VA B → PW (xup x 1 6) G 7 1635 [(0, .ref b), (1, .ref (G.1 + 0)), (2, .ref (G.1 + 189)), (3, .ref (G.1 + 206)), (4, .int (nI i))] [] τ) : PW x G 7 770 [(0, .ref b), (1, .ref (G.1 + 0)), (2, .ref (G.1 + 189)), (3, .ref (G.1 + 206)), (4, .int (nI i))] [] σ := by
  refine pw_aload_n X.1 dL_law_770 rfl 1 rfl ?_
  refine pw_sk X (i := i) (k := 1) dL_law_771 dL_law_772 dL_law_774 dL_law_775 dL_law_776 0 4 rfl rfl (by omega) hL ?_
  refine pw_sk X (i := i) (k := 2) dL_law_777 dL_law_778 dL_law_780 dL_law_781 dL_law_782 0 4 rfl rfl (by omega) hL ?_
  refine pw_aload_n X.1 dL_law_783 rfl 3 rfl ?_
  refine pw_callSH (n := 4) X dL_law_784 (w_put X.2.2.2.2.2.1 h hv _ _) cw_put cs_put gi_RL ⟨by decide +kernel, by decide +kernel, by decide +kernel⟩ gl_RL_135 rfl (by decide) (by decide) hroom rfl (Nat.le_of_ble_eq_true rfl) (fun r τ hw => ?_)
  have X1 : LX (xup x 1 6) G b L sc := X.up 1 6
  have hR1 : gw_ok (xup x 1 6) 11 := X1.ok hroom
  have mτ := LJ1 m hw
  refine pw_istore X1.1 dL_law_787 (by decide) rfl ?_
  refine pw_aload_n X1.1 dL_law_789 rfl 3 rfl ?_
  refine pw_sk X1 (i := i) (k := 1) dL_law_790 dL_law_791 dL_law_793 dL_law_794 dL_law_795 1 5 rfl rfl (by omega) hL ?_
  refine pw_sk X1 (i := i) (k := 2) dL_law_796 dL_law_797 dL_law_799 dL_law_800 dL_law_801 1 5 rfl rfl (by omega) hL ?_
  refine pw_callV X1.1 dL_law_802 (g_put mτ hv _ _) gm_X8_put gl_RL_137 rfl hR1 (by decide) (by decide) (ci := 7) (by decide) rfl gk_189.1 gk_189.2 rfl (Nat.le_of_ble_eq_true rfl) ?_
  rintro _ υ ⟨q, rfl, hg⟩
  obtain ⟨j1, j2, j3, j4⟩ := LJ2 (by decide) hw hg
  have fin := k υ _ j3 j4 (vA_put hv _ _)
  refine pw_istore X1.1 dL_law_805 (by decide) rfl ?_
  refine pw_aload_n X1.1 dL_law_807 rfl 4 rfl ?_
  refine pw_callV X1.1 dL_law_808 (k_X8_thrown υ) gm_X8_thrown gl_RL_97 rfl hR1 (by decide) (by decide) (ci := 7) (by decide) rfl gk_189.1 gk_189.2 rfl (Nat.le_of_ble_eq_true rfl) ?_
  rintro _ υ2 ⟨q2, rfl, e1, e2⟩
  subst e2
  rw [j1] at e1
  subst e1
  refine pw_iload X1.1 dL_law_811 1 rfl ?_
  refine pw_icmp_eq (tgt := 818) X1.1 dL_law_813 (by decide) (fun _ => ?_) (fun z => absurd rfl z)
  refine pw_iload X1.1 dL_law_818 1 rfl ?_
  refine pw_if_ne (tgt := 835) X1.1 dL_law_820 (by decide) (fun _ => ?_) (fun z => ?_)
  · refine pw_goto (tgt := 1635) X1.1 dL_law_835 (by decide) ?_
    exact pw_sub [2, 3, 4, 5, 6] rfl fin
  · refine pw_aload_n X1.1 dL_law_823 rfl 5 rfl ?_
    refine pw_iconst (v := 0) X1.1 dL_law_824 (by decide) ?_
    refine pw_lald X1.1 dL_law_825 gk_206.1 gk_206.2 (vp_in_nI (n := 0) (N := 1) (by decide) (by decide)) ?_
    refine pw_iload X1.1 dL_law_826 0 rfl ?_
    refine pw_i2l (v := q.toInt64) X1.1 dL_law_828 rfl ?_
    refine pw_lcmp X1.1 dL_law_829 ?_
    refine pw_if_eq (tgt := 835) X1.1 dL_law_830 (by decide) (fun _ => ?_) (fun y => absurd (j2 z) y)
    refine pw_goto (tgt := 1635) X1.1 dL_law_835 (by decide) ?_
    exact pw_sub [2, 3, 4, 5, 6] rfl fin
theorem lc_work (X : LX x G b L sc) {i : Nat} {A : aS} (hi : i + 6 ≤ L) (hL : L ≤ 3072) (h : CI σ A) (m : MI σ A) (hv : VA A) (hroom : xk x + 1 ≤ 601024 ∧ xn x + 6 ≤ 7293034) (k : ∀ (τ : gw_S) (B : aS), CI τ B → MI τ B → VA B → PW (xup x 1 6) G 7 1635 [(0, .ref b), (1, .ref (G.1 + 0)), (2, .ref (G.1 + 189)), (3, .ref (G.1 + 206)), (4, .int (nI i))] [] τ) : PW x G 7 838 [(0, .ref b), (1, .ref (G.1 + 0)), (2, .ref (G.1 + 189)), (3, .ref (G.1 + 206)), (4, .int (nI i))] [] σ := by
  refine pw_aload_n X.1 dL_law_838 rfl 1 rfl ?_
  refine pw_sk X (i := i) (k := 1) dL_law_839 dL_law_840 dL_law_842 dL_law_843 dL_law_844 0 4 rfl rfl (by omega) hL ?_
  refine pw_aload_n X.1 dL_law_845 rfl 3 rfl ?_
  refine pw_callSH (n := 3) X dL_law_846 (w_work X.2.2.2.2.2.1 h hv _) cw_work cs_work gi_RL ⟨by decide +kernel, by decide +kernel, by decide +kernel⟩ gl_RL_138 rfl (by decide) (by decide) hroom rfl (Nat.le_of_ble_eq_true rfl) (fun r τ hw => ?_)
  have X1 : LX (xup x 1 6) G b L sc := X.up 1 6
  have hR1 : gw_ok (xup x 1 6) 11 := X1.ok hroom
  have mτ := LJ1 m hw
  refine pw_istore X1.1 dL_law_849 (by decide) rfl ?_
  refine pw_aload_n X1.1 dL_law_851 rfl 3 rfl ?_
  refine pw_sk X1 (i := i) (k := 1) dL_law_852 dL_law_853 dL_law_855 dL_law_856 dL_law_857 1 5 rfl rfl (by omega) hL ?_
  refine pw_callV X1.1 dL_law_858 (g_work mτ hv _) gm_X8_work gl_RL_140 rfl hR1 (by decide) (by decide) (ci := 7) (by decide) rfl gk_189.1 gk_189.2 rfl (Nat.le_of_ble_eq_true rfl) ?_
  rintro _ υ ⟨q, rfl, hg⟩
  obtain ⟨j1, j2, j3, j4⟩ := LJ2 (by decide) hw hg
  have fin := k υ _ j3 j4 (vA_work hv _)
  refine pw_istore X1.1 dL_law_861 (by decide) rfl ?_
  refine pw_aload_n X1.1 dL_law_863 rfl 4 rfl ?_
  refine pw_callV X1.1 dL_law_864 (k_X8_thrown υ) gm_X8_thrown gl_RL_97 rfl hR1 (by decide) (by decide) (ci := 7) (by decide) rfl gk_189.1 gk_189.2 rfl (Nat.le_of_ble_eq_true rfl) ?_
  rintro _ υ2 ⟨q2, rfl, e1, e2⟩
  subst e2
  rw [j1] at e1
  subst e1
  refine pw_iload X1.1 dL_law_867 1 rfl ?_
  refine pw_icmp_eq (tgt := 874) X1.1 dL_law_869 (by decide) (fun _ => ?_) (fun z => absurd rfl z)
  refine pw_iload X1.1 dL_law_874 1 rfl ?_
  refine pw_if_ne (tgt := 891) X1.1 dL_law_876 (by decide) (fun _ => ?_) (fun z => ?_)
  · refine pw_goto (tgt := 1635) X1.1 dL_law_891 (by decide) ?_
    exact pw_sub [2, 3, 4, 5, 6] rfl fin
  · refine pw_aload_n X1.1 dL_law_879 rfl 5 rfl ?_
    refine pw_iconst (v := 0) X1.1 dL_law_880 (by decide) ?_
    refine pw_lald X1.1 dL_law_881 gk_206.1 gk_206.2 (vp_in_nI (n := 0) (N := 1) (by decide) (by decide)) ?_
    refine pw_iload X1.1 dL_law_882 0 rfl ?_
    refine pw_i2l (v := q.toInt64) X1.1 dL_law_884 rfl ?_
    refine pw_lcmp X1.1 dL_law_885 ?_
    refine pw_if_eq (tgt := 891) X1.1 dL_law_886 (by decide) (fun _ => ?_) (fun y => absurd (j2 z) y)
    refine pw_goto (tgt := 1635) X1.1 dL_law_891 (by decide) ?_
    exact pw_sub [2, 3, 4, 5, 6] rfl fin
theorem lc_round (X : LX x G b L sc) {i : Nat} {A : aS} (hi : i + 6 ≤ L) (hL : L ≤ 3072) (h : CI σ A) (m : MI σ A) (hv : VA A) (hroom : xk x + 1 ≤ 601024 ∧ xn x + 6 ≤ 7293034) (k : ∀ (τ : gw_S) (B : aS), CI τ B → MI τ B → VA B → PW (xup x 1 6) G 7 1635 [(0, .ref b), (1, .ref (G.1 + 0)), (2, .ref (G.1 + 189)), (3, .ref (G.1 + 206)), (4, .int (nI i))] [] τ) : PW x G 7 894 [(0, .ref b), (1, .ref (G.1 + 0)), (2, .ref (G.1 + 189)), (3, .ref (G.1 + 206)), (4, .int (nI i))] [] σ := by
  refine pw_aload_n X.1 dL_law_894 rfl 1 rfl ?_
  refine pw_sk X (i := i) (k := 1) dL_law_895 dL_law_896 dL_law_898 dL_law_899 dL_law_900 0 4 rfl rfl (by omega) hL ?_
  refine pw_aload_n X.1 dL_law_901 rfl 3 rfl ?_
  refine pw_callSH (n := 3) X dL_law_902 (w_round X.2.2.2.2.2.1 h hv _) cw_round cs_round gi_RL ⟨by decide +kernel, by decide +kernel, by decide +kernel⟩ gl_RL_141 rfl (by decide) (by decide) hroom rfl (Nat.le_of_ble_eq_true rfl) (fun r τ hw => ?_)
  have X1 : LX (xup x 1 6) G b L sc := X.up 1 6
  have hR1 : gw_ok (xup x 1 6) 11 := X1.ok hroom
  have mτ := LJ1 m hw
  refine pw_istore X1.1 dL_law_905 (by decide) rfl ?_
  refine pw_aload_n X1.1 dL_law_907 rfl 3 rfl ?_
  refine pw_sk X1 (i := i) (k := 1) dL_law_908 dL_law_909 dL_law_911 dL_law_912 dL_law_913 1 5 rfl rfl (by omega) hL ?_
  refine pw_callV X1.1 dL_law_914 (g_round mτ hv _) gm_X8_round gl_RL_143 rfl hR1 (by decide) (by decide) (ci := 7) (by decide) rfl gk_189.1 gk_189.2 rfl (Nat.le_of_ble_eq_true rfl) ?_
  rintro _ υ ⟨q, rfl, hg⟩
  obtain ⟨j1, j2, j3, j4⟩ := LJ2 (by decide) hw hg
  have fin := k υ _ j3 j4 (vA_round hv _)
  refine pw_istore X1.1 dL_law_917 (by decide) rfl ?_
  refine pw_aload_n X1.1 dL_law_919 rfl 4 rfl ?_
  refine pw_callV X1.1 dL_law_920 (k_X8_thrown υ) gm_X8_thrown gl_RL_97 rfl hR1 (by decide) (by decide) (ci := 7) (by decide) rfl gk_189.1 gk_189.2 rfl (Nat.le_of_ble_eq_true rfl) ?_
  rintro _ υ2 ⟨q2, rfl, e1, e2⟩
  subst e2
  rw [j1] at e1
  subst e1
  refine pw_iload X1.1 dL_law_923 1 rfl ?_
  refine pw_icmp_eq (tgt := 930) X1.1 dL_law_925 (by decide) (fun _ => ?_) (fun z => absurd rfl z)
  refine pw_iload X1.1 dL_law_930 1 rfl ?_
  refine pw_if_ne (tgt := 947) X1.1 dL_law_932 (by decide) (fun _ => ?_) (fun z => ?_)
  · refine pw_goto (tgt := 1635) X1.1 dL_law_947 (by decide) ?_
    exact pw_sub [2, 3, 4, 5, 6] rfl fin
  · refine pw_aload_n X1.1 dL_law_935 rfl 5 rfl ?_
    refine pw_iconst (v := 0) X1.1 dL_law_936 (by decide) ?_
    refine pw_lald X1.1 dL_law_937 gk_206.1 gk_206.2 (vp_in_nI (n := 0) (N := 1) (by decide) (by decide)) ?_
    refine pw_iload X1.1 dL_law_938 0 rfl ?_
    refine pw_i2l (v := q.toInt64) X1.1 dL_law_940 rfl ?_
    refine pw_lcmp X1.1 dL_law_941 ?_
    refine pw_if_eq (tgt := 947) X1.1 dL_law_942 (by decide) (fun _ => ?_) (fun y => absurd (j2 z) y)
    refine pw_goto (tgt := 1635) X1.1 dL_law_947 (by decide) ?_
    exact pw_sub [2, 3, 4, 5, 6] rfl fin
theorem lc_undo (X : LX x G b L sc) {i : Nat} {A : aS} (hi : i + 6 ≤ L) (hL : L ≤ 3072) (h : CI σ A) (m : MI σ A) (hv : VA A) (hroom : xk x + 1 ≤ 601024 ∧ xn x + 6 ≤ 7293034) (k : ∀ (τ : gw_S) (B : aS), CI τ B → MI τ B → VA B → PW (xup x 1 6) G 7 1635 [(0, .ref b), (1, .ref (G.1 + 0)), (2, .ref (G.1 + 189)), (3, .ref (G.1 + 206)), (4, .int (nI i))] [] τ) : PW x G 7 950 [(0, .ref b), (1, .ref (G.1 + 0)), (2, .ref (G.1 + 189)), (3, .ref (G.1 + 206)), (4, .int (nI i))] [] σ := by
  refine pw_aload_n X.1 dL_law_950 rfl 1 rfl ?_
  refine pw_aload_n X.1 dL_law_951 rfl 3 rfl ?_
  refine pw_callSH (n := 2) X dL_law_952 (w_undo X.2.2.2.2.2.1 h hv) cw_undo cs_undo gi_RL ⟨by decide +kernel, by decide +kernel, by decide +kernel⟩ gl_RL_144 rfl (by decide) (by decide) hroom rfl (Nat.le_of_ble_eq_true rfl) (fun r τ hw => ?_)
  have X1 : LX (xup x 1 6) G b L sc := X.up 1 6
  have hR1 : gw_ok (xup x 1 6) 11 := X1.ok hroom
  have mτ := LJ1 m hw
  refine pw_istore X1.1 dL_law_955 (by decide) rfl ?_
  refine pw_aload_n X1.1 dL_law_957 rfl 3 rfl ?_
  refine pw_callV X1.1 dL_law_958 (g_undo mτ hv) gm_X8_undo gl_RL_146 rfl hR1 (by decide) (by decide) (ci := 7) (by decide) rfl gk_189.1 gk_189.2 rfl (Nat.le_of_ble_eq_true rfl) ?_
  rintro _ υ ⟨q, rfl, hg⟩
  obtain ⟨j1, j2, j3, j4⟩ := LJ2 (by decide) hw hg
  have fin := k υ _ j3 j4 (vA_undo hv)
  refine pw_istore X1.1 dL_law_961 (by decide) rfl ?_
  refine pw_aload_n X1.1 dL_law_963 rfl 4 rfl ?_
  refine pw_callV X1.1 dL_law_964 (k_X8_thrown υ) gm_X8_thrown gl_RL_97 rfl hR1 (by decide) (by decide) (ci := 7) (by decide) rfl gk_189.1 gk_189.2 rfl (Nat.le_of_ble_eq_true rfl) ?_
  rintro _ υ2 ⟨q2, rfl, e1, e2⟩
  subst e2
  rw [j1] at e1
  subst e1
  refine pw_iload X1.1 dL_law_967 1 rfl ?_
  refine pw_icmp_eq (tgt := 974) X1.1 dL_law_969 (by decide) (fun _ => ?_) (fun z => absurd rfl z)
  refine pw_iload X1.1 dL_law_974 1 rfl ?_
  refine pw_if_ne (tgt := 991) X1.1 dL_law_976 (by decide) (fun _ => ?_) (fun z => ?_)
  · refine pw_goto (tgt := 1635) X1.1 dL_law_991 (by decide) ?_
    exact pw_sub [2, 3, 4, 5, 6] rfl fin
  · refine pw_aload_n X1.1 dL_law_979 rfl 5 rfl ?_
    refine pw_iconst (v := 0) X1.1 dL_law_980 (by decide) ?_
    refine pw_lald X1.1 dL_law_981 gk_206.1 gk_206.2 (vp_in_nI (n := 0) (N := 1) (by decide) (by decide)) ?_
    refine pw_iload X1.1 dL_law_982 0 rfl ?_
    refine pw_i2l (v := q.toInt64) X1.1 dL_law_984 rfl ?_
    refine pw_lcmp X1.1 dL_law_985 ?_
    refine pw_if_eq (tgt := 991) X1.1 dL_law_986 (by decide) (fun _ => ?_) (fun y => absurd (j2 z) y)
    refine pw_goto (tgt := 1635) X1.1 dL_law_991 (by decide) ?_
    exact pw_sub [2, 3, 4, 5, 6] rfl fin
theorem lc_order (X : LX x G b L sc) {i : Nat} {A : aS} (hi : i + 6 ≤ L) (hL : L ≤ 3072) (h : CI σ A) (m : MI σ A) (hv : VA A) (hroom : xk x + 1 ≤ 601024 ∧ xn x + 6 ≤ 7293034) (k : ∀ (τ : gw_S) (B : aS), CI τ B → MI τ B → VA B → PW (xup x 1 6) G 7 1635 [(0, .ref b), (1, .ref (G.1 + 0)), (2, .ref (G.1 + 189)), (3, .ref (G.1 + 206)), (4, .int (nI i))] [] τ) : PW x G 7 994 [(0, .ref b), (1, .ref (G.1 + 0)), (2, .ref (G.1 + 189)), (3, .ref (G.1 + 206)), (4, .int (nI i))] [] σ := by
  refine pw_aload_n X.1 dL_law_994 rfl 1 rfl ?_
  refine pw_sk X (i := i) (k := 1) dL_law_995 dL_law_996 dL_law_998 dL_law_999 dL_law_1000 0 4 rfl rfl (by omega) hL ?_
  refine pw_sk X (i := i) (k := 2) dL_law_1001 dL_law_1002 dL_law_1004 dL_law_1005 dL_law_1006 0 4 rfl rfl (by omega) hL ?_
  refine pw_aload_n X.1 dL_law_1007 rfl 3 rfl ?_
  refine pw_callSH (n := 4) X dL_law_1008 (w_order X.2.2.2.2.2.1 h hv _ _) cw_order cs_order gi_RL ⟨by decide +kernel, by decide +kernel, by decide +kernel⟩ gl_RL_147 rfl (by decide) (by decide) hroom rfl (Nat.le_of_ble_eq_true rfl) (fun r τ hw => ?_)
  have X1 : LX (xup x 1 6) G b L sc := X.up 1 6
  have hR1 : gw_ok (xup x 1 6) 11 := X1.ok hroom
  have mτ := LJ1 m hw
  refine pw_istore X1.1 dL_law_1011 (by decide) rfl ?_
  refine pw_aload_n X1.1 dL_law_1013 rfl 3 rfl ?_
  refine pw_sk X1 (i := i) (k := 1) dL_law_1014 dL_law_1015 dL_law_1017 dL_law_1018 dL_law_1019 1 5 rfl rfl (by omega) hL ?_
  refine pw_sk X1 (i := i) (k := 2) dL_law_1020 dL_law_1021 dL_law_1023 dL_law_1024 dL_law_1025 1 5 rfl rfl (by omega) hL ?_
  refine pw_callV X1.1 dL_law_1026 (g_order mτ hv _ _) gm_X8_order gl_RL_149 rfl hR1 (by decide) (by decide) (ci := 7) (by decide) rfl gk_189.1 gk_189.2 rfl (Nat.le_of_ble_eq_true rfl) ?_
  rintro _ υ ⟨q, rfl, hg⟩
  obtain ⟨j1, j2, j3, j4⟩ := LJ2 (by decide) hw hg
  have fin := k υ _ j3 j4 (by rw [vQ_order]; exact hv)
  refine pw_istore X1.1 dL_law_1029 (by decide) rfl ?_
  refine pw_aload_n X1.1 dL_law_1031 rfl 4 rfl ?_
  refine pw_callV X1.1 dL_law_1032 (k_X8_thrown υ) gm_X8_thrown gl_RL_97 rfl hR1 (by decide) (by decide) (ci := 7) (by decide) rfl gk_189.1 gk_189.2 rfl (Nat.le_of_ble_eq_true rfl) ?_
  rintro _ υ2 ⟨q2, rfl, e1, e2⟩
  subst e2
  rw [j1] at e1
  subst e1
  refine pw_iload X1.1 dL_law_1035 1 rfl ?_
  refine pw_icmp_eq (tgt := 1042) X1.1 dL_law_1037 (by decide) (fun _ => ?_) (fun z => absurd rfl z)
  refine pw_iload X1.1 dL_law_1042 1 rfl ?_
  refine pw_if_ne (tgt := 1059) X1.1 dL_law_1044 (by decide) (fun _ => ?_) (fun z => ?_)
  · refine pw_goto (tgt := 1635) X1.1 dL_law_1059 (by decide) ?_
    exact pw_sub [2, 3, 4, 5, 6] rfl fin
  · refine pw_aload_n X1.1 dL_law_1047 rfl 5 rfl ?_
    refine pw_iconst (v := 0) X1.1 dL_law_1048 (by decide) ?_
    refine pw_lald X1.1 dL_law_1049 gk_206.1 gk_206.2 (vp_in_nI (n := 0) (N := 1) (by decide) (by decide)) ?_
    refine pw_iload X1.1 dL_law_1050 0 rfl ?_
    refine pw_i2l (v := q.toInt64) X1.1 dL_law_1052 rfl ?_
    refine pw_lcmp X1.1 dL_law_1053 ?_
    refine pw_if_eq (tgt := 1059) X1.1 dL_law_1054 (by decide) (fun _ => ?_) (fun y => absurd (j2 z) y)
    refine pw_goto (tgt := 1635) X1.1 dL_law_1059 (by decide) ?_
    exact pw_sub [2, 3, 4, 5, 6] rfl fin
theorem lc_sticks (X : LX x G b L sc) {i : Nat} {A : aS} (hi : i + 6 ≤ L) (hL : L ≤ 3072) (h : CI σ A) (m : MI σ A) (hv : VA A) (hroom : xk x + 1 ≤ 601024 ∧ xn x + 6 ≤ 7293034) (k : ∀ (τ : gw_S) (B : aS), CI τ B → MI τ B → VA B → PW (xup x 1 6) G 7 1635 [(0, .ref b), (1, .ref (G.1 + 0)), (2, .ref (G.1 + 189)), (3, .ref (G.1 + 206)), (4, .int (nI i))] [] τ) : PW x G 7 1062 [(0, .ref b), (1, .ref (G.1 + 0)), (2, .ref (G.1 + 189)), (3, .ref (G.1 + 206)), (4, .int (nI i))] [] σ := by
  refine pw_aload_n X.1 dL_law_1062 rfl 1 rfl ?_
  refine pw_sk X (i := i) (k := 1) dL_law_1063 dL_law_1064 dL_law_1066 dL_law_1067 dL_law_1068 0 4 rfl rfl (by omega) hL ?_
  refine pw_aload_n X.1 dL_law_1069 rfl 3 rfl ?_
  refine pw_callSH (n := 3) X dL_law_1070 (w_sticks X.2.2.2.2.2.1 h hv _) cw_sticks cs_sticks gi_RL ⟨by decide +kernel, by decide +kernel, by decide +kernel⟩ gl_RL_150 rfl (by decide) (by decide) hroom rfl (Nat.le_of_ble_eq_true rfl) (fun r τ hw => ?_)
  have X1 : LX (xup x 1 6) G b L sc := X.up 1 6
  have hR1 : gw_ok (xup x 1 6) 11 := X1.ok hroom
  have mτ := LJ1 m hw
  refine pw_istore X1.1 dL_law_1073 (by decide) rfl ?_
  refine pw_aload_n X1.1 dL_law_1075 rfl 3 rfl ?_
  refine pw_sk X1 (i := i) (k := 1) dL_law_1076 dL_law_1077 dL_law_1079 dL_law_1080 dL_law_1081 1 5 rfl rfl (by omega) hL ?_
  refine pw_callV X1.1 dL_law_1082 (g_sticks mτ hv _) gm_X8_sticks gl_RL_152 rfl hR1 (by decide) (by decide) (ci := 7) (by decide) rfl gk_189.1 gk_189.2 rfl (Nat.le_of_ble_eq_true rfl) ?_
  rintro _ υ ⟨q, rfl, hg⟩
  obtain ⟨j1, j2, j3, j4⟩ := LJ2 (by decide) hw hg
  have fin := k υ _ j3 j4 (by rw [vQ_sticks]; exact hv)
  refine pw_istore X1.1 dL_law_1085 (by decide) rfl ?_
  refine pw_aload_n X1.1 dL_law_1087 rfl 4 rfl ?_
  refine pw_callV X1.1 dL_law_1088 (k_X8_thrown υ) gm_X8_thrown gl_RL_97 rfl hR1 (by decide) (by decide) (ci := 7) (by decide) rfl gk_189.1 gk_189.2 rfl (Nat.le_of_ble_eq_true rfl) ?_
  rintro _ υ2 ⟨q2, rfl, e1, e2⟩
  subst e2
  rw [j1] at e1
  subst e1
  refine pw_iload X1.1 dL_law_1091 1 rfl ?_
  refine pw_icmp_eq (tgt := 1098) X1.1 dL_law_1093 (by decide) (fun _ => ?_) (fun z => absurd rfl z)
  refine pw_iload X1.1 dL_law_1098 1 rfl ?_
  refine pw_if_ne (tgt := 1115) X1.1 dL_law_1100 (by decide) (fun _ => ?_) (fun z => ?_)
  · refine pw_goto (tgt := 1635) X1.1 dL_law_1115 (by decide) ?_
    exact pw_sub [2, 3, 4, 5, 6] rfl fin
  · refine pw_aload_n X1.1 dL_law_1103 rfl 5 rfl ?_
    refine pw_iconst (v := 0) X1.1 dL_law_1104 (by decide) ?_
    refine pw_lald X1.1 dL_law_1105 gk_206.1 gk_206.2 (vp_in_nI (n := 0) (N := 1) (by decide) (by decide)) ?_
    refine pw_iload X1.1 dL_law_1106 0 rfl ?_
    refine pw_i2l (v := q.toInt64) X1.1 dL_law_1108 rfl ?_
    refine pw_lcmp X1.1 dL_law_1109 ?_
    refine pw_if_eq (tgt := 1115) X1.1 dL_law_1110 (by decide) (fun _ => ?_) (fun y => absurd (j2 z) y)
    refine pw_goto (tgt := 1635) X1.1 dL_law_1115 (by decide) ?_
    exact pw_sub [2, 3, 4, 5, 6] rfl fin
theorem lc_holds (X : LX x G b L sc) {i : Nat} {A : aS} (hi : i + 6 ≤ L) (hL : L ≤ 3072) (h : CI σ A) (m : MI σ A) (hv : VA A) (hroom : xk x + 1 ≤ 601024 ∧ xn x + 6 ≤ 7293034) (k : ∀ (τ : gw_S) (B : aS), CI τ B → MI τ B → VA B → PW (xup x 1 6) G 7 1635 [(0, .ref b), (1, .ref (G.1 + 0)), (2, .ref (G.1 + 189)), (3, .ref (G.1 + 206)), (4, .int (nI i))] [] τ) : PW x G 7 1118 [(0, .ref b), (1, .ref (G.1 + 0)), (2, .ref (G.1 + 189)), (3, .ref (G.1 + 206)), (4, .int (nI i))] [] σ := by
  refine pw_aload_n X.1 dL_law_1118 rfl 1 rfl ?_
  refine pw_sk X (i := i) (k := 1) dL_law_1119 dL_law_1120 dL_law_1122 dL_law_1123 dL_law_1124 0 4 rfl rfl (by omega) hL ?_
  refine pw_sk X (i := i) (k := 2) dL_law_1125 dL_law_1126 dL_law_1128 dL_law_1129 dL_law_1130 0 4 rfl rfl (by omega) hL ?_
  refine pw_aload_n X.1 dL_law_1131 rfl 3 rfl ?_
  refine pw_callSH (n := 4) X dL_law_1132 (w_holds X.2.2.2.2.2.1 h hv _ _) cw_holds cs_holds gi_RL ⟨by decide +kernel, by decide +kernel, by decide +kernel⟩ gl_RL_153 rfl (by decide) (by decide) hroom rfl (Nat.le_of_ble_eq_true rfl) (fun r τ hw => ?_)
  have X1 : LX (xup x 1 6) G b L sc := X.up 1 6
  have hR1 : gw_ok (xup x 1 6) 11 := X1.ok hroom
  have mτ := LJ1 m hw
  refine pw_istore X1.1 dL_law_1135 (by decide) rfl ?_
  refine pw_aload_n X1.1 dL_law_1137 rfl 3 rfl ?_
  refine pw_sk X1 (i := i) (k := 1) dL_law_1138 dL_law_1139 dL_law_1141 dL_law_1142 dL_law_1143 1 5 rfl rfl (by omega) hL ?_
  refine pw_sk X1 (i := i) (k := 2) dL_law_1144 dL_law_1145 dL_law_1147 dL_law_1148 dL_law_1149 1 5 rfl rfl (by omega) hL ?_
  refine pw_callV X1.1 dL_law_1150 (g_holds mτ hv _ _) gm_X8_holds gl_RL_155 rfl hR1 (by decide) (by decide) (ci := 7) (by decide) rfl gk_189.1 gk_189.2 rfl (Nat.le_of_ble_eq_true rfl) ?_
  rintro _ υ ⟨q, rfl, hg⟩
  obtain ⟨j1, j2, j3, j4⟩ := LJ2 (by decide) hw hg
  have fin := k υ _ j3 j4 (by rw [vQ_holds]; exact hv)
  refine pw_istore X1.1 dL_law_1153 (by decide) rfl ?_
  refine pw_aload_n X1.1 dL_law_1155 rfl 4 rfl ?_
  refine pw_callV X1.1 dL_law_1156 (k_X8_thrown υ) gm_X8_thrown gl_RL_97 rfl hR1 (by decide) (by decide) (ci := 7) (by decide) rfl gk_189.1 gk_189.2 rfl (Nat.le_of_ble_eq_true rfl) ?_
  rintro _ υ2 ⟨q2, rfl, e1, e2⟩
  subst e2
  rw [j1] at e1
  subst e1
  refine pw_iload X1.1 dL_law_1159 1 rfl ?_
  refine pw_icmp_eq (tgt := 1166) X1.1 dL_law_1161 (by decide) (fun _ => ?_) (fun z => absurd rfl z)
  refine pw_iload X1.1 dL_law_1166 1 rfl ?_
  refine pw_if_ne (tgt := 1183) X1.1 dL_law_1168 (by decide) (fun _ => ?_) (fun z => ?_)
  · refine pw_goto (tgt := 1635) X1.1 dL_law_1183 (by decide) ?_
    exact pw_sub [2, 3, 4, 5, 6] rfl fin
  · refine pw_aload_n X1.1 dL_law_1171 rfl 5 rfl ?_
    refine pw_iconst (v := 0) X1.1 dL_law_1172 (by decide) ?_
    refine pw_lald X1.1 dL_law_1173 gk_206.1 gk_206.2 (vp_in_nI (n := 0) (N := 1) (by decide) (by decide)) ?_
    refine pw_iload X1.1 dL_law_1174 0 rfl ?_
    refine pw_i2l (v := q.toInt64) X1.1 dL_law_1176 rfl ?_
    refine pw_lcmp X1.1 dL_law_1177 ?_
    refine pw_if_eq (tgt := 1183) X1.1 dL_law_1178 (by decide) (fun _ => ?_) (fun y => absurd (j2 z) y)
    refine pw_goto (tgt := 1635) X1.1 dL_law_1183 (by decide) ?_
    exact pw_sub [2, 3, 4, 5, 6] rfl fin
theorem lc_bestRule (X : LX x G b L sc) {i : Nat} {A : aS} (h : CI σ A) (m : MI σ A) (hv : VA A) (hroom : xk x ≤ 601024 ∧ xn x ≤ 7293034) (k : ∀ (τ : gw_S) (B : aS), CI τ B → MI τ B → VA B → PW x G 7 1635 [(0, .ref b), (1, .ref (G.1 + 0)), (2, .ref (G.1 + 189)), (3, .ref (G.1 + 206)), (4, .int (nI i))] [] τ) : PW x G 7 1186 [(0, .ref b), (1, .ref (G.1 + 0)), (2, .ref (G.1 + 189)), (3, .ref (G.1 + 206)), (4, .int (nI i))] [] σ := by
  have hR1 : gw_ok x 11 := X.ok hroom
  refine pw_aload_n X.1 dL_law_1186 rfl 1 rfl ?_
  refine pw_callV X.1 dL_law_1187 (f_bestRule h hv) gm_X7_bestRule gl_RL_156 rfl hR1 (by decide) (by decide) (ci := 6) (by decide) rfl gk_0.1 gk_0.2 rfl (Nat.le_of_ble_eq_true rfl) ?_
  rintro _ τ ⟨r, rfl, h1, h2, h3, h4⟩
  have mτ := m.kc h4
  refine pw_aload_n X.1 dL_law_1190 rfl 2 rfl ?_
  refine pw_callV X.1 dL_law_1191 (g_bestRule mτ hv) gm_X8_bestRule gl_RL_159 rfl hR1 (by decide) (by decide) (ci := 7) (by decide) rfl gk_189.1 gk_189.2 rfl (Nat.le_of_ble_eq_true rfl) ?_
  rintro _ υ ⟨q, rfl, g1, g2, g3, g4⟩
  refine pw_icmp_eq (tgt := 1635) X.1 dL_law_1194 (by decide) (fun _ => k υ _ (h3.km g4) g3 (hv)) (fun z => absurd (h2.trans (g2 h1).symm) z)
theorem lc_fewest (X : LX x G b L sc) {i : Nat} {A : aS} (hi : i + 6 ≤ L) (hL : L ≤ 3072) (h : CI σ A) (m : MI σ A) (hv : VA A) (hroom : xk x + 1 ≤ 601024 ∧ xn x + 6 ≤ 7293034) (k : ∀ (τ : gw_S) (B : aS), CI τ B → MI τ B → VA B → PW (xup x 1 6) G 7 1635 [(0, .ref b), (1, .ref (G.1 + 0)), (2, .ref (G.1 + 189)), (3, .ref (G.1 + 206)), (4, .int (nI i))] [] τ) : PW x G 7 1199 [(0, .ref b), (1, .ref (G.1 + 0)), (2, .ref (G.1 + 189)), (3, .ref (G.1 + 206)), (4, .int (nI i))] [] σ := by
  refine pw_aload_n X.1 dL_law_1199 rfl 1 rfl ?_
  refine pw_sk X (i := i) (k := 1) dL_law_1200 dL_law_1201 dL_law_1203 dL_law_1204 dL_law_1205 0 4 rfl rfl (by omega) hL ?_
  refine pw_aload_n X.1 dL_law_1206 rfl 3 rfl ?_
  refine pw_callSH (n := 3) X dL_law_1207 (w_fewest X.2.2.2.2.2.1 h hv _) cw_fewest cs_fewest gi_RL ⟨by decide +kernel, by decide +kernel, by decide +kernel⟩ gl_RL_160 rfl (by decide) (by decide) hroom rfl (Nat.le_of_ble_eq_true rfl) (fun r τ hw => ?_)
  have X1 : LX (xup x 1 6) G b L sc := X.up 1 6
  have hR1 : gw_ok (xup x 1 6) 11 := X1.ok hroom
  have mτ := LJ1 m hw
  refine pw_istore X1.1 dL_law_1210 (by decide) rfl ?_
  refine pw_aload_n X1.1 dL_law_1212 rfl 3 rfl ?_
  refine pw_sk X1 (i := i) (k := 1) dL_law_1213 dL_law_1214 dL_law_1216 dL_law_1217 dL_law_1218 1 5 rfl rfl (by omega) hL ?_
  refine pw_callV X1.1 dL_law_1219 (g_fewest mτ hv _) gm_X8_fewest gl_RL_162 rfl hR1 (by decide) (by decide) (ci := 7) (by decide) rfl gk_189.1 gk_189.2 rfl (Nat.le_of_ble_eq_true rfl) ?_
  rintro _ υ ⟨q, rfl, hg⟩
  obtain ⟨j1, j2, j3, j4⟩ := LJ2 (by decide) hw hg
  have fin := k υ _ j3 j4 (by rw [vQ_fewest]; exact hv)
  refine pw_istore X1.1 dL_law_1222 (by decide) rfl ?_
  refine pw_aload_n X1.1 dL_law_1224 rfl 4 rfl ?_
  refine pw_callV X1.1 dL_law_1225 (k_X8_thrown υ) gm_X8_thrown gl_RL_97 rfl hR1 (by decide) (by decide) (ci := 7) (by decide) rfl gk_189.1 gk_189.2 rfl (Nat.le_of_ble_eq_true rfl) ?_
  rintro _ υ2 ⟨q2, rfl, e1, e2⟩
  subst e2
  rw [j1] at e1
  subst e1
  refine pw_iload X1.1 dL_law_1228 1 rfl ?_
  refine pw_icmp_eq (tgt := 1235) X1.1 dL_law_1230 (by decide) (fun _ => ?_) (fun z => absurd rfl z)
  refine pw_iload X1.1 dL_law_1235 1 rfl ?_
  refine pw_if_ne (tgt := 1252) X1.1 dL_law_1237 (by decide) (fun _ => ?_) (fun z => ?_)
  · refine pw_goto (tgt := 1635) X1.1 dL_law_1252 (by decide) ?_
    exact pw_sub [2, 3, 4, 5, 6] rfl fin
  · refine pw_aload_n X1.1 dL_law_1240 rfl 5 rfl ?_
    refine pw_iconst (v := 0) X1.1 dL_law_1241 (by decide) ?_
    refine pw_lald X1.1 dL_law_1242 gk_206.1 gk_206.2 (vp_in_nI (n := 0) (N := 1) (by decide) (by decide)) ?_
    refine pw_iload X1.1 dL_law_1243 0 rfl ?_
    refine pw_i2l (v := q.toInt64) X1.1 dL_law_1245 rfl ?_
    refine pw_lcmp X1.1 dL_law_1246 ?_
    refine pw_if_eq (tgt := 1252) X1.1 dL_law_1247 (by decide) (fun _ => ?_) (fun y => absurd (j2 z) y)
    refine pw_goto (tgt := 1635) X1.1 dL_law_1252 (by decide) ?_
    exact pw_sub [2, 3, 4, 5, 6] rfl fin
theorem lc_agrees (X : LX x G b L sc) {i : Nat} {A : aS} (hi : i + 6 ≤ L) (hL : L ≤ 3072) (h : CI σ A) (m : MI σ A) (hv : VA A) (hroom : xk x + 1 ≤ 601024 ∧ xn x + 6 ≤ 7293034) (k : ∀ (τ : gw_S) (B : aS), CI τ B → MI τ B → VA B → PW (xup x 1 6) G 7 1635 [(0, .ref b), (1, .ref (G.1 + 0)), (2, .ref (G.1 + 189)), (3, .ref (G.1 + 206)), (4, .int (nI i))] [] τ) : PW x G 7 1255 [(0, .ref b), (1, .ref (G.1 + 0)), (2, .ref (G.1 + 189)), (3, .ref (G.1 + 206)), (4, .int (nI i))] [] σ := by
  refine pw_aload_n X.1 dL_law_1255 rfl 1 rfl ?_
  refine pw_sk X (i := i) (k := 1) dL_law_1256 dL_law_1257 dL_law_1259 dL_law_1260 dL_law_1261 0 4 rfl rfl (by omega) hL ?_
  refine pw_sk X (i := i) (k := 2) dL_law_1262 dL_law_1263 dL_law_1265 dL_law_1266 dL_law_1267 0 4 rfl rfl (by omega) hL ?_
  refine pw_aload_n X.1 dL_law_1268 rfl 3 rfl ?_
  refine pw_callSH (n := 4) X dL_law_1269 (w_agrees X.2.2.2.2.2.1 h hv _ _) cw_agrees cs_agrees gi_RL ⟨by decide +kernel, by decide +kernel, by decide +kernel⟩ gl_RL_163 rfl (by decide) (by decide) hroom rfl (Nat.le_of_ble_eq_true rfl) (fun r τ hw => ?_)
  have X1 : LX (xup x 1 6) G b L sc := X.up 1 6
  have hR1 : gw_ok (xup x 1 6) 11 := X1.ok hroom
  have mτ := LJ1 m hw
  refine pw_istore X1.1 dL_law_1272 (by decide) rfl ?_
  refine pw_aload_n X1.1 dL_law_1274 rfl 3 rfl ?_
  refine pw_sk X1 (i := i) (k := 1) dL_law_1275 dL_law_1276 dL_law_1278 dL_law_1279 dL_law_1280 1 5 rfl rfl (by omega) hL ?_
  refine pw_sk X1 (i := i) (k := 2) dL_law_1281 dL_law_1282 dL_law_1284 dL_law_1285 dL_law_1286 1 5 rfl rfl (by omega) hL ?_
  refine pw_callV X1.1 dL_law_1287 (g_agrees mτ hv _ _) gm_X8_agrees gl_RL_165 rfl hR1 (by decide) (by decide) (ci := 7) (by decide) rfl gk_189.1 gk_189.2 rfl (Nat.le_of_ble_eq_true rfl) ?_
  rintro _ υ ⟨q, rfl, hg⟩
  obtain ⟨j1, j2, j3, j4⟩ := LJ2 (by decide) hw hg
  have fin := k υ _ j3 j4 (by rw [vQ_agrees]; exact hv)
  refine pw_istore X1.1 dL_law_1290 (by decide) rfl ?_
  refine pw_aload_n X1.1 dL_law_1292 rfl 4 rfl ?_
  refine pw_callV X1.1 dL_law_1293 (k_X8_thrown υ) gm_X8_thrown gl_RL_97 rfl hR1 (by decide) (by decide) (ci := 7) (by decide) rfl gk_189.1 gk_189.2 rfl (Nat.le_of_ble_eq_true rfl) ?_
  rintro _ υ2 ⟨q2, rfl, e1, e2⟩
  subst e2
  rw [j1] at e1
  subst e1
  refine pw_iload X1.1 dL_law_1296 1 rfl ?_
  refine pw_icmp_eq (tgt := 1303) X1.1 dL_law_1298 (by decide) (fun _ => ?_) (fun z => absurd rfl z)
  refine pw_iload X1.1 dL_law_1303 1 rfl ?_
  refine pw_if_ne (tgt := 1320) X1.1 dL_law_1305 (by decide) (fun _ => ?_) (fun z => ?_)
  · refine pw_goto (tgt := 1635) X1.1 dL_law_1320 (by decide) ?_
    exact pw_sub [2, 3, 4, 5, 6] rfl fin
  · refine pw_aload_n X1.1 dL_law_1308 rfl 5 rfl ?_
    refine pw_iconst (v := 0) X1.1 dL_law_1309 (by decide) ?_
    refine pw_lald X1.1 dL_law_1310 gk_206.1 gk_206.2 (vp_in_nI (n := 0) (N := 1) (by decide) (by decide)) ?_
    refine pw_iload X1.1 dL_law_1311 0 rfl ?_
    refine pw_i2l (v := q.toInt64) X1.1 dL_law_1313 rfl ?_
    refine pw_lcmp X1.1 dL_law_1314 ?_
    refine pw_if_eq (tgt := 1320) X1.1 dL_law_1315 (by decide) (fun _ => ?_) (fun y => absurd (j2 z) y)
    refine pw_goto (tgt := 1635) X1.1 dL_law_1320 (by decide) ?_
    exact pw_sub [2, 3, 4, 5, 6] rfl fin
theorem lc_runScript (X : LX x G b L sc) {i : Nat} {A : aS} (hi : i + 6 ≤ L) (hL : L ≤ 3072) (h : CI σ A) (m : MI σ A) (hv : VA A) (hroom : xk x + 1 ≤ 601024 ∧ xn x + 6 ≤ 7293034) (k : ∀ (τ : gw_S) (B : aS), CI τ B → MI τ B → VA B → PW (xup x 1 6) G 7 1635 [(0, .ref b), (1, .ref (G.1 + 0)), (2, .ref (G.1 + 189)), (3, .ref (G.1 + 206)), (4, .int (nI i))] [] τ) : PW x G 7 1323 [(0, .ref b), (1, .ref (G.1 + 0)), (2, .ref (G.1 + 189)), (3, .ref (G.1 + 206)), (4, .int (nI i))] [] σ := by
  refine pw_aload_n X.1 dL_law_1323 rfl 1 rfl ?_
  refine pw_sk X (i := i) (k := 1) dL_law_1324 dL_law_1325 dL_law_1327 dL_law_1328 dL_law_1329 0 4 rfl rfl (by omega) hL ?_
  refine pw_sk X (i := i) (k := 2) dL_law_1330 dL_law_1331 dL_law_1333 dL_law_1334 dL_law_1335 0 4 rfl rfl (by omega) hL ?_
  refine pw_i2l (v := (_ : Int32).toInt64) X.1 dL_law_1336 rfl ?_
  refine pw_bipush (v := 32) X.1 dL_law_1337 (by decide) ?_
  refine pw_lshl X.1 dL_law_1339 rfl ?_
  refine pw_sk X (i := i) (k := 3) dL_law_1340 dL_law_1341 dL_law_1343 dL_law_1344 dL_law_1345 0 4 rfl rfl (by omega) hL ?_
  refine pw_i2l (v := (_ : Int32).toInt64) X.1 dL_law_1346 rfl ?_
  refine pw_ldc2 X.1 dL_law_1347 gl_RL_166 ?_
  refine pw_land X.1 dL_law_1350 ?_
  refine pw_lor X.1 dL_law_1351 ?_
  refine pw_aload_n X.1 dL_law_1352 rfl 3 rfl ?_
  refine pw_callSH (n := 4) X dL_law_1353 (w_runScript X.2.2.2.2.2.1 h hv _ _) cw_runScript cs_runScript gi_RL ⟨by decide +kernel, by decide +kernel, by decide +kernel⟩ gl_RL_168 rfl (by decide) (by decide) hroom rfl (Nat.le_of_ble_eq_true rfl) (fun r τ hw => ?_)
  have X1 : LX (xup x 1 6) G b L sc := X.up 1 6
  have hR1 : gw_ok (xup x 1 6) 11 := X1.ok hroom
  have mτ := LJ1 m hw
  refine pw_istore X1.1 dL_law_1356 (by decide) rfl ?_
  refine pw_aload_n X1.1 dL_law_1358 rfl 3 rfl ?_
  refine pw_sk X1 (i := i) (k := 1) dL_law_1359 dL_law_1360 dL_law_1362 dL_law_1363 dL_law_1364 1 5 rfl rfl (by omega) hL ?_
  refine pw_sk X1 (i := i) (k := 2) dL_law_1365 dL_law_1366 dL_law_1368 dL_law_1369 dL_law_1370 1 5 rfl rfl (by omega) hL ?_
  refine pw_i2l (v := (_ : Int32).toInt64) X1.1 dL_law_1371 rfl ?_
  refine pw_bipush (v := 32) X1.1 dL_law_1372 (by decide) ?_
  refine pw_lshl X1.1 dL_law_1374 rfl ?_
  refine pw_sk X1 (i := i) (k := 3) dL_law_1375 dL_law_1376 dL_law_1378 dL_law_1379 dL_law_1380 1 5 rfl rfl (by omega) hL ?_
  refine pw_i2l (v := (_ : Int32).toInt64) X1.1 dL_law_1381 rfl ?_
  refine pw_ldc2 X1.1 dL_law_1382 gl_RL_166 ?_
  refine pw_land X1.1 dL_law_1385 ?_
  refine pw_lor X1.1 dL_law_1386 ?_
  refine pw_callV X1.1 dL_law_1387 (g_runScript mτ hv _ _) gm_X8_runScript gl_RL_171 rfl hR1 (by decide) (by decide) (ci := 7) (by decide) rfl gk_189.1 gk_189.2 rfl (Nat.le_of_ble_eq_true rfl) ?_
  rintro _ υ ⟨q, rfl, hg⟩
  obtain ⟨j1, j2, j3, j4⟩ := LJ2 (by decide) hw hg
  have fin := k υ _ j3 j4 (by rw [vQ_runScript]; exact hv)
  refine pw_istore X1.1 dL_law_1390 (by decide) rfl ?_
  refine pw_aload_n X1.1 dL_law_1392 rfl 4 rfl ?_
  refine pw_callV X1.1 dL_law_1393 (k_X8_thrown υ) gm_X8_thrown gl_RL_97 rfl hR1 (by decide) (by decide) (ci := 7) (by decide) rfl gk_189.1 gk_189.2 rfl (Nat.le_of_ble_eq_true rfl) ?_
  rintro _ υ2 ⟨q2, rfl, e1, e2⟩
  subst e2
  rw [j1] at e1
  subst e1
  refine pw_iload X1.1 dL_law_1396 1 rfl ?_
  refine pw_icmp_eq (tgt := 1403) X1.1 dL_law_1398 (by decide) (fun _ => ?_) (fun z => absurd rfl z)
  refine pw_iload X1.1 dL_law_1403 1 rfl ?_
  refine pw_if_ne (tgt := 1420) X1.1 dL_law_1405 (by decide) (fun _ => ?_) (fun z => ?_)
  · refine pw_goto (tgt := 1635) X1.1 dL_law_1420 (by decide) ?_
    exact pw_sub [2, 3, 4, 5, 6] rfl fin
  · refine pw_aload_n X1.1 dL_law_1408 rfl 5 rfl ?_
    refine pw_iconst (v := 0) X1.1 dL_law_1409 (by decide) ?_
    refine pw_lald X1.1 dL_law_1410 gk_206.1 gk_206.2 (vp_in_nI (n := 0) (N := 1) (by decide) (by decide)) ?_
    refine pw_iload X1.1 dL_law_1411 0 rfl ?_
    refine pw_i2l (v := q.toInt64) X1.1 dL_law_1413 rfl ?_
    refine pw_lcmp X1.1 dL_law_1414 ?_
    refine pw_if_eq (tgt := 1420) X1.1 dL_law_1415 (by decide) (fun _ => ?_) (fun y => absurd (j2 z) y)
    refine pw_goto (tgt := 1635) X1.1 dL_law_1420 (by decide) ?_
    exact pw_sub [2, 3, 4, 5, 6] rfl fin
theorem lc_simulate (X : LX x G b L sc) {i : Nat} {A : aS} (hi : i + 6 ≤ L) (hL : L ≤ 3072) (h : CI σ A) (m : MI σ A) (hv : VA A) (hroom : xk x + 1 ≤ 601024 ∧ xn x + 6 ≤ 7293034) (k : ∀ (τ : gw_S) (B : aS), CI τ B → MI τ B → VA B → PW (xup x 1 6) G 7 1635 [(0, .ref b), (1, .ref (G.1 + 0)), (2, .ref (G.1 + 189)), (3, .ref (G.1 + 206)), (4, .int (nI i))] [] τ) : PW x G 7 1423 [(0, .ref b), (1, .ref (G.1 + 0)), (2, .ref (G.1 + 189)), (3, .ref (G.1 + 206)), (4, .int (nI i))] [] σ := by
  refine pw_aload_n X.1 dL_law_1423 rfl 1 rfl ?_
  refine pw_sk X (i := i) (k := 1) dL_law_1424 dL_law_1425 dL_law_1427 dL_law_1428 dL_law_1429 0 4 rfl rfl (by omega) hL ?_
  refine pw_i2l (v := (_ : Int32).toInt64) X.1 dL_law_1430 rfl ?_
  refine pw_bipush (v := 32) X.1 dL_law_1431 (by decide) ?_
  refine pw_lshl X.1 dL_law_1433 rfl ?_
  refine pw_sk X (i := i) (k := 2) dL_law_1434 dL_law_1435 dL_law_1437 dL_law_1438 dL_law_1439 0 4 rfl rfl (by omega) hL ?_
  refine pw_i2l (v := (_ : Int32).toInt64) X.1 dL_law_1440 rfl ?_
  refine pw_ldc2 X.1 dL_law_1441 gl_RL_166 ?_
  refine pw_land X.1 dL_law_1444 ?_
  refine pw_lor X.1 dL_law_1445 ?_
  refine pw_sk X (i := i) (k := 3) dL_law_1446 dL_law_1447 dL_law_1449 dL_law_1450 dL_law_1451 0 4 rfl rfl (by omega) hL ?_
  refine pw_aload_n X.1 dL_law_1452 rfl 3 rfl ?_
  refine pw_callSH (n := 4) X dL_law_1453 (w_simulate X.2.2.2.2.2.1 h hv _ _) cw_simulate cs_simulate gi_RL ⟨by decide +kernel, by decide +kernel, by decide +kernel⟩ gl_RL_172 rfl (by decide) (by decide) hroom rfl (Nat.le_of_ble_eq_true rfl) (fun r τ hw => ?_)
  have X1 : LX (xup x 1 6) G b L sc := X.up 1 6
  have hR1 : gw_ok (xup x 1 6) 11 := X1.ok hroom
  have mτ := LJ1 m hw
  refine pw_istore X1.1 dL_law_1456 (by decide) rfl ?_
  refine pw_aload_n X1.1 dL_law_1458 rfl 3 rfl ?_
  refine pw_sk X1 (i := i) (k := 1) dL_law_1459 dL_law_1460 dL_law_1462 dL_law_1463 dL_law_1464 1 5 rfl rfl (by omega) hL ?_
  refine pw_i2l (v := (_ : Int32).toInt64) X1.1 dL_law_1465 rfl ?_
  refine pw_bipush (v := 32) X1.1 dL_law_1466 (by decide) ?_
  refine pw_lshl X1.1 dL_law_1468 rfl ?_
  refine pw_sk X1 (i := i) (k := 2) dL_law_1469 dL_law_1470 dL_law_1472 dL_law_1473 dL_law_1474 1 5 rfl rfl (by omega) hL ?_
  refine pw_i2l (v := (_ : Int32).toInt64) X1.1 dL_law_1475 rfl ?_
  refine pw_ldc2 X1.1 dL_law_1476 gl_RL_166 ?_
  refine pw_land X1.1 dL_law_1479 ?_
  refine pw_lor X1.1 dL_law_1480 ?_
  refine pw_sk X1 (i := i) (k := 3) dL_law_1481 dL_law_1482 dL_law_1484 dL_law_1485 dL_law_1486 1 5 rfl rfl (by omega) hL ?_
  refine pw_callV X1.1 dL_law_1487 (g_simulate mτ hv _ _) gm_X8_simulate gl_RL_175 rfl hR1 (by decide) (by decide) (ci := 7) (by decide) rfl gk_189.1 gk_189.2 rfl (Nat.le_of_ble_eq_true rfl) ?_
  rintro _ υ ⟨q, rfl, hg⟩
  obtain ⟨j1, j2, j3, j4⟩ := LJ2 (by decide) hw hg
  have fin := k υ _ j3 j4 (by rw [vQ_simulate]; exact hv)
  refine pw_istore X1.1 dL_law_1490 (by decide) rfl ?_
  refine pw_aload_n X1.1 dL_law_1492 rfl 4 rfl ?_
  refine pw_callV X1.1 dL_law_1493 (k_X8_thrown υ) gm_X8_thrown gl_RL_97 rfl hR1 (by decide) (by decide) (ci := 7) (by decide) rfl gk_189.1 gk_189.2 rfl (Nat.le_of_ble_eq_true rfl) ?_
  rintro _ υ2 ⟨q2, rfl, e1, e2⟩
  subst e2
  rw [j1] at e1
  subst e1
  refine pw_iload X1.1 dL_law_1496 1 rfl ?_
  refine pw_icmp_eq (tgt := 1503) X1.1 dL_law_1498 (by decide) (fun _ => ?_) (fun z => absurd rfl z)
  refine pw_iload X1.1 dL_law_1503 1 rfl ?_
  refine pw_if_ne (tgt := 1520) X1.1 dL_law_1505 (by decide) (fun _ => ?_) (fun z => ?_)
  · refine pw_goto (tgt := 1635) X1.1 dL_law_1520 (by decide) ?_
    exact pw_sub [2, 3, 4, 5, 6] rfl fin
  · refine pw_aload_n X1.1 dL_law_1508 rfl 5 rfl ?_
    refine pw_iconst (v := 0) X1.1 dL_law_1509 (by decide) ?_
    refine pw_lald X1.1 dL_law_1510 gk_206.1 gk_206.2 (vp_in_nI (n := 0) (N := 1) (by decide) (by decide)) ?_
    refine pw_iload X1.1 dL_law_1511 0 rfl ?_
    refine pw_i2l (v := q.toInt64) X1.1 dL_law_1513 rfl ?_
    refine pw_lcmp X1.1 dL_law_1514 ?_
    refine pw_if_eq (tgt := 1520) X1.1 dL_law_1515 (by decide) (fun _ => ?_) (fun y => absurd (j2 z) y)
    refine pw_goto (tgt := 1635) X1.1 dL_law_1520 (by decide) ?_
    exact pw_sub [2, 3, 4, 5, 6] rfl fin
theorem lc_save (X : LX x G b L sc) {i : Nat} {A : aS} (hi : i + 6 ≤ L) (hL : L ≤ 3072) (h : CI σ A) (m : MI σ A) (hv : VA A) (hroom : xk x + 1 ≤ 601024 ∧ xn x + 6 ≤ 7293034) (k : ∀ (τ : gw_S) (B : aS), CI τ B → MI τ B → VA B → PW (xup x 1 6) G 7 1635 [(0, .ref b), (1, .ref (G.1 + 0)), (2, .ref (G.1 + 189)), (3, .ref (G.1 + 206)), (4, .int (nI i))] [] τ) : PW x G 7 1523 [(0, .ref b), (1, .ref (G.1 + 0)), (2, .ref (G.1 + 189)), (3, .ref (G.1 + 206)), (4, .int (nI i))] [] σ := by
  refine pw_aload_n X.1 dL_law_1523 rfl 1 rfl ?_
  refine pw_sk X (i := i) (k := 1) dL_law_1524 dL_law_1525 dL_law_1527 dL_law_1528 dL_law_1529 0 4 rfl rfl (by omega) hL ?_
  refine pw_aload_n X.1 dL_law_1530 rfl 3 rfl ?_
  refine pw_callSH (n := 3) X dL_law_1531 (w_save X.2.2.2.2.2.1 h hv _) cw_save cs_save gi_RL ⟨by decide +kernel, by decide +kernel, by decide +kernel⟩ gl_RL_176 rfl (by decide) (by decide) hroom rfl (Nat.le_of_ble_eq_true rfl) (fun r τ hw => ?_)
  have X1 : LX (xup x 1 6) G b L sc := X.up 1 6
  have hR1 : gw_ok (xup x 1 6) 11 := X1.ok hroom
  have mτ := LJ1 m hw
  refine pw_istore X1.1 dL_law_1534 (by decide) rfl ?_
  refine pw_aload_n X1.1 dL_law_1536 rfl 3 rfl ?_
  refine pw_sk X1 (i := i) (k := 1) dL_law_1537 dL_law_1538 dL_law_1540 dL_law_1541 dL_law_1542 1 5 rfl rfl (by omega) hL ?_
  refine pw_callV X1.1 dL_law_1543 (g_save mτ hv _) gm_X8_save gl_RL_178 rfl hR1 (by decide) (by decide) (ci := 7) (by decide) rfl gk_189.1 gk_189.2 rfl (Nat.le_of_ble_eq_true rfl) ?_
  rintro _ υ ⟨q, rfl, hg⟩
  obtain ⟨j1, j2, j3, j4⟩ := LJ2 (by decide) hw hg
  have fin := k υ _ j3 j4 (vA_save hv _)
  refine pw_istore X1.1 dL_law_1546 (by decide) rfl ?_
  refine pw_aload_n X1.1 dL_law_1548 rfl 4 rfl ?_
  refine pw_callV X1.1 dL_law_1549 (k_X8_thrown υ) gm_X8_thrown gl_RL_97 rfl hR1 (by decide) (by decide) (ci := 7) (by decide) rfl gk_189.1 gk_189.2 rfl (Nat.le_of_ble_eq_true rfl) ?_
  rintro _ υ2 ⟨q2, rfl, e1, e2⟩
  subst e2
  rw [j1] at e1
  subst e1
  refine pw_iload X1.1 dL_law_1552 1 rfl ?_
  refine pw_icmp_eq (tgt := 1559) X1.1 dL_law_1554 (by decide) (fun _ => ?_) (fun z => absurd rfl z)
  refine pw_iload X1.1 dL_law_1559 1 rfl ?_
  refine pw_if_ne (tgt := 1576) X1.1 dL_law_1561 (by decide) (fun _ => ?_) (fun z => ?_)
  · refine pw_goto (tgt := 1635) X1.1 dL_law_1576 (by decide) ?_
    exact pw_sub [2, 3, 4, 5, 6] rfl fin
  · refine pw_aload_n X1.1 dL_law_1564 rfl 5 rfl ?_
    refine pw_iconst (v := 0) X1.1 dL_law_1565 (by decide) ?_
    refine pw_lald X1.1 dL_law_1566 gk_206.1 gk_206.2 (vp_in_nI (n := 0) (N := 1) (by decide) (by decide)) ?_
    refine pw_iload X1.1 dL_law_1567 0 rfl ?_
    refine pw_i2l (v := q.toInt64) X1.1 dL_law_1569 rfl ?_
    refine pw_lcmp X1.1 dL_law_1570 ?_
    refine pw_if_eq (tgt := 1576) X1.1 dL_law_1571 (by decide) (fun _ => ?_) (fun y => absurd (j2 z) y)
    refine pw_goto (tgt := 1635) X1.1 dL_law_1576 (by decide) ?_
    exact pw_sub [2, 3, 4, 5, 6] rfl fin
theorem lc_restore (X : LX x G b L sc) {i : Nat} {A : aS} (hi : i + 6 ≤ L) (hL : L ≤ 3072) (h : CI σ A) (m : MI σ A) (hv : VA A) (hroom : xk x + 1 ≤ 601024 ∧ xn x + 6 ≤ 7293034) (k : ∀ (τ : gw_S) (B : aS), CI τ B → MI τ B → VA B → PW (xup x 1 6) G 7 1635 [(0, .ref b), (1, .ref (G.1 + 0)), (2, .ref (G.1 + 189)), (3, .ref (G.1 + 206)), (4, .int (nI i))] [] τ) : PW x G 7 1579 [(0, .ref b), (1, .ref (G.1 + 0)), (2, .ref (G.1 + 189)), (3, .ref (G.1 + 206)), (4, .int (nI i))] [] σ := by
  refine pw_aload_n X.1 dL_law_1579 rfl 1 rfl ?_
  refine pw_sk X (i := i) (k := 1) dL_law_1580 dL_law_1581 dL_law_1583 dL_law_1584 dL_law_1585 0 4 rfl rfl (by omega) hL ?_
  refine pw_aload_n X.1 dL_law_1586 rfl 3 rfl ?_
  refine pw_callSH (n := 3) X dL_law_1587 (w_restore X.2.2.2.2.2.1 h hv _) cw_restore cs_restore gi_RL ⟨by decide +kernel, by decide +kernel, by decide +kernel⟩ gl_RL_179 rfl (by decide) (by decide) hroom rfl (Nat.le_of_ble_eq_true rfl) (fun r τ hw => ?_)
  have X1 : LX (xup x 1 6) G b L sc := X.up 1 6
  have hR1 : gw_ok (xup x 1 6) 11 := X1.ok hroom
  have mτ := LJ1 m hw
  refine pw_istore X1.1 dL_law_1590 (by decide) rfl ?_
  refine pw_aload_n X1.1 dL_law_1592 rfl 3 rfl ?_
  refine pw_sk X1 (i := i) (k := 1) dL_law_1593 dL_law_1594 dL_law_1596 dL_law_1597 dL_law_1598 1 5 rfl rfl (by omega) hL ?_
  refine pw_callV X1.1 dL_law_1599 (g_restore mτ hv _) gm_X8_restore gl_RL_181 rfl hR1 (by decide) (by decide) (ci := 7) (by decide) rfl gk_189.1 gk_189.2 rfl (Nat.le_of_ble_eq_true rfl) ?_
  rintro _ υ ⟨q, rfl, hg⟩
  obtain ⟨j1, j2, j3, j4⟩ := LJ2 (by decide) hw hg
  have fin := k υ _ j3 j4 (vA_restore hv _)
  refine pw_istore X1.1 dL_law_1602 (by decide) rfl ?_
  refine pw_aload_n X1.1 dL_law_1604 rfl 4 rfl ?_
  refine pw_callV X1.1 dL_law_1605 (k_X8_thrown υ) gm_X8_thrown gl_RL_97 rfl hR1 (by decide) (by decide) (ci := 7) (by decide) rfl gk_189.1 gk_189.2 rfl (Nat.le_of_ble_eq_true rfl) ?_
  rintro _ υ2 ⟨q2, rfl, e1, e2⟩
  subst e2
  rw [j1] at e1
  subst e1
  refine pw_iload X1.1 dL_law_1608 1 rfl ?_
  refine pw_icmp_eq (tgt := 1615) X1.1 dL_law_1610 (by decide) (fun _ => ?_) (fun z => absurd rfl z)
  refine pw_iload X1.1 dL_law_1615 1 rfl ?_
  refine pw_if_ne (tgt := 1632) X1.1 dL_law_1617 (by decide) (fun _ => ?_) (fun z => ?_)
  · refine pw_goto (tgt := 1635) X1.1 dL_law_1632 (by decide) ?_
    exact pw_sub [2, 3, 4, 5, 6] rfl fin
  · refine pw_aload_n X1.1 dL_law_1620 rfl 5 rfl ?_
    refine pw_iconst (v := 0) X1.1 dL_law_1621 (by decide) ?_
    refine pw_lald X1.1 dL_law_1622 gk_206.1 gk_206.2 (vp_in_nI (n := 0) (N := 1) (by decide) (by decide)) ?_
    refine pw_iload X1.1 dL_law_1623 0 rfl ?_
    refine pw_i2l (v := q.toInt64) X1.1 dL_law_1625 rfl ?_
    refine pw_lcmp X1.1 dL_law_1626 ?_
    refine pw_if_eq (tgt := 1632) X1.1 dL_law_1627 (by decide) (fun _ => ?_) (fun y => absurd (j2 z) y)
    refine pw_goto (tgt := 1635) X1.1 dL_law_1632 (by decide) ?_
    exact pw_sub [2, 3, 4, 5, 6] rfl fin
end LC
