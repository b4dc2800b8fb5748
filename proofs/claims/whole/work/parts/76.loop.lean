/-! the law's loop (laid by wip/whole/mkloop.py) -/
theorem lp_cmp {L i : Nat} (hL : L ≤ 3072) (hi : i ≤ 4000) : (nI L - 6 < nI i) ↔ L < i + 6 := by
  rw [show (6 : Int32) = nI 6 from rfl, Int32.lt_iff_toInt_lt, pk_sub_toInt (by omega) (by decide), nI_toInt (by omega)]
  omega
theorem law_loop {G : gw_G} {b L : Nat} {sc : Nat → Int32} (hL : L ≤ 3072) : ∀ (f : Nat) (x : gw_X) (i : Nat) (A : aS) (σ : gw_S), LX x G b L sc → L ≤ i + 6 * f → i ≤ 3078 → xk x + f ≤ 601024 → xn x + 6 * f ≤ 7293034 → CI σ A → MI σ A → VA A → PW x G 7 23 [(0, .ref b), (1, .ref (G.1 + 0)), (2, .ref (G.1 + 189)), (3, .ref (G.1 + 206)), (4, .int (nI i))] [] σ := by
  intro f
  induction f with
  | zero =>
    intro x i A σ X h1 h2 h3 h4 h m hv
    refine pw_iload X.1 dL_law_23 4 rfl ?_
    refine pw_aload_n X.1 dL_law_25 rfl 0 rfl ?_
    refine pw_slen X dL_law_26 ?_
    refine pw_bipush (v := 6) X.1 dL_law_27 (by decide) ?_
    refine pw_isub X.1 dL_law_29 ?_
    refine pw_icmp_gt (tgt := 1641) X.1 dL_law_30 (by decide) (fun _ => ?_) (fun z => absurd ((lp_cmp hL (by omega)).mpr (by omega)) z)
    refine pw_iconst (v := 1) X.1 dL_law_1641 (by decide) ?_
    exact pw_end X ⟨by omega, by omega⟩ dL_law_1642
  | succ f ih =>
    intro x i A σ X h1 h2 h3 h4 h m hv
    refine pw_iload X.1 dL_law_23 4 rfl ?_
    refine pw_aload_n X.1 dL_law_25 rfl 0 rfl ?_
    refine pw_slen X dL_law_26 ?_
    refine pw_bipush (v := 6) X.1 dL_law_27 (by decide) ?_
    refine pw_isub X.1 dL_law_29 ?_
    refine pw_icmp_gt (tgt := 1641) X.1 dL_law_30 (by decide) (fun _ => ?_) (fun z => ?_)
    · refine pw_iconst (v := 1) X.1 dL_law_1641 (by decide) ?_
      exact pw_end X ⟨by omega, by omega⟩ dL_law_1642
    have hi : i + 6 ≤ L := by
      rcases Nat.lt_or_ge L (i + 6) with w | w
      · exact absurd ((lp_cmp hL (by omega)).mpr w) z
      · exact w
    have up : ∀ (y : gw_X) (τ : gw_S) (B : aS), LX y G b L sc → xk y + f ≤ 601024 → xn y + 6 * f ≤ 7293034 → CI τ B → MI τ B → VA B → PW y G 7 1635 [(0, .ref b), (1, .ref (G.1 + 0)), (2, .ref (G.1 + 189)), (3, .ref (G.1 + 206)), (4, .int (nI i))] [] τ := by
      intro y τ B Y y1 y2 hC hM hV
      refine pw_iinc (j := 4) (v := nI (i + 6)) Y.1 dL_law_1635 rfl (by rw [← nI_add]; rfl) (by decide) rfl ?_
      refine pw_goto (tgt := 23) Y.1 dL_law_1638 (by decide) ?_
      exact pw_sub [1, 2, 3, 4, 0] rfl (ih y (i + 6) B τ Y (by omega) (by omega) y1 y2 hC hM hV)
    have hR : xk x + 1 ≤ 601024 ∧ xn x + 6 ≤ 7293034 := ⟨by omega, by omega⟩
    have k6 : ∀ (τ : gw_S) (B : aS), CI τ B → MI τ B → VA B → PW (xup x 1 6) G 7 1635 [(0, .ref b), (1, .ref (G.1 + 0)), (2, .ref (G.1 + 189)), (3, .ref (G.1 + 206)), (4, .int (nI i))] [] τ := fun τ B c1 c2 c3 => up _ τ B (X.up 1 6) (by show xk x + 1 + f ≤ _; omega) (by show xn x + 6 + 6 * f ≤ _; omega) c1 c2 c3
    have k0 : ∀ (τ : gw_S) (B : aS), CI τ B → MI τ B → VA B → PW x G 7 1635 [(0, .ref b), (1, .ref (G.1 + 0)), (2, .ref (G.1 + 189)), (3, .ref (G.1 + 206)), (4, .int (nI i))] [] τ := fun τ B c1 c2 c3 => up _ τ B X (by omega) (by omega) c1 c2 c3
    refine pw_aload_n X.1 dL_law_33 rfl 0 rfl ?_
    refine pw_iload X.1 dL_law_34 4 rfl ?_
    refine pw_sld X (by omega) (by omega) dL_law_36 ?_
    refine pw_bipush (v := 31) X.1 dL_law_37 (by decide) ?_
    refine pw_iand X.1 dL_law_39 ?_
    obtain ⟨j, hj, e⟩ := pk_andE (sc i) (m := 31) 5 (by decide)
    rw [e]
    rcases Nat.lt_or_ge j 25 with q | q
    · match j, q with
      | 0, _ => exact pw_tin (tgt := 156) X.1 0 dL_law_40 (nI_toInt (by decide)) (by decide) (by decide) rfl (by decide) (lc_append X hi hL h m hv hR k6)
      | 1, _ => exact pw_tin (tgt := 212) X.1 1 dL_law_40 (nI_toInt (by decide)) (by decide) (by decide) rfl (by decide) (lc_clearText X h m hv ⟨by omega, by omega⟩ k0)
      | 2, _ => exact pw_tin (tgt := 225) X.1 2 dL_law_40 (nI_toInt (by decide)) (by decide) (by decide) rfl (by decide) (lc_errorPosition X h m hv ⟨by omega, by omega⟩ k0)
      | 3, _ => exact pw_tin (tgt := 238) X.1 3 dL_law_40 (nI_toInt (by decide)) (by decide) (by decide) rfl (by decide) (lc_load X hi hL h m hv hR k6)
      | 4, _ => exact pw_tin (tgt := 282) X.1 4 dL_law_40 (nI_toInt (by decide)) (by decide) (by decide) rfl (by decide) (lc_about X hi hL h m hv hR k6)
      | 5, _ => exact pw_tin (tgt := 338) X.1 5 dL_law_40 (nI_toInt (by decide)) (by decide) (by decide) rfl (by decide) (lc_module X hi hL h m hv hR k6)
      | 6, _ => exact pw_tin (tgt := 406) X.1 6 dL_law_40 (nI_toInt (by decide)) (by decide) (by decide) rfl (by decide) (lc_wire X hi hL h m hv hR k6)
      | 7, _ => exact pw_tin (tgt := 474) X.1 7 dL_law_40 (nI_toInt (by decide)) (by decide) (by decide) rfl (by decide) (lc_between X hi hL h m hv hR k6)
      | 8, _ => exact pw_tin (tgt := 542) X.1 8 dL_law_40 (nI_toInt (by decide)) (by decide) (by decide) rfl (by decide) (lc_addModule X hi hL h m hv hR k6)
      | 9, _ => exact pw_tin (tgt := 610) X.1 9 dL_law_40 (nI_toInt (by decide)) (by decide) (by decide) rfl (by decide) (lc_lay X hi hL h m hv hR k6)
      | 10, _ => exact pw_tin (tgt := 714) X.1 10 dL_law_40 (nI_toInt (by decide)) (by decide) (by decide) rfl (by decide) (lc_cut X hi hL h m hv hR k6)
      | 11, _ => exact pw_tin (tgt := 770) X.1 11 dL_law_40 (nI_toInt (by decide)) (by decide) (by decide) rfl (by decide) (lc_put X hi hL h m hv hR k6)
      | 12, _ => exact pw_tin (tgt := 838) X.1 12 dL_law_40 (nI_toInt (by decide)) (by decide) (by decide) rfl (by decide) (lc_work X hi hL h m hv hR k6)
      | 13, _ => exact pw_tin (tgt := 894) X.1 13 dL_law_40 (nI_toInt (by decide)) (by decide) (by decide) rfl (by decide) (lc_round X hi hL h m hv hR k6)
      | 14, _ => exact pw_tin (tgt := 950) X.1 14 dL_law_40 (nI_toInt (by decide)) (by decide) (by decide) rfl (by decide) (lc_undo X hi hL h m hv hR k6)
      | 15, _ => exact pw_tin (tgt := 994) X.1 15 dL_law_40 (nI_toInt (by decide)) (by decide) (by decide) rfl (by decide) (lc_order X hi hL h m hv hR k6)
      | 16, _ => exact pw_tin (tgt := 1062) X.1 16 dL_law_40 (nI_toInt (by decide)) (by decide) (by decide) rfl (by decide) (lc_sticks X hi hL h m hv hR k6)
      | 17, _ => exact pw_tin (tgt := 1118) X.1 17 dL_law_40 (nI_toInt (by decide)) (by decide) (by decide) rfl (by decide) (lc_holds X hi hL h m hv hR k6)
      | 18, _ => exact pw_tin (tgt := 1186) X.1 18 dL_law_40 (nI_toInt (by decide)) (by decide) (by decide) rfl (by decide) (lc_bestRule X h m hv ⟨by omega, by omega⟩ k0)
      | 19, _ => exact pw_tin (tgt := 1199) X.1 19 dL_law_40 (nI_toInt (by decide)) (by decide) (by decide) rfl (by decide) (lc_fewest X hi hL h m hv hR k6)
      | 20, _ => exact pw_tin (tgt := 1255) X.1 20 dL_law_40 (nI_toInt (by decide)) (by decide) (by decide) rfl (by decide) (lc_agrees X hi hL h m hv hR k6)
      | 21, _ => exact pw_tin (tgt := 1323) X.1 21 dL_law_40 (nI_toInt (by decide)) (by decide) (by decide) rfl (by decide) (lc_runScript X hi hL h m hv hR k6)
      | 22, _ => exact pw_tin (tgt := 1423) X.1 22 dL_law_40 (nI_toInt (by decide)) (by decide) (by decide) rfl (by decide) (lc_simulate X hi hL h m hv hR k6)
      | 23, _ => exact pw_tin (tgt := 1523) X.1 23 dL_law_40 (nI_toInt (by decide)) (by decide) (by decide) rfl (by decide) (lc_save X hi hL h m hv hR k6)
      | 24, _ => exact pw_tin (tgt := 1579) X.1 24 dL_law_40 (nI_toInt (by decide)) (by decide) (by decide) rfl (by decide) (lc_restore X hi hL h m hv hR k6)
      | j + 25, q => exact absurd q (by omega)
    · exact pw_tout (tgt := 1635) X.1 dL_law_40 (Or.inr (by rw [nI_toInt (by omega)]; omega)) (by decide) (k0 σ A h m hv)
