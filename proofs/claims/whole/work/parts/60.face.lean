/-! the class's calls: text, questions, changes -/
section FC
variable {l : Launch} {G : gw_G} {σ : gw_S} {A : aS}
theorem gr167 : gw_rates 167 := gr_167
theorem CI.p (h : CI σ A) : RP σ 3 A.2.1 := h.2.1
theorem k_X5_add {c : Nat} (h : xCl σ A.1) (hX : xV A.1) (hc : c < 256) (hn : A.1.1 < 120) : gw_M l G yX5_add cX5_add 2 (some .int) 0 [.ref (G.1 + 1), .int (nI c)] σ (fi (fun r τ => r = nI (A.1.1 + 1) ∧ xCl τ (A.1.1 + 1, uN A.1.2 A.1.1 c) ∧ FX 1 3 σ τ)) := by
  refine gw_met (by decide) (Nat.le_of_ble_eq_true rfl) (fun x C hR hT => sg_X5_add_0 C hR hT _ σ ?_)
  rw [h.1, show (120 : Int32) = nI 120 from rfl, nI_le_iff (by omega) (by omega)]
  refine ⟨fun z => absurd z (by omega), fun _ => ⟨?_, vp_in_nI (by omega) (by decide), ?_⟩⟩
  · exact Value.int.inj (pk_charN (by omega)).1
  · intro τ3 h3 τ4 h4
    rw [nI_clamp (by omega)] at h3
    obtain ⟨a1, a2, a3⟩ := uk h3
    rw [a1 1 (by decide), h.1, nI_1] at h4
    obtain ⟨b1, b2, b3⟩ := uk h4
    refine ⟨by rw [b2, pk_us], ⟨by rw [b2, pk_us], fun i hi => ?_⟩, (ukF h3 (by decide) (by decide)).tr (ukF h4 (by decide) (by decide))⟩
    have hi : i < A.1.1 + 1 := hi
    show τ4.1 2 i = nI (uN A.1.2 A.1.1 c i)
    rw [b1 2 (by decide), a2]
    by_cases e : i = A.1.1
    · rw [e, pk_us, uN_at]
    · rw [pk_un e, uN_ne _ _ e, h.2 i (by omega)]
/-- only the text is other -/
theorem CI.text {X : xT} {τ : gw_S} (h : CI σ A) (hx : xCl τ X) (hS : FX 1 3 σ τ) : CI τ (X, A.2) := by
  obtain ⟨h1, h2, ⟨o, ho, h3, h4⟩, h5, h6⟩ := h
  have e : ∀ k, (k < 1 ∨ 3 ≤ k) → τ.1 k = σ.1 k := fun k hk => hS.2 k hk
  exact ⟨hx, h2.fx hS (by omega), ⟨o, ho, by rw [e 12 (by omega)]; exact h3, fun i hi => (h4 i hi).fx hS (by omega)⟩, by rw [e 12 (by omega)]; exact h5, fun s hs => ⟨by rw [e 141 (by omega)]; exact (h6 s hs).1, fun U hU => ((h6 s hs).2 U hU).fx hS (by omega)⟩⟩
theorem f_append (hst : l.stackTraces = false) (h : CI σ A) (hv : VA A) (v : Int32) : gw_MX l G yX7_append cX7_append 2 (some .int) 7 [.ref (G.1 + 0), .int v] σ (fi (cA (anAppend A v) σ)) (cK (anAppend A v) σ) := by
  refine gw_face hst rfl (Nat.le_of_ble_eq_true rfl) (fun x C hR hT hX => sg_X7_append_0 hX C hR hT _ σ ?_)
  have h120 := hv.1.1
  change (¬ rgI 0 255 v = 0 → _) ∧ (rgI 0 255 v = 0 → _)
  rw [h.1.1]
  have e : (if (if nI A.1.1 < 120 then false else true : Bool) = false then 0 else 3 : Nat) = if A.1.1 < 120 then 0 else 3 := by
    rw [show (120 : Int32) = nI 120 from rfl, gif (nI_ltI (by omega) (by omega))]
    by_cases z : A.1.1 < 120
    · rw [if_pos z, if_pos z, if_pos rfl]
    · rw [if_neg z, if_neg z, if_neg (by decide)]
  rw [e]
  unfold anAppend
  refine ⟨fun z => ?_, fun z => ⟨fun z2 => ?_, fun z2 => ?_⟩⟩
  · rw [if_neg z]; exact ⟨rgI_n z, h, KC.rf⟩
  · rw [if_pos z]
    by_cases y : A.1.1 < 120
    · rw [if_pos y] at z2; exact absurd rfl z2
    · rw [if_neg y, if_neg y]; exact ⟨rfl, h, KC.rf⟩
  · have y : A.1.1 < 120 := by
      by_cases y : A.1.1 < 120
      · exact y
      · rw [if_neg y] at z2; cases z2
    obtain ⟨j, _, hj, rfl⟩ := rgI_0 (lo := 0) (hi := 255) (by decide) (by decide) z
    rw [if_pos z, if_pos y, pk_char, pk_tn (by omega), Nat.mod_eq_of_lt (show j < 65536 by omega)]
    refine ⟨_, k_X5_add (A := A) h.1 hv.1 (by omega) y, ?_⟩
    rintro r τ ⟨rfl, g1, g2⟩
    refine ⟨rfl, rfl, ?_, g2.kc (by decide)⟩
    show CI τ ((A.1.1 + 1, uN A.1.2 A.1.1 (nI j).toNatClampNeg), A.2)
    rw [nI_clamp (by omega)]
    exact h.text g1 g2
theorem f_clearText (h : CI σ A) : gw_M l G yX7_clearText cX7_clearText 1 (some .int) 1 [.ref (G.1 + 0)] σ (fi (cA (anClear A) σ)) := by
  refine gw_met (by decide) (Nat.le_of_ble_eq_true rfl) (fun x C hR hT => sg_X7_clearText_0 C hR hT σ ?_)
  intro τ1 h1
  obtain ⟨a1, a2, a3⟩ := uk h1
  rw [h.1.1]
  have hF : FX 1 3 σ τ1 := ukF h1 (by decide) (by decide)
  exact ⟨rfl, rfl, h.text (X := (0, A.1.2)) ⟨by rw [a2, pk_us]; rfl, fun i hi => absurd hi (Nat.not_lt_zero i)⟩ hF, hF.kc (by decide)⟩
theorem f_errorPosition (h : CI σ A) (hv : VA A) : gw_M l G yX7_errorPosition cX7_errorPosition 1 (some .int) 3 [.ref (G.1 + 0)] σ (fi (cA (anError A) σ)) := by
  refine gw_met (by decide) (Nat.le_of_ble_eq_true rfl) (fun x C hR hT => sg_X7_errorPosition_0 C hR hT σ ⟨_, k_X5_firstError h.1 hv.1, ?_⟩)
  rintro r τ ⟨rfl, rfl⟩
  exact ⟨rfl, rfl, h, KC.rf⟩
theorem f_about (hst : l.stackTraces = false) (h : CI σ A) (hv : VA A) (v : Int32) : gw_MX l G yX7_about cX7_about 2 (some .int) 7 [.ref (G.1 + 0), .int v] σ (fi (cA (anAbout A v) σ)) (cK (anAbout A v) σ) := by
  refine gw_face hst rfl (Nat.le_of_ble_eq_true rfl) (fun x C hR hT hX => sg_X7_about_0 hX C hR hT _ σ ?_)
  change (¬ rgI 0 8 v = 0 → _) ∧ (rgI 0 8 v = 0 → _)
  refine ⟨fun z => ?_, fun z => ?_⟩
  · unfold anAbout; rw [if_neg z]; exact ⟨rgI_n z, h, KC.rf⟩
  obtain ⟨j, _, hj, rfl⟩ := rgI_0 (lo := 0) (hi := 8) (by decide) (by decide) z
  have ea : ∀ k, j = k → anAbout A (nI j) = (0, abV A.2.1 k, A) := fun k hk => by
    unfold anAbout; rw [if_pos z, nI_clamp (by omega), hk]
  have ok : ∀ k, j = k → ∀ r, r = abV A.2.1 k → cA (anAbout A (nI j)) σ r σ := fun k hk r hr => by
    rw [ea k hk]; exact ⟨rfl, hr, h, KC.rf⟩
  have okf : ∀ k, j = k → ∀ r τ, r = abV A.2.1 k → FX 142 171 σ τ → cA (anAbout A (nI j)) σ r τ := fun k hk r τ hr hS => by
    rw [ea k hk]; exact ⟨rfl, hr, h.scr hS, hS.kc (by decide)⟩
  have X4 : ∀ g, FX 142 171 σ (gw_r (gw_u σ 167 1 (nI (tM A.2.1))) (167 + 1) g) := fun g => (FX.u (by decide) (by decide)).tr (FX.r (by decide) (by decide))
  rw [nI_toInt (by omega), h.p.1, h.p.2.1]
  refine ⟨fun q => ⟨_, k_X3_onLoops gp3 h.p hv.2.1, ?_⟩, fun q => ok 0 (by omega) _ rfl, fun q => ok 1 (by omega) _ rfl, fun q => ⟨_, k_X3_allMarks gp3 h.p hv.2.1, ?_⟩, fun q => ⟨_, k_X3_allWorks gp3 h.p hv.2.1, ?_⟩, fun q => ⟨_, k_X4_agreeIn gr167 gp3 (by decide) h.p hv.2.1, ?_⟩, fun q => ⟨_, k_X3_parts gp3 h.p hv.2.1, ?_⟩, fun q => ⟨_, k_X4_agreeIn gr167 gp3 (by decide) h.p hv.2.1, ?_⟩, fun q => ⟨_, k_X3_ready gp3 h.p hv.2.1, ?_⟩⟩
  · rintro r τ ⟨rfl, rfl⟩; exact ok 8 (by omega) _ rfl
  · rintro r τ ⟨rfl, rfl⟩; exact ok 2 (by omega) _ rfl
  · rintro r τ ⟨rfl, rfl⟩; exact ok 3 (by omega) _ rfl
  · rintro r τ ⟨rfl, g, rfl, -⟩
    rw [bI]; exact okf 4 (by omega) _ _ rfl (X4 g)
  · rintro r τ ⟨rfl, rfl⟩; exact ok 5 (by omega) _ rfl
  · rintro r τ ⟨rfl, g, rfl, hg⟩
    refine ⟨fun e => okf 6 (by omega) _ _ ?_ (X4 g), fun e => ?_⟩
    · show -1 = (if agB A.2.1 = true then nI (sN (rD A.2.1) (tM A.2.1)) else -1); rw [if_neg (by rw [e]; decide)]
    · have ha : agB A.2.1 = true := by simpa using e
      refine ⟨_, k_X4_total gr167 hv.2.1.1 (M := tM A.2.1) (D := rD A.2.1) (by rw [gw_r_ne _ _ (by decide), gw_u_at]) (fun i hi => by rw [gw_r_at]; exact hg _ (rD_ok ha) i hi), ?_⟩
      rintro r τ ⟨rfl, rfl⟩
      refine okf 6 (by omega) _ _ ?_ (X4 g)
      show _ = (if agB A.2.1 = true then nI (sN (rD A.2.1) (tM A.2.1)) else -1); rw [if_pos ha]
  · rintro r τ ⟨rfl, rfl⟩; exact ok 7 (by omega) _ rfl
theorem f_module (hst : l.stackTraces = false) (h : CI σ A) (hv : VA A) (m v : Int32) : gw_MX l G yX7_module cX7_module 3 (some .int) 7 [.ref (G.1 + 0), .int m, .int v] σ (fi (cA (anModule A m v) σ)) (cK (anModule A m v) σ) := by
  have h8 := hv.2.1.1
  have h14 := hv.2.1.2.1
  refine gw_face hst rfl (Nat.le_of_ble_eq_true rfl) (fun x C hR hT hX => sg_X7_module_0 hX C hR hT _ _ σ ?_)
  rw [h.p.1, h.p.2.1]
  change (¬ mdF A.2.1 m = 0 → _) ∧ (mdF A.2.1 m = 0 → (¬ rgI 0 5 v = 0 → _) ∧ (rgI 0 5 v = 0 → _))
  refine ⟨fun z => ?_, fun z => ⟨fun y => ?_, fun y => ?_⟩⟩
  · unfold anModule; rw [if_neg z]; exact ⟨mdF_n z, h, KC.rf⟩
  · unfold anModule; rw [if_pos z, if_neg y]; exact ⟨rgI_n y, h, KC.rf⟩
  obtain ⟨i, hi, rfl⟩ := mdF_0 hv.2.1 z
  obtain ⟨j, _, hj, rfl⟩ := rgI_0 (lo := 0) (hi := 5) (by decide) (by decide) y
  have ea : ∀ k, j = k → anModule A (nI i) (nI j) = (0, mdV A.2.1 i k, A) := fun k hk => by
    unfold anModule; rw [if_pos z, if_pos y, nI_clamp (by omega), nI_clamp (by omega), hk]
  have ok : ∀ k, j = k → ∀ r, r = mdV A.2.1 i k → cA (anModule A (nI i) (nI j)) σ r σ := fun k hk r hr => by
    rw [ea k hk]; exact ⟨rfl, hr, h, KC.rf⟩
  obtain ⟨r1, r2, r3⟩ := h.p.2.2.1 i hi
  rw [nI_toInt (by omega), nI_clamp (by omega)]
  refine ⟨fun q => ⟨_, k_X3_count (f := tF A.2.1) gk_7 (by omega) (by omega) (fun w hw => ⟨(h.p.2.2.2 w hw).1, by have := (hv.2.1.2.2.2 w hw).1; omega⟩), ?_⟩, fun q => ⟨vp_in_nI (by omega) (by decide), ok 0 (by omega) _ r1⟩, fun q => ⟨vp_in_nI (by omega) (by decide), ok 1 (by omega) _ r2⟩, fun q => ⟨vp_in_nI (by omega) (by decide), ok 2 (by omega) _ r3⟩, fun q => ⟨_, k_X4_agreeIn gr167 gp3 (by decide) h.p hv.2.1, ?_⟩, fun q => ⟨_, k_X3_count (f := tO A.2.1) gk_8 (by omega) (by omega) (fun w hw => ⟨(h.p.2.2.2 w hw).2.1, by have := (hv.2.1.2.2.2 w hw).2.1; omega⟩), ?_⟩⟩
  · rintro r τ ⟨rfl, rfl⟩; exact ok 5 (by omega) _ rfl
  · rintro r τ ⟨rfl, g, rfl, hg⟩
    have hS : FX 142 171 σ (gw_r (gw_u σ 167 1 (nI (tM A.2.1))) (167 + 1) g) := (FX.u (by decide) (by decide)).tr (FX.r (by decide) (by decide))
    refine ⟨⟨fun _ => trivial, fun _ => ⟨vp_in_nI (by omega) (by decide), trivial⟩⟩, ?_⟩
    rw [ea 3 (by omega)]
    refine ⟨rfl, ?_, h.scr hS, hS.kc (by decide)⟩
    show _ = (if agB A.2.1 = true then nI (rD A.2.1 i) else -1)
    cases e : agB A.2.1
    · rfl
    · rw [if_neg (by decide), if_pos rfl, show (168 : Nat) = 167 + 1 from rfl, gw_r_at]; exact hg _ (rD_ok e) i hi
  · rintro r τ ⟨rfl, rfl⟩; exact ok 4 (by omega) _ rfl
theorem f_wire (hst : l.stackTraces = false) (h : CI σ A) (hv : VA A) (w v : Int32) : gw_MX l G yX7_wire cX7_wire 3 (some .int) 7 [.ref (G.1 + 0), .int w, .int v] σ (fi (cA (anWire A w v) σ)) (cK (anWire A w v) σ) := by
  have h14 := hv.2.1.2.1
  refine gw_face hst rfl (Nat.le_of_ble_eq_true rfl) (fun x C hR hT hX => sg_X7_wire_0 hX C hR hT _ _ σ ?_)
  rw [h.p.2.1]
  change (¬ wrF A.2.1 w = 0 → _) ∧ (wrF A.2.1 w = 0 → (¬ rgI 0 4 v = 0 → _) ∧ (rgI 0 4 v = 0 → _))
  refine ⟨fun z => ?_, fun z => ⟨fun y => ?_, fun y => ?_⟩⟩
  · unfold anWire; rw [if_neg z]; exact ⟨wrF_n z, h, KC.rf⟩
  · unfold anWire; rw [if_pos z, if_neg y]; exact ⟨rgI_n y, h, KC.rf⟩
  obtain ⟨i, hi, rfl⟩ := wrF_0 hv.2.1 z
  obtain ⟨j, _, hj, rfl⟩ := rgI_0 (lo := 0) (hi := 4) (by decide) (by decide) y
  have ea : ∀ k, j = k → anWire A (nI i) (nI j) = (0, wrV A.2.1 i k, A) := fun k hk => by
    unfold anWire; rw [if_pos z, if_pos y, nI_clamp (by omega), nI_clamp (by omega), hk]
  have ok : ∀ k, j = k → ∀ r, r = wrV A.2.1 i k → cA (anWire A (nI i) (nI j)) σ r σ := fun k hk r hr => by
    rw [ea k hk]; exact ⟨rfl, hr, h, KC.rf⟩
  obtain ⟨r1, r2, r3, r4, r5⟩ := h.p.2.2.2 i hi
  rw [nI_toInt (by omega), nI_clamp (by omega)]
  exact ⟨fun q => ⟨vp_in_nI (by omega) (by decide), ok 4 (by omega) _ r5⟩, fun q => ⟨vp_in_nI (by omega) (by decide), ok 0 (by omega) _ r1⟩, fun q => ⟨vp_in_nI (by omega) (by decide), ok 1 (by omega) _ r2⟩, fun q => ⟨vp_in_nI (by omega) (by decide), ok 2 (by omega) _ r3⟩, fun q => ⟨vp_in_nI (by omega) (by decide), ok 3 (by omega) _ r4⟩⟩
theorem f_between (hst : l.stackTraces = false) (h : CI σ A) (hv : VA A) (a b : Int32) : gw_MX l G yX7_between cX7_between 3 (some .int) 7 [.ref (G.1 + 0), .int a, .int b] σ (fi (cA (anBetween A a b) σ)) (cK (anBetween A a b) σ) := by
  have h8 := hv.2.1.1
  refine gw_face hst rfl (Nat.le_of_ble_eq_true rfl) (fun x C hR hT hX => sg_X7_between_0 hX C hR hT _ _ σ ?_)
  rw [h.p.1]
  change (¬ mdF A.2.1 a = 0 → _) ∧ (mdF A.2.1 a = 0 → (¬ mdF A.2.1 b = 0 → _) ∧ (mdF A.2.1 b = 0 → _))
  refine ⟨fun z => ?_, fun z => ⟨fun y => ?_, fun y => ?_⟩⟩
  · unfold anBetween; rw [if_neg z]; exact ⟨mdF_n z, h, KC.rf⟩
  · unfold anBetween; rw [if_pos z, if_neg y]; exact ⟨mdF_n y, h, KC.rf⟩
  obtain ⟨i, hi, rfl⟩ := mdF_0 hv.2.1 z
  obtain ⟨j, hj, rfl⟩ := mdF_0 hv.2.1 y
  refine ⟨_, k_X6_fewestMarks gp3 (by omega) h.p hv.2.1 hi hj, ?_⟩
  rintro r τ ⟨rfl, g, rfl⟩
  have hS : FX 142 171 σ (gw_r σ 170 g) := FX.r (by decide) (by decide)
  unfold anBetween
  rw [if_pos z, if_pos y, nI_clamp (by omega), nI_clamp (by omega)]
  exact ⟨rfl, rfl, h.scr hS, hS.kc (by decide)⟩
/-- behind a change of the plan alone -/
theorem CI.plan {T' : pT} {τ : gw_S} (h : CI σ A) (hp : RP τ 3 T') (hS : SP 3 σ τ) : CI τ (A.1, T', A.2.2) := by
  obtain ⟨h1, h2, ⟨o, ho, h3, h4⟩, h5, h6⟩ := h
  have e : ∀ k, (k < 3 ∨ 12 ≤ k) → τ.1 k = σ.1 k := fun k hk => hS.2 k (by omega)
  exact ⟨⟨by rw [e 1 (by omega)]; exact h1.1, fun i hi => by rw [e 2 (by omega)]; exact h1.2 i hi⟩, hp, ⟨o, ho, by rw [e 12 (by omega)]; exact h3, fun i hi => (h4 i hi).out hS (by omega)⟩, by rw [e 12 (by omega)]; exact h5, fun s hs => ⟨by rw [e 141 (by omega)]; exact (h6 s hs).1, fun U hU => ((h6 s hs).2 U hU).out hS (by omega)⟩⟩
theorem SP.kc3 {τ : gw_S} (h : SP 3 σ τ) : KC σ τ := h.fx.kc (by decide)
theorem f_addModule (hst : l.stackTraces = false) (h : CI σ A) (hv : VA A) (u k : Int32) : gw_MX l G yX7_addModule cX7_addModule 3 (some .int) 7 [.ref (G.1 + 0), .int u, .int k] σ (fi (cA (anAdd A u k) σ)) (cK (anAdd A u k) σ) := by
  refine gw_face hst rfl (Nat.le_of_ble_eq_true rfl) (fun x C hR hT hX => sg_X7_addModule_0 hX C hR hT _ _ σ ⟨_, k_X3_newModuleFault gp3 h.p hv.2.1, ?_⟩)
  rintro r τ _ ⟨rfl, rfl⟩
  refine ⟨fun z => ?_, fun z => ⟨_, k_X2_remember h hv, ?_⟩⟩
  · unfold anAdd; rw [if_neg z]; exact ⟨rfl, h, KC.rf⟩
  · rintro τ5 ⟨c5, kc5, -⟩
    have hb : (∃ i, i < 4 ∧ u = nI i) ∧ (∃ j, j < 4 ∧ k = nI j) ∧ tM A.2.1 < 8 := by
      unfold wfM at z
      by_cases e1 : u < 0
      · rw [if_pos e1] at z; cases z
      · rw [if_neg e1] at z
        by_cases e2 : 3 < u
        · rw [if_pos e2] at z; cases z
        · rw [if_neg e2] at z
          by_cases e3 : k < 0
          · rw [if_pos e3] at z; cases z
          · rw [if_neg e3] at z
            by_cases e4 : k ≤ 3
            · rw [if_pos e4] at z
              obtain ⟨i, hi, hi2⟩ := nI_of2 (M := 3) (n := 3) (by decide) e1 (Int32.not_lt.mp e2)
              obtain ⟨j, hj, hj2⟩ := nI_of2 (M := 3) (n := 3) (by decide) e3 e4
              refine ⟨⟨i, by omega, hi2⟩, ⟨j, by omega, hj2⟩, ?_⟩
              by_cases e5 : tM A.2.1 < 8
              · exact e5
              · rw [if_neg e5] at z; cases z
            · rw [if_neg e4] at z; cases z
    obtain ⟨⟨i, hi, rfl⟩, ⟨j, hj, rfl⟩, hM⟩ := hb
    refine ⟨_, k_X3_newModule (T := A.2.1) gp3 c5.p hv.2.1 hM, ?_⟩
    rintro r τ7 ⟨rfl, g1, g2⟩
    unfold anAdd; rw [if_pos z, nI_clamp (by omega), nI_clamp (by omega)]
    exact ⟨rfl, rfl, c5.plan g1 g2, kc5.tr g2.kc3⟩
theorem wfW_0 {T : pT} {a b c v h : Int32} (hv : VT T) (z : wfW T a b c v h = 0) : ∃ a' b' c' v' h', a = nI a' ∧ b = nI b' ∧ c = nI c' ∧ v = nI v' ∧ h = nI h' ∧ a' < tM T ∧ b' < tM T ∧ 1 ≤ c' ∧ c' ≤ 6 ∧ 1 ≤ v' ∧ v' ≤ 6 ∧ h' ≤ 99 ∧ laysB T a' b' h' = true ∧ tW T < 14 := by
  have h8 := hv.1
  unfold wfW at z
  by_cases e1 : iM (tM T) a = false
  · rw [if_pos e1] at z; cases z
  rw [if_neg e1] at z
  by_cases e2 : iM (tM T) b = false
  · rw [if_pos e2] at z; cases z
  rw [if_neg e2] at z
  by_cases e3 : c < 1
  · rw [if_pos e3] at z; cases z
  rw [if_neg e3] at z
  by_cases e4 : 6 < c
  · rw [if_pos e4] at z; cases z
  rw [if_neg e4] at z
  by_cases e5 : v < 1
  · rw [if_pos e5] at z; cases z
  rw [if_neg e5] at z
  by_cases e6 : 6 < v
  · rw [if_pos e6] at z; cases z
  rw [if_neg e6] at z
  by_cases e7 : h < 0
  · rw [if_pos e7] at z; cases z
  rw [if_neg e7] at z
  by_cases e8 : h ≤ 99
  · rw [if_pos e8] at z
    obtain ⟨i, hi, rfl⟩ := iM_t (by omega) (show iM (tM T) a = true by simpa using e1)
    obtain ⟨j, hj, rfl⟩ := iM_t (by omega) (show iM (tM T) b = true by simpa using e2)
    obtain ⟨g, hg, rfl⟩ := nI_of2 (M := 99) (n := 99) (by decide) e7 e8
    obtain ⟨c', h1, h2, rfl⟩ := rgI_0 (lo := 1) (hi := 6) (v := c) (by decide) (by decide) (by show rgI 1 6 c = 0; unfold rgI; rw [if_neg e3, if_pos (Int32.not_lt.mp e4)])
    obtain ⟨v', h3, h4, rfl⟩ := rgI_0 (lo := 1) (hi := 6) (v := v) (by decide) (by decide) (by show rgI 1 6 v = 0; unfold rgI; rw [if_neg e5, if_pos (Int32.not_lt.mp e6)])
    rw [nI_clamp (by omega), nI_clamp (by omega), nI_clamp (by omega)] at z
    have hl : laysB T i j g = true := by
      cases q : laysB T i j g
      · rw [q, if_neg (by decide)] at z; cases z
      · rfl
    have hW : tW T < 14 := by
      unfold laysB at hl
      simp only [Bool.and_eq_true, decide_eq_true_eq] at hl
      exact hl.1.2
    exact ⟨i, j, c', v', g, rfl, rfl, rfl, rfl, rfl, hi, hj, h1, h2, h3, h4, hg, hl, hW⟩
  · rw [if_neg e8] at z; cases z
theorem f_lay (hst : l.stackTraces = false) (h : CI σ A) (hv : VA A) (a b c v g : Int32) : gw_MX l G yX7_lay cX7_lay 6 (some .int) 7 [.ref (G.1 + 0), .int a, .int b, .int c, .int v, .int g] σ (fi (cA (anLay A a b c v g) σ)) (cK (anLay A a b c v g) σ) := by
  have h8 := hv.2.1.1
  refine gw_face hst rfl (Nat.le_of_ble_eq_true rfl) (fun x C hR hT hX => sg_X7_lay_0 hX C hR hT _ _ _ _ _ σ ⟨_, k_X3_newWireFault gp3 h.p hv.2.1, ?_⟩)
  rintro r τ _ ⟨rfl, rfl⟩
  refine ⟨fun z => ?_, fun z => ⟨_, k_X2_remember h hv, ?_⟩⟩
  · unfold anLay; rw [if_neg z]; exact ⟨rfl, h, KC.rf⟩
  · rintro τ5 ⟨c5, kc5, -⟩
    obtain ⟨a', b', c', v', g', rfl, rfl, rfl, rfl, rfl, q1, q2, q3, q4, q5, q6, q7, q8, q9⟩ := wfW_0 hv.2.1 z
    refine ⟨_, k_X3_newWire (T := A.2.1) gp3 c5.p hv.2.1 q9, ?_⟩
    rintro r τ7 ⟨rfl, g1, g2⟩
    unfold anLay; rw [if_pos z, nI_clamp (by omega), nI_clamp (by omega), nI_clamp (by omega), nI_clamp (by omega), nI_clamp (by omega)]
    exact ⟨rfl, rfl, c5.plan g1 g2, kc5.tr g2.kc3⟩
theorem f_cut (hst : l.stackTraces = false) (h : CI σ A) (hv : VA A) (w : Int32) : gw_MX l G yX7_cut cX7_cut 2 (some .int) 7 [.ref (G.1 + 0), .int w] σ (fi (cA (anCut A w) σ)) (cK (anCut A w) σ) := by
  have h14 := hv.2.1.2.1
  refine gw_face hst rfl (Nat.le_of_ble_eq_true rfl) (fun x C hR hT hX => sg_X7_cut_0 hX C hR hT _ σ ?_)
  rw [h.p.2.1]
  change (¬ wrF A.2.1 w = 0 → _) ∧ (wrF A.2.1 w = 0 → _)
  refine ⟨fun z => ?_, fun z => ⟨_, k_X2_remember h hv, ?_⟩⟩
  · unfold anCut; rw [if_neg z]; exact ⟨wrF_n z, h, KC.rf⟩
  · rintro τ2 ⟨c5, kc5, -⟩
    obtain ⟨i, hi, rfl⟩ := wrF_0 hv.2.1 z
    refine ⟨_, k_X3_dropWire (T := A.2.1) gp3 c5.p hv.2.1 hi, ?_⟩
    rintro r τ7 ⟨rfl, g1, g2⟩
    unfold anCut; rw [if_pos z, nI_clamp (by omega)]
    exact ⟨rfl, rfl, c5.plan g1 g2, kc5.tr g2.kc3⟩
theorem wfH_0 {T : pT} {w h : Int32} (hv : VT T) (z : wfH T w h = 0) : ∃ w' h', w = nI w' ∧ h = nI h' ∧ w' < tW T ∧ h' ≤ 99 ∧ putsB T w' h' = true := by
  have h14 := hv.2.1
  unfold wfH at z
  by_cases e1 : iM (tW T) w = false
  · rw [if_pos e1] at z; cases z
  rw [if_neg e1] at z
  by_cases e7 : h < 0
  · rw [if_pos e7] at z; cases z
  rw [if_neg e7] at z
  by_cases e8 : h ≤ 99
  · rw [if_pos e8] at z
    obtain ⟨i, hi, rfl⟩ := iM_t (by omega) (show iM (tW T) w = true by simpa using e1)
    obtain ⟨g, hg, rfl⟩ := nI_of2 (M := 99) (n := 99) (by decide) e7 e8
    rw [nI_clamp (by omega), nI_clamp (by omega)] at z
    refine ⟨i, g, rfl, rfl, hi, hg, ?_⟩
    cases q : putsB T i g
    · rw [q, if_neg (by decide)] at z; cases z
    · rfl
  · rw [if_neg e8] at z; cases z
theorem f_put (hst : l.stackTraces = false) (h : CI σ A) (hv : VA A) (w g : Int32) : gw_MX l G yX7_put cX7_put 3 (some .int) 7 [.ref (G.1 + 0), .int w, .int g] σ (fi (cA (anPut A w g) σ)) (cK (anPut A w g) σ) := by
  have h14 := hv.2.1.2.1
  refine gw_face hst rfl (Nat.le_of_ble_eq_true rfl) (fun x C hR hT hX => sg_X7_put_0 hX C hR hT _ _ σ ⟨_, k_X3_newMarksFault gp3 h.p hv.2.1, ?_⟩)
  rintro r τ _ ⟨rfl, rfl⟩
  refine ⟨fun z => ?_, fun z => ⟨_, k_X2_remember h hv, ?_⟩⟩
  · unfold anPut; rw [if_neg z]; exact ⟨rfl, h, KC.rf⟩
  · rintro τ5 ⟨c5, kc5, -⟩
    obtain ⟨i, j, rfl, rfl, hi, hj, -⟩ := wfH_0 hv.2.1 z
    refine ⟨_, k_X3_newMarks (T := A.2.1) gp3 c5.p hv.2.1 hi, ?_⟩
    rintro r τ7 ⟨rfl, g1, g2⟩
    unfold anPut; rw [if_pos z, nI_clamp (by omega), nI_clamp (by omega)]
    exact ⟨rfl, rfl, c5.plan g1 g2, kc5.tr g2.kc3⟩
theorem wfF_0 {T : pT} {m : Int32} (hv : VT T) (z : wfF T m = 0) : ∃ i, m = nI i ∧ i < tM T ∧ canW T i := by
  have h8 := hv.1
  unfold wfF at z
  by_cases e1 : iM (tM T) m = false
  · rw [if_pos e1] at z; cases z
  rw [if_neg e1] at z
  obtain ⟨i, hi, rfl⟩ := iM_t (by omega) (show iM (tM T) m = true by simpa using e1)
  rw [nI_clamp (by omega)] at z
  refine ⟨i, rfl, hi, (canB_iff T i).mp ?_⟩
  cases q : canB T i
  · rw [q, if_neg (by decide)] at z; cases z
  · rfl
theorem f_work (hst : l.stackTraces = false) (h : CI σ A) (hv : VA A) (m : Int32) : gw_MX l G yX7_work cX7_work 2 (some .int) 7 [.ref (G.1 + 0), .int m] σ (fi (cA (anWork A m) σ)) (cK (anWork A m) σ) := by
  have h8 := hv.2.1.1
  refine gw_face hst rfl (Nat.le_of_ble_eq_true rfl) (fun x C hR hT hX => sg_X7_work_0 hX C hR hT _ σ ⟨_, k_X3_workFault gp3 h.p hv.2.1, ?_⟩)
  rintro r τ _ ⟨rfl, rfl⟩
  refine ⟨fun z => ?_, fun z => ⟨_, k_X2_remember h hv, ?_⟩⟩
  · unfold anWork; rw [if_neg z]; exact ⟨rfl, h, KC.rf⟩
  · rintro τ5 ⟨c5, kc5, -⟩
    obtain ⟨i, rfl, hi, hc⟩ := wfF_0 hv.2.1 z
    refine ⟨_, k_X3_doWork (T := A.2.1) gp3 c5.p hv.2.1 hi hc, ?_⟩
    rintro τ7 ⟨g1, g2⟩
    refine ⟨_, k_X3_allMarks gp3 g1 (VT_work hv.2.1 hc), ?_⟩
    rintro r τ9 ⟨rfl, rfl⟩
    unfold anWork; rw [if_pos z, nI_clamp (by omega)]
    exact ⟨rfl, rfl, c5.plan g1 g2, kc5.tr g2.kc3⟩
end FC
