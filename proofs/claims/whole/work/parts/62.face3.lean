/-! the class's calls: undo, what would be (continued) -/
section FC
variable {l : Launch} {G : gw_G} {σ : gw_S} {A : aS}
theorem k_X2_takeBack (h : CI σ A) (hv : VA A) (h0 : A.2.2.2.1 ≠ 0) : gw_M l G yX2_takeBack cX2_takeBack 2 (some .int) 2 [.ref (G.1 + 12), .ref (G.1 + 3)] σ (fi (fun r τ => r = nI (A.2.2.2.1 - 1) ∧ CI τ (A.1, A.2.2.1 (A.2.2.2.1 - 1), A.2.2.1, A.2.2.2.1 - 1, A.2.2.2.2) ∧ KC σ τ)) := by
  obtain ⟨h1, h2, ⟨o, ho, h3, h4⟩, h5, h6⟩ := h
  obtain ⟨v1, v2, v3, v4, v5⟩ := hv
  refine gw_met (by decide) (Nat.le_of_ble_eq_true rfl) (fun x C hR hT => sg_X2_takeBack_0 C hR hT 3 gp3 σ ?_)
  intro τ1 ht
  rw [h5, show (1 : Int32) = nI 1 from rfl, pk_sub (by omega)] at ht
  obtain ⟨u1, u2, u3⟩ := uk ht
  have e1 : τ1.1 12 1 = nI o := by rw [u2, pk_un (by decide)]; exact h3
  have e2 : τ1.1 12 2 = nI (A.2.2.2.1 - 1) := by rw [u2, pk_us]
  have hk : (o + (A.2.2.2.1 - 1)) % 14 < 14 := Nat.mod_lt _ (by decide)
  obtain ⟨z1, z2⟩ := hp14 _ hk
  have hm : nI o + nI (A.2.2.2.1 - 1) - (nI o + nI (A.2.2.2.1 - 1)) / 14 * 14 = nI ((o + (A.2.2.2.1 - 1)) % 14) := by
    rw [nI_add, show (14 : Int32) = nI 14 from rfl, pk_rem (by omega) (by decide) (by decide)]
  rw [e1, e2, hm, nI_clamp (by omega)]
  refine ⟨vp_in_nI hk (by decide), _, z1, z2, _, k_X3_become gp3 z2 (by omega) ((h4 (A.2.2.2.1 - 1) (by omega)).cong (fun i hi => u1 _ (by omega))) (v4 _ (by omega)), ?_⟩
  rintro τ4 ⟨p4, S4⟩
  have e : ∀ k, (k < 3 ∨ 12 ≤ k) → k ≠ 12 → τ4.1 k = σ.1 k := fun k hk1 hk2 => by rw [S4.2 k (by omega), u1 k hk2]
  have e12 : τ4.1 12 = τ1.1 12 := S4.2 12 (by omega)
  refine ⟨by rw [e12, e2], ⟨⟨by rw [e 1 (by omega) (by decide)]; exact h1.1, fun i hi => by rw [e 2 (by omega) (by decide)]; exact h1.2 i hi⟩, p4, ⟨o, ho, by rw [e12]; exact e1, fun i hi => ?_⟩, by rw [e12]; exact e2, fun s hs => ⟨by rw [e 141 (by omega) (by decide)]; exact (h6 s hs).1, fun U hU => ((h6 s hs).2 U hU).cong (fun j hj => e _ (by omega) (by omega))⟩⟩, by rw [S4.1, u3], fun k hk => e k (by omega) (by omega)⟩
  have hi : i < A.2.2.2.1 - 1 := hi
  exact (h4 i (by omega)).cong (fun j hj => e _ (by omega) (by omega))
theorem f_undo (hst : l.stackTraces = false) (h : CI σ A) (hv : VA A) : gw_MX l G yX7_undo cX7_undo 1 (some .int) 7 [.ref (G.1 + 0)] σ (fi (cA (anUndo A) σ)) (cK (anUndo A) σ) := by
  have h14 := hv.2.2.1
  refine gw_face hst rfl (Nat.le_of_ble_eq_true rfl) (fun x C hR hT hX => sg_X7_undo_0 hX C hR hT σ ?_)
  have e : (if (if (σ.1 12 2) = 0 then true else false : Bool) = false then 0 else 3 : Nat) = if A.2.2.2.1 = 0 then 3 else 0 := by
    rw [h.2.2.2.1, gif (show nI A.2.2.2.1 = 0 ↔ A.2.2.2.1 = 0 by rw [← nI_0]; exact nI_eq (by omega) (by decide))]
    by_cases z : A.2.2.2.1 = 0
    · rw [if_pos z, if_pos z, if_neg (by decide)]
    · rw [if_neg z, if_neg z, if_pos rfl]
  rw [e]
  unfold anUndo
  refine ⟨fun z => ?_, fun z => ?_⟩
  · by_cases y : A.2.2.2.1 = 0
    · rw [if_pos y, if_pos y]; exact ⟨rfl, h, KC.rf⟩
    · rw [if_neg y] at z; exact absurd rfl z
  · have y : ¬ A.2.2.2.1 = 0 := fun y => by rw [if_pos y] at z; cases z
    refine ⟨_, k_X2_takeBack h hv y, ?_⟩
    rintro r τ ⟨rfl, g1, g2⟩
    rw [if_neg y]
    exact ⟨rfl, rfl, g1, g2⟩
theorem rC_a {T : pT} {r : Nat} (e : rC T r = true) : agB T = true := by unfold rC at e; rw [Bool.and_eq_true] at e; exact e.1
theorem f_order (hst : l.stackTraces = false) (h : CI σ A) (hv : VA A) (r k : Int32) : gw_MX l G yX7_order cX7_order 3 (some .int) 7 [.ref (G.1 + 0), .int r, .int k] σ (fi (cA (anOrder A r k) σ)) (cK (anOrder A r k) σ) := by
  refine gw_face hst rfl (Nat.le_of_ble_eq_true rfl) (fun x C hR hT hX => sg_X7_order_0 hX C hR hT _ _ σ ?_)
  change (¬ rgI 0 2 r = 0 → _) ∧ (rgI 0 2 r = 0 → _)
  refine ⟨fun z => ?_, fun z => ⟨fun y => ?_, fun y => ?_⟩⟩
  · unfold anOrder; rw [if_neg z]; exact ⟨rgI_n z, h, KC.rf⟩
  · have y' : ¬ 0 ≤ k := fun w => y (if_pos w)
    unfold anOrder; rw [if_pos z, if_neg y', if_neg y']; exact ⟨rfl, h, KC.rf⟩
  have y' : 0 ≤ k := by
    by_cases w : 0 ≤ k
    · exact w
    · rw [if_neg w] at y; cases y
  obtain ⟨j, _, hj, rfl⟩ := rgI_0 (lo := 0) (hi := 2) (by decide) (by decide) z
  obtain ⟨q, hq, rfl⟩ := nI_of (x := k) (Int32.not_lt.mpr y')
  refine ⟨_, k_X0_follow gp3 (by omega) h.p hv.2.1 (by omega), ?_⟩
  rintro τ2 ⟨hF, hS⟩
  have c2 := h.scr (hS.s (by decide) (by decide))
  unfold anOrder
  rw [if_pos z, if_pos y', nI_clamp (n := j) (by omega)]
  cases ha : agB A.2.1
  · refine ⟨_, k_X0_step (t := 0) (f := fun _ => 0) (by omega) (by rw [hF.2.2.1, ha]; rfl) (fun j hj => absurd hj (Nat.not_lt_zero j)), ?_⟩
    rintro r τ ⟨rfl, rfl⟩
    rw [if_neg (nI_pos hq), if_pos (show nI 0 ≤ nI q by rw [nI_le_iff (by decide) hq]; omega)]
    exact ⟨rfl, by rw [if_neg (by decide)], c2, hS.kc (by decide)⟩
  · refine ⟨_, k_X0_step (t := rL A.2.1 j) (f := rK A.2.1 j) (rL_480 hv.2.1 ha).1 (by rw [hF.2.2.1, if_pos ha]) (hF.2.2.2.2 ha).1, ?_⟩
    rintro r τ ⟨rfl, rfl⟩
    rw [if_neg (nI_pos hq)]
    exact ⟨rfl, by rw [if_pos rfl], c2, hS.kc (by decide)⟩
theorem f_sticks (hst : l.stackTraces = false) (h : CI σ A) (hv : VA A) (r : Int32) : gw_MX l G yX7_sticks cX7_sticks 2 (some .int) 7 [.ref (G.1 + 0), .int r] σ (fi (cA (anSticks A r) σ)) (cK (anSticks A r) σ) := by
  refine gw_face hst rfl (Nat.le_of_ble_eq_true rfl) (fun x C hR hT hX => sg_X7_sticks_0 hX C hR hT _ σ ?_)
  change (¬ rgI 0 2 r = 0 → _) ∧ (rgI 0 2 r = 0 → _)
  refine ⟨fun z => ?_, fun z => ?_⟩
  · unfold anSticks; rw [if_neg z]; exact ⟨rgI_n z, h, KC.rf⟩
  obtain ⟨j, _, hj, rfl⟩ := rgI_0 (lo := 0) (hi := 2) (by decide) (by decide) z
  refine ⟨_, k_X0_follow gp3 (by omega) h.p hv.2.1 (by omega), ?_⟩
  rintro τ2 ⟨hF, hS⟩
  have c2 := h.scr (hS.s (by decide) (by decide))
  rw [FO_c hv.2.1 hF]
  unfold anSticks
  rw [if_pos z, nI_clamp (by omega), hF.1, hF.2.2.1]
  refine ⟨rfl, ?_, c2, hS.kc (by decide)⟩
  cases ha : agB A.2.1
  · rw [if_pos (by decide)]; rfl
  · rw [if_neg (by decide), if_pos rfl]; rfl
theorem f_holds (hst : l.stackTraces = false) (h : CI σ A) (hv : VA A) (w r : Int32) : gw_MX l G yX7_holds cX7_holds 3 (some .int) 7 [.ref (G.1 + 0), .int w, .int r] σ (fi (cA (anHolds A w r) σ)) (cK (anHolds A w r) σ) := by
  have h14 := hv.2.1.2.1
  refine gw_face hst rfl (Nat.le_of_ble_eq_true rfl) (fun x C hR hT hX => sg_X7_holds_0 hX C hR hT _ _ σ ?_)
  rw [h.p.2.1]
  change (¬ wrF A.2.1 w = 0 → _) ∧ (wrF A.2.1 w = 0 → (¬ rgI 0 2 r = 0 → _) ∧ (rgI 0 2 r = 0 → _))
  refine ⟨fun z => ?_, fun z => ⟨fun y => ?_, fun y => ?_⟩⟩
  · unfold anHolds; rw [if_neg z]; exact ⟨wrF_n z, h, KC.rf⟩
  · unfold anHolds; rw [if_pos z, if_neg y]; exact ⟨rgI_n y, h, KC.rf⟩
  obtain ⟨i, hi, rfl⟩ := wrF_0 hv.2.1 z
  obtain ⟨j, _, hj, rfl⟩ := rgI_0 (lo := 0) (hi := 2) (by decide) (by decide) y
  refine ⟨_, k_X0_follow gp3 (by omega) h.p hv.2.1 (by omega), ?_⟩
  rintro τ2 ⟨hF, hS⟩
  have c2 := h.scr (hS.s (by decide) (by decide))
  refine ⟨⟨fun _ => trivial, fun _ => ⟨vp_in_nI (by omega) (by decide), trivial⟩⟩, ?_⟩
  unfold anHolds
  rw [if_pos z, if_pos y, nI_clamp (n := i) (by omega), nI_clamp (n := j) (by omega), hF.1]
  refine ⟨rfl, ?_, c2, hS.kc (by decide)⟩
  cases ha : agB A.2.1
  · rw [if_pos (by decide)]; rfl
  · rw [if_neg (by decide), (hF.2.2.2.2 ha).2 i hi]; rfl
theorem sm_le {T : pT} {r : Nat} (hv : VT T) : sN (rE T r).2.2.2 (tW T) ≤ 13986 := by
  have h14 := hv.2.1
  have hI := rE_I (r := r) hv
  have h1 := sN_le (f := (rE T r).2.2.2) (c := 999) (tW T) (fun i hi => hI.2.2.2.2.2.2.1 i hi)
  have h2 : tW T * 999 ≤ 14 * 999 := Nat.mul_le_mul_right _ h14
  omega
theorem bsF_I {T : pT} (hv : VT T) : ∀ r, (∀ b, (bsF T r).1 = some b → b < r) ∧ (bsF T r).2 ≤ 13986
  | 0 => ⟨fun b hb => (by cases hb), Nat.zero_le _⟩
  | r + 1 => by
    obtain ⟨i1, i2⟩ := bsF_I hv r
    by_cases c : rC T r = true ∧ ∀ b, (bsF T r).1 = some b → sN (rE T r).2.2.2 (tW T) < (bsF T r).2
    · rw [bsF, if_pos c]
      exact ⟨fun b hb => by cases hb; omega, sm_le hv⟩
    · rw [bsF, if_neg c]
      exact ⟨fun b hb => Nat.lt_succ_of_lt (i1 b hb), i2⟩
theorem bsF_y {T : pT} {r : Nat} (c : rC T r = true ∧ ∀ b, (bsF T r).1 = some b → sN (rE T r).2.2.2 (tW T) < (bsF T r).2) : bsF T (r + 1) = (some r, sN (rE T r).2.2.2 (tW T)) := by rw [bsF, if_pos c]
theorem bsF_n {T : pT} {r : Nat} (c : ¬ (rC T r = true ∧ ∀ b, (bsF T r).1 = some b → sN (rE T r).2.2.2 (tW T) < (bsF T r).2)) : bsF T (r + 1) = bsF T r := by rw [bsF, if_neg c]
theorem f_bestRule (h : CI σ A) (hv : VA A) : gw_M l G yX7_bestRule cX7_bestRule 4 (some .int) 4 [.ref (G.1 + 0)] σ (fi (cA (anBest A) σ)) := by
  refine gw_met (by decide) (Nat.le_of_ble_eq_true rfl) (fun x C hR hT => sg_X7_bestRule_0 C hR hT σ ?_)
  have key : ∀ n r, r + n = 3 → ∀ τ, FX 142 171 σ τ → PW x G 4 6 [(0, .ref (G.1 + 0)), (1, .int (oX (bsF A.2.1 r).1)), (2, .int (nI (bsF A.2.1 r).2)), (3, .int (nI r))] [] τ := by
    intro n
    induction n with
    | zero =>
      intro r hr τ hS
      refine sg_X7_bestRule_6 C hR hT _ _ _ τ ⟨fun _ => ⟨rfl, by rw [show r = 3 by omega]; rfl, h.scr hS, hS.kc (by decide)⟩, fun q => absurd ?_ q⟩
      rw [show (3 : Int32) = nI 3 from rfl, nI_le_iff (by omega) (by omega)]; omega
    | succ n ih =>
      intro r hr τ hS
      obtain ⟨i1, i2⟩ := bsF_I hv.2.1 r
      refine sg_X7_bestRule_6 C hR hT _ _ _ τ ⟨fun q => ?_, fun _ => ⟨_, k_X0_follow gp3 (by omega) (h.scr hS).p hv.2.1 (by omega), ?_⟩⟩
      · rw [show (3 : Int32) = nI 3 from rfl, nI_le_iff (by omega) (by omega)] at q; omega
      rintro τ2 ⟨hF, hS2⟩
      have S2 := hS.tr (hS2.s (by decide) (by decide))
      have sm := sm_le (r := r) hv.2.1
      rw [FO_c hv.2.1 hF, nI_1]
      have go := ih (r + 1) (by omega) τ2 S2
      refine ⟨fun e => ?_, fun e => ?_⟩
      · rw [bsF_n (fun c => by rw [c.1] at e; cases e)] at go; exact go
      have e' : rC A.2.1 r = true := by simpa using e
      refine ⟨fun w => ⟨_, k_X0_allMost hv.2.1 hF (rC_a e'), ?_⟩, fun w => ⟨_, k_X0_allMost hv.2.1 hF (rC_a e'), ?_⟩⟩
      · rintro q τ4 ⟨rfl, rfl⟩
        have hn : (bsF A.2.1 r).1 = none := by
          cases y : (bsF A.2.1 r).1 with
          | none => rfl
          | some b => rw [y] at w; exact absurd w (nI_m1 (by have := i1 b y; omega))
        rw [bsF_y ⟨e', fun b hb => by rw [hn] at hb; cases hb⟩] at go
        exact go
      · rintro q τ4 ⟨rfl, rfl⟩
        cases y : (bsF A.2.1 r).1 with
        | none => rw [y] at w; exact absurd rfl w
        | some b =>
          rw [y] at w
          rw [nI_le_iff (by omega) (by omega)]
          refine ⟨fun v => ?_, fun v => ⟨_, k_X0_allMost hv.2.1 hF (rC_a e'), ?_⟩⟩
          · rw [bsF_n (fun c => by have := c.2 b y; omega), y] at go
            exact go
          · rintro q τ6 ⟨rfl, rfl⟩
            rw [bsF_y ⟨e', fun b' hb => by omega⟩] at go
            exact go
  exact key 3 0 (by omega) σ FX.rf
end FC
