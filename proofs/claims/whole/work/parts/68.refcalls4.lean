/-! the reference's calls: rounds, what would be -/
section RC
variable {l : Launch} {G : gw_G} {σ : gw_S} {A : aS}
theorem g_round (h : MI σ A) (hv : VA A) (r : Int32) : gw_M l G yX8_round cX8_round 3 (some .int) 6 [.ref (G.1 + 189), .int r] σ (fi (mA [2, 3] (anRound A r) σ)) := by
  refine gw_met (by decide) (Nat.le_of_ble_eq_true rfl) (fun x C hR hT => sg_X8_round_0 C hR hT _ σ ?_)
  have e1 : (if lg_cmp r.toInt64 0 < 0 then false else (if 0 < lg_cmp r.toInt64 2 then false else true : Bool) : Bool) = decide (rgI 0 2 r = 0) := rg_ref r (lo := 0) (hi := 2) (by decide) (by decide)
  rw [e1]
  refine ⟨fun y1 => ?_, fun y1 => ?_⟩
  · have q : rgI 0 2 r = 0 := by
      by_cases q : rgI 0 2 r = 0
      · exact q
      · exact absurd (dcf q) y1
    obtain ⟨j, _, hj, rfl⟩ := rgI_0 (lo := 0) (hi := 2) (by decide) (by decide) q
    refine ⟨_, k_X8_tryRound (by omega) h.p hv.2.1, ?_⟩
    rintro b τ2 ⟨rfl, S2, h2⟩
    have m2 := h.q S2 (by decide)
    have k2 : KM σ τ2 := KM.q S2 (by decide)
    have hE : (if agB A.2.1 = false then 2 else (if τ2.1 189 22 = 0 then 2 else 0 : Int32) : Int32) = nI (if rC A.2.1 j = true then 0 else 2) := by
      cases ha : agB A.2.1
      · have : rC A.2.1 j = false := by unfold rC; rw [ha]; rfl
        rw [this, if_pos rfl, if_neg (by decide)]; rfl
      · rw [if_neg (by decide), (h2 ha).2.2.1, gif (gz_0 _)]
        cases rC A.2.1 j <;> rfl
    have hF : anRound A (nI j) = (if rC A.2.1 j = true then (0, nI (rL A.2.1 j), aRem A (rE A.2.1 j).1) else (3, 0, A)) := by
      unfold anRound; rw [if_pos q, nI_clamp (by omega)]
    refine rfE (if rC A.2.1 j = true then 0 else 2) hE (by split <;> decide) (fun z τ4 h4 => ?_) (fun z τ4 h4 => ?_)
    · have e : rC A.2.1 j = true := by
        cases e : rC A.2.1 j
        · rw [e, if_neg (by decide)] at z; cases z
        · rfl
      rw [if_pos e] at hF
      obtain ⟨g1, g2, g3, g4, g5⟩ := h2 (rC_a e)
      refine ⟨_, k_X8_remember (m2.u0 h4) hv, ?_⟩
      rintro τ6 ⟨m6, S6⟩
      refine ⟨_, k_X8_copy ia193 ia192 (a := 0) (c := 0) (n := 96) (by decide) (by decide) (by decide) (by decide) (fun z => absurd z (by decide)), ?_⟩
      intro τ8 h8
      have p6 : RR (τ6.1 193) (rE A.2.1 j).1 := by rw [S6.row (by decide) (by decide), (uk h4).1 193 (by decide)]; exact g1
      have S8 : SR 192 τ6 τ8 (rE A.2.1 j).1 := ⟨_, h8, va_cpy_RR p6 (VT_rE hv.2.1)⟩
      refine mA_tr k2 (mA_c h4 m6 S6 S8 ?_)
      rw [hF, h8, gw_r_ne _ _ (by decide), S6.2.2 20 (by decide), (uk h4).2.1, pk_un (by decide), g2]
    · have e : rC A.2.1 j = false := by
        cases e : rC A.2.1 j
        · rfl
        · rw [e, if_pos rfl] at z; exact absurd rfl z
      rw [e, if_neg (by decide)] at hF h4
      exact mA_tr k2 (mA_no m2 (by rw [hF]) (by rw [hF]; exact (by decide : mp [2, 3] 3 ≠ 0)) (by rw [hF]; exact h4))
  · have hF : anRound A r = (2, 0, A) := by unfold anRound; rw [if_neg (of_decide_eq_false y1)]
    exact rfE 1 rfl (by decide) (fun z τ4 h4 => absurd z (by decide)) (fun z τ4 h4 => mA_no h (by rw [hF]) (by rw [hF]; exact (by decide : mp [2, 3] 2 ≠ 0)) (by rw [hF]; exact h4))
theorem g_undo (h : MI σ A) (hv : VA A) : gw_M l G yX8_undo cX8_undo 1 (some .int) 1 [.ref (G.1 + 189)] σ (fi (mA [3] (anUndo A) σ)) := by
  have h14 := hv.2.2.1
  refine gw_met (by decide) (Nat.le_of_ble_eq_true rfl) (fun x C hR hT => sg_X8_undo_0 C hR hT σ ?_)
  have e0 : (if σ.1 189 10 = 0 then true else false : Bool) = (if A.2.2.2.1 = 0 then true else false : Bool) := by
    rw [h.2.2.1, gif (show nI A.2.2.2.1 = 0 ↔ A.2.2.2.1 = 0 by rw [← nI_0]; exact nI_eq (by omega) (by decide))]
  rw [e0]
  refine rfE (if A.2.2.2.1 = 0 then 1 else 0) ?_ (by split <;> decide) (fun z τ1 h1 => ?_) (fun z τ1 h1 => ?_)
  · by_cases y : A.2.2.2.1 = 0
    · rw [if_pos y, if_pos y]; rfl
    · rw [if_neg y, if_neg y]; rfl
  · have y : ¬ A.2.2.2.1 = 0 := fun y => by rw [if_pos y] at z; cases z
    have m1 := h.u0 h1
    rw [m1.2.2.1, show (1 : Int32) = nI 1 from rfl, pk_sub (by omega)]
    intro τ2 t2
    obtain ⟨u1, u2, u3⟩ := uk t2
    have e2 : τ2.1 189 10 = nI (A.2.2.2.1 - 1) := by rw [u2, pk_us]
    rw [e2, show (96 : Int32) * nI (A.2.2.2.1 - 1) = nI (96 * (A.2.2.2.1 - 1)) from pk_mul 96 _]
    refine ⟨_, k_X8_copy ia194 ia192 (c := 0) (n := 96) (by omega) (by decide) (by decide) (by decide) (fun z => absurd z (by decide)), ?_⟩
    intro τ4 t4
    have S2 : SX [192] [0, 10] σ τ2 := (uS189 h1 (by decide)).tr (uS189 t2 (by decide))
    have S4 : SX [192] [0, 10] σ τ4 := S2.tr (by rw [t4]; exact SX.r (by decide) (by decide))
    have f4 : τ4.1 189 = upd (upd (σ.1 189) 0 0) 10 (nI (A.2.2.2.1 - 1)) := by rw [t4, gw_r_ne _ _ (by decide), u2, (uk h1).2.1]
    refine mA_y (A' := (A.1, A.2.2.1 (A.2.2.2.1 - 1), A.2.2.1, A.2.2.2.1 - 1, A.2.2.2.2)) ?_ (by rw [f4, pk_un (by decide), pk_us]) ⟨h.1.sx S4 (by decide) (by decide), ?_, by rw [f4, pk_us], fun i hi => ?_, fun s hs => ⟨by rw [S4.row (by decide) (by decide)]; exact (h.2.2.2.2 s hs).1, fun U hU => by rw [S4.row (by decide) (by decide)]; exact (h.2.2.2.2 s hs).2 U hU⟩⟩ (S4.km (fun k hk => by simp at hk; omega))
    · unfold anUndo; rw [if_neg y, f4, pk_us]
    · rw [t4, gw_r_at, S2.row (k := 194) (by decide) (by decide)]
      exact RR_cong (h.2.2.2.1 _ (by omega)) (hv.2.2.2.1 _ (by omega)) (fun j hj => by rw [pk_cpy_in (by omega) (by omega), show 96 * (A.2.2.2.1 - 1) + (j - 0) = 96 * (A.2.2.2.1 - 1) + j by omega])
    · have hi : i < A.2.2.2.1 - 1 := hi
      rw [S4.row (by decide) (by decide)]; exact h.2.2.2.1 i (by omega)
  · have y : A.2.2.2.1 = 0 := by
      by_cases y : A.2.2.2.1 = 0
      · exact y
      · rw [if_neg y] at z; exact absurd rfl z
    have hF : anUndo A = (3, 0, A) := by unfold anUndo; rw [if_pos y]
    rw [if_pos y] at h1
    exact mA_no h (by rw [hF]) (by rw [hF]; exact (by decide : mp [3] 3 ≠ 0)) (by rw [hF]; exact h1)
theorem g_order (h : MI σ A) (hv : VA A) (r k : Int32) : gw_M l G yX8_order cX8_order 3 (some .int) 6 [.ref (G.1 + 189), .int r, .int k] σ (fi (mA [2] (anOrder A r k) σ)) := by
  refine gw_met (by decide) (Nat.le_of_ble_eq_true rfl) (fun x C hR hT => sg_X8_order_0 C hR hT _ _ σ ?_)
  have e1 : (if lg_cmp r.toInt64 0 < 0 then false else (if 0 < lg_cmp r.toInt64 2 then false else true : Bool) : Bool) = decide (rgI 0 2 r = 0) := rg_ref r (lo := 0) (hi := 2) (by decide) (by decide)
  rw [e1, ifd]
  have hE : gz (if rgI 0 2 r = 0 then (if k < 0 then true else false : Bool) else true) = nI (mp [2] (anOrder A r k).1) := by
    unfold anOrder
    by_cases z : rgI 0 2 r = 0
    · rw [if_pos z, if_pos z]
      by_cases y : k < 0
      · rw [if_pos y, if_neg (fun w => absurd y (Int32.not_lt.mpr w))]; rfl
      · rw [if_neg y, if_pos (Int32.not_lt.mp y)]; rfl
    · rw [if_neg z, if_neg z]; rfl
  refine rfE (mp [2] (anOrder A r k).1) hE (mp_lt _ _ (by decide)) (fun z τ1 h1 => ?_) (fun z τ1 h1 => mA_no h ?_ z h1)
  · have z' := mp_0 z
    have q : rgI 0 2 r = 0 ∧ 0 ≤ k := by
      unfold anOrder at z'
      by_cases q : rgI 0 2 r = 0
      · rw [if_pos q] at z'
        by_cases y : 0 ≤ k
        · exact ⟨q, y⟩
        · rw [if_neg y] at z'; cases z'
      · rw [if_neg q] at z'; cases z'
    obtain ⟨q1, q2⟩ := q
    obtain ⟨j, _, hj, rfl⟩ := rgI_0 (lo := 0) (hi := 2) (by decide) (by decide) q1
    obtain ⟨i, hi, rfl⟩ := nI_of (x := k) (Int32.not_lt.mpr q2)
    refine ⟨_, k_X8_tryRound (by omega) (h.u0 h1).p hv.2.1, ?_⟩
    rintro b τ3 ⟨rfl, S3, h3⟩
    have hF : anOrder A (nI j) (nI i) = (0, if agB A.2.1 = true then (if nI (rL A.2.1 j) ≤ nI i then -1 else nI (rK A.2.1 j i)) else -1, A) := by
      unfold anOrder; rw [if_pos q1, if_pos q2, nI_clamp (n := j) (by omega), nI_clamp hi]
    rw [nI_clamp hi]
    cases ha : agB A.2.1
    · rw [ha] at hF
      exact ⟨⟨fun _ => trivial, fun w => absurd rfl w⟩, mA_q h h1 S3 (by decide) (by rw [hF, if_neg (by decide), if_pos rfl])⟩
    · obtain ⟨g1, g2, g3, g4, g5⟩ := h3 ha
      have hL := (rL_480 (r := j) hv.2.1 ha).1
      rw [ha, if_pos rfl] at hF
      rw [g2, if_neg (by decide)]
      by_cases y : nI (rL A.2.1 j) ≤ nI i
      · exact ⟨⟨fun w => absurd w (by decide), fun _ => ⟨fun _ => trivial, fun w => absurd y w⟩⟩, mA_q h h1 S3 (by decide) (by rw [hF, if_pos y, if_pos y])⟩
      · have y' := y
        rw [nI_le_iff (by omega) hi] at y'
        exact ⟨⟨fun w => absurd w (by decide), fun _ => ⟨fun w => absurd w y, fun _ => ⟨vp_in_nI (by omega) (by decide), trivial⟩⟩⟩, mA_q h h1 S3 (by decide) (by rw [hF, if_neg y, if_neg y, g4 i (by omega)])⟩
  · unfold anOrder
    by_cases z : rgI 0 2 r = 0
    · rw [if_pos z]
      by_cases y : 0 ≤ k
      · rw [if_pos y]
      · rw [if_neg y]
    · rw [if_neg z]
theorem g_sticks (h : MI σ A) (hv : VA A) (r : Int32) : gw_M l G yX8_sticks cX8_sticks 2 (some .int) 6 [.ref (G.1 + 189), .int r] σ (fi (mA [2] (anSticks A r) σ)) := by
  refine gw_met (by decide) (Nat.le_of_ble_eq_true rfl) (fun x C hR hT => sg_X8_sticks_0 C hR hT _ σ ?_)
  have e1 : (if lg_cmp r.toInt64 0 < 0 then false else (if 0 < lg_cmp r.toInt64 2 then false else true : Bool) : Bool) = decide (rgI 0 2 r = 0) := rg_ref r (lo := 0) (hi := 2) (by decide) (by decide)
  rw [e1, ifd]
  refine rfE (if rgI 0 2 r = 0 then 0 else 1) ?_ (by split <;> decide) (fun z τ1 h1 => ?_) (fun z τ1 h1 => ?_)
  · by_cases y : rgI 0 2 r = 0
    · rw [if_pos y, if_pos y]; rfl
    · rw [if_neg y, if_neg y]; rfl
  · have q : rgI 0 2 r = 0 := by
      by_cases y : rgI 0 2 r = 0
      · exact y
      · rw [if_neg y] at z; cases z
    obtain ⟨j, _, hj, rfl⟩ := rgI_0 (lo := 0) (hi := 2) (by decide) (by decide) q
    refine ⟨_, k_X8_tryRound (by omega) (h.u0 h1).p hv.2.1, ?_⟩
    rintro b τ3 ⟨rfl, S3, h3⟩
    refine mA_q h h1 S3 (by decide) ?_
    unfold anSticks
    rw [if_pos q, nI_clamp (by omega)]
    cases ha : agB A.2.1
    · rfl
    · obtain ⟨g1, g2, g3, g4, g5⟩ := h3 ha
      rw [g2, g3, gif (gz_0 _)]; rfl
  · have q : ¬ rgI 0 2 r = 0 := fun y => by rw [if_pos y] at z; exact absurd rfl z
    have hF : anSticks A r = (2, 0, A) := by unfold anSticks; rw [if_neg q]
    rw [if_neg q] at h1
    exact mA_no h (by rw [hF]) (by rw [hF]; exact (by decide : mp [2] 2 ≠ 0)) (by rw [hF]; exact h1)
theorem g_holds (h : MI σ A) (hv : VA A) (w r : Int32) : gw_M l G yX8_holds cX8_holds 3 (some .int) 6 [.ref (G.1 + 189), .int w, .int r] σ (fi (mA [1, 2] (anHolds A w r) σ)) := by
  have h14 := hv.2.1.2.1
  refine gw_met (by decide) (Nat.le_of_ble_eq_true rfl) (fun x C hR hT => sg_X8_holds_0 C hR hT _ _ σ ?_)
  have er : (if lg_cmp r.toInt64 0 < 0 then false else (if 0 < lg_cmp r.toInt64 2 then false else true : Bool) : Bool) = decide (rgI 0 2 r = 0) := rg_ref r (lo := 0) (hi := 2) (by decide) (by decide)
  rw [gc1, h.p.2.1, wr_ref w hv.2.1, er, ifd, ifd]
  refine rfE (mp [1, 2] (anHolds A w r).1) ?_ (mp_lt _ _ (by decide)) (fun z τ1 h1 => ?_) (fun z τ1 h1 => mA_no h ?_ z h1)
  · unfold anHolds
    by_cases z : wrF A.2.1 w = 0
    · rw [if_pos z, if_pos z]
      by_cases y : rgI 0 2 r = 0
      · rw [if_pos y, if_pos y]; rfl
      · rw [if_neg y, if_neg y]; rfl
    · rw [if_neg z, if_neg z]; rfl
  · have q : wrF A.2.1 w = 0 ∧ rgI 0 2 r = 0 := by
      have z' := mp_0 z
      unfold anHolds at z'
      by_cases q : wrF A.2.1 w = 0
      · rw [if_pos q] at z'
        by_cases y : rgI 0 2 r = 0
        · exact ⟨q, y⟩
        · rw [if_neg y] at z'; cases z'
      · rw [if_neg q] at z'; cases z'
    obtain ⟨q1, q2⟩ := q
    obtain ⟨i, hi, rfl⟩ := wrF_0 hv.2.1 q1
    obtain ⟨j, _, hj, rfl⟩ := rgI_0 (lo := 0) (hi := 2) (by decide) (by decide) q2
    refine ⟨_, k_X8_tryRound (by omega) (h.u0 h1).p hv.2.1, ?_⟩
    rintro b τ3 ⟨rfl, S3, h3⟩
    refine ⟨⟨fun _ => trivial, fun _ => ⟨vp_in_nI (by omega) (by decide), trivial⟩⟩, mA_q h h1 S3 (by decide) ?_⟩
    unfold anHolds
    rw [if_pos q1, if_pos q2, nI_clamp (n := i) (by omega), nI_clamp (n := j) (by omega)]
    cases ha : agB A.2.1
    · rfl
    · obtain ⟨g1, g2, g3, g4, g5⟩ := h3 ha
      rw [g5 i hi]; rfl
  · unfold anHolds
    by_cases q : wrF A.2.1 w = 0
    · rw [if_pos q]
      by_cases y : rgI 0 2 r = 0
      · rw [if_pos y]
      · rw [if_neg y]
    · rw [if_neg q]
end RC
