/-! the reference's calls: questions, changes -/
section RC
variable {l : Launch} {G : gw_G} {σ : gw_S} {A : aS}
theorem g_about (h : MI σ A) (hv : VA A) (v : Int32) : gw_M l G yX8_about cX8_about 3 (some .int) 5 [.ref (G.1 + 189), .int v] σ (fi (mA [2] (anAbout A v) σ)) := by
  refine gw_met (by decide) (Nat.le_of_ble_eq_true rfl) (fun x C hR hT => sg_X8_about_0 C hR hT _ σ ?_)
  have er : (if lg_cmp v.toInt64 0 < 0 then false else (if 0 < lg_cmp v.toInt64 8 then false else true : Bool) : Bool) = decide (rgI 0 8 v = 0) := rg_ref v (lo := 0) (hi := 8) (by decide) (by decide)
  rw [er, ifd]
  refine rfE (mp [2] (anAbout A v).1) ?_ (mp_lt _ _ (by decide)) (fun z τ1 h1 => ?_) (fun z τ1 h1 => mA_no h ?_ z h1)
  · unfold anAbout
    by_cases z : rgI 0 8 v = 0
    · rw [if_pos z, if_pos z]; rfl
    · rw [if_neg z, if_neg z]; rfl
  · have q : rgI 0 8 v = 0 := by
      have z' := mp_0 z
      unfold anAbout at z'
      by_cases q : rgI 0 8 v = 0
      · exact q
      · rw [if_neg q] at z'; cases z'
    obtain ⟨j, _, hj, rfl⟩ := rgI_0 (lo := 0) (hi := 8) (by decide) (by decide) q
    have m1 := h.u0 h1
    refine ⟨_, k_X8_layWorks ia192 m1.p hv.2.1, ?_⟩
    rintro r τ3 ⟨rfl, S3, h15, hd⟩
    have m3 := m1.q S3 (by decide)
    have S3' : SX [197, 198, 199, 200, 204] [15] τ1 τ3 := S3.mono (fun k h => by simp at h; simp; omega) (fun _ h => h)
    have ok : ∀ (k : Nat) (r : Int32) (τ : gw_S), j = k → SX [197, 198, 199, 200, 204] [15] τ1 τ → r = abV A.2.1 k → mA [2] (anAbout A (nI j)) σ r τ := fun k r τ hk hS hr => by
      refine mA_q h h1 hS (by decide) ?_
      unfold anAbout; rw [if_pos q, nI_clamp (by omega), hk, hr]
    rw [nI_toInt (by omega)]
    refine ⟨fun w => ⟨_, k_X8_loopers m3.p hv.2.1, ?_⟩, fun w => ⟨vp_in_nI (by omega) (by decide), ok 0 _ _ (by omega) S3' ?_⟩, fun w => ⟨vp_in_nI (by omega) (by decide), ok 1 _ _ (by omega) S3' ?_⟩, fun w => ⟨_, k_X8_marks ia192 m3.p hv.2.1, ?_⟩, fun w => ⟨_, k_X8_works ia192 m3.p hv.2.1, ?_⟩, fun w => ok 4 _ _ (by omega) S3' ?_, fun w => ok 5 _ _ (by omega) S3' h15, fun w => ⟨fun e => ok 6 _ _ (by omega) S3' ?_, fun e => ?_⟩, fun w => ⟨_, k_X8_workers m3.p hv.2.1, ?_⟩⟩
    · rintro r τ ⟨rfl, hS⟩
      exact ok 8 _ _ (by omega) (S3'.tr (hS.mono (fun k h => by simp at h; simp; omega) (fun k h => by cases h))) rfl
    · rw [nI_clamp (by omega), show j = 0 by omega]; exact m3.p.1
    · rw [nI_clamp (by omega), show j = 1 by omega]; exact m3.p.2.1
    · rintro r τ ⟨rfl, rfl⟩; exact ok 2 _ _ (by omega) S3' rfl
    · rintro r τ ⟨rfl, rfl⟩; exact ok 3 _ _ (by omega) S3' rfl
    · rw [bI]; rfl
    · show -1 = (if agB A.2.1 = true then nI (sN (rD A.2.1) (tM A.2.1)) else -1); rw [if_neg (by rw [e]; decide)]
    · have ha : agB A.2.1 = true := by simpa using e
      refine ⟨_, k_X8_dueTogether (D := rD A.2.1) m3.p hv.2.1 (fun i hi => hd _ (rD_ok ha) i hi), ?_⟩
      rintro r τ ⟨rfl, rfl⟩
      refine ok 6 _ _ (by omega) S3' ?_
      show _ = (if agB A.2.1 = true then nI (sN (rD A.2.1) (tM A.2.1)) else -1); rw [if_pos ha]
    · rintro r τ ⟨rfl, rfl⟩; exact ok 7 _ _ (by omega) S3' rfl
  · unfold anAbout
    by_cases q : rgI 0 8 v = 0
    · rw [if_pos q]
    · rw [if_neg q]
theorem g_module (h : MI σ A) (hv : VA A) (m v : Int32) : gw_M l G yX8_module cX8_module 3 (some .int) 5 [.ref (G.1 + 189), .int m, .int v] σ (fi (mA [1, 2] (anModule A m v) σ)) := by
  have h8 := hv.2.1.1
  refine gw_met (by decide) (Nat.le_of_ble_eq_true rfl) (fun x C hR hT => sg_X8_module_0 C hR hT _ _ σ ?_)
  have er : (if lg_cmp v.toInt64 0 < 0 then false else (if 0 < lg_cmp v.toInt64 5 then false else true : Bool) : Bool) = decide (rgI 0 5 v = 0) := rg_ref v (lo := 0) (hi := 5) (by decide) (by decide)
  rw [gc0, h.p.1, md_ref m hv.2.1, er, ifd, ifd]
  refine rfE (mp [1, 2] (anModule A m v).1) ?_ (mp_lt _ _ (by decide)) (fun z τ1 h1 => ?_) (fun z τ1 h1 => mA_no h ?_ z h1)
  · unfold anModule
    by_cases z : mdF A.2.1 m = 0
    · rw [if_pos z, if_pos z]
      by_cases y : rgI 0 5 v = 0
      · rw [if_pos y, if_pos y]; rfl
      · rw [if_neg y, if_neg y]; rfl
    · rw [if_neg z, if_neg z]; rfl
  · have q : mdF A.2.1 m = 0 ∧ rgI 0 5 v = 0 := by
      have z' := mp_0 z
      unfold anModule at z'
      by_cases q : mdF A.2.1 m = 0
      · rw [if_pos q] at z'
        by_cases y : rgI 0 5 v = 0
        · exact ⟨q, y⟩
        · rw [if_neg y] at z'; cases z'
      · rw [if_neg q] at z'; cases z'
    obtain ⟨q1, q2⟩ := q
    obtain ⟨i, hi, rfl⟩ := mdF_0 hv.2.1 q1
    obtain ⟨j, _, hj, rfl⟩ := rgI_0 (lo := 0) (hi := 5) (by decide) (by decide) q2
    have m1 := h.u0 h1
    have ok : ∀ (k : Nat) (r : Int32) (τ : gw_S), j = k → SX [197, 198, 199, 200, 204] [15] τ1 τ → r = mdV A.2.1 i k → mA [1, 2] (anModule A (nI i) (nI j)) σ r τ := fun k r τ hk hS hr => by
      refine mA_q h h1 hS (by decide) ?_
      unfold anModule; rw [if_pos q1, if_pos q2, nI_clamp (by omega), nI_clamp (by omega), hk, hr]
    obtain ⟨r1, r2, r3⟩ := m1.p.2.2.1 i hi
    rw [nI_toInt (by omega), mx, nI_clamp (n := 2 + 3 * i + j) (by omega)]
    refine ⟨fun w => ⟨vp_in_nI (by omega) (by decide), ?_⟩, fun w => ⟨_, k_X8_layWorks ia192 m1.p hv.2.1, ?_⟩, fun w => ⟨_, k_X8_wiresOf (e := 1) (f := tO A.2.1) m1.p hv.2.1 (by omega) (by decide) (fun w hw => ⟨(m1.p.2.2.2 w hw).2.1, by have := (hv.2.1.2.2.2 w hw).2.1; omega⟩), ?_⟩, fun w => ⟨_, k_X8_wiresOf (e := 0) (f := tF A.2.1) m1.p hv.2.1 (by omega) (by decide) (fun w hw => ⟨(m1.p.2.2.2 w hw).1, by have := (hv.2.1.2.2.2 w hw).1; omega⟩), ?_⟩⟩
    · rcases (show j = 0 ∨ j = 1 ∨ j = 2 by omega) with y | y | y
      · exact ok 0 _ _ y SX.rf (by rw [y]; exact r1)
      · exact ok 1 _ _ y SX.rf (by rw [y]; exact r2)
      · exact ok 2 _ _ y SX.rf (by rw [y]; exact r3)
    · rintro r τ ⟨rfl, S3, h15, hd⟩
      refine ⟨⟨fun _ => trivial, fun _ => ⟨vp_in_nI (by omega) (by decide), trivial⟩⟩, ok 3 _ _ (by omega) (S3.mono (fun k h => by simp at h; simp; omega) (fun _ h => h)) ?_⟩
      show _ = (if agB A.2.1 = true then nI (rD A.2.1 i) else -1)
      cases e : agB A.2.1
      · rfl
      · rw [if_neg (by decide), if_pos rfl, nI_clamp (by omega)]; exact hd _ (rD_ok e) i hi
    · rintro r τ ⟨rfl, rfl⟩; exact ok 4 _ _ (by omega) SX.rf rfl
    · rintro r τ ⟨rfl, rfl⟩; exact ok 5 _ _ (by omega) SX.rf rfl
  · unfold anModule
    by_cases q : mdF A.2.1 m = 0
    · rw [if_pos q]
      by_cases y : rgI 0 5 v = 0
      · rw [if_pos y]
      · rw [if_neg y]
    · rw [if_neg q]
theorem g_wire (h : MI σ A) (hv : VA A) (w v : Int32) : gw_M l G yX8_wire cX8_wire 3 (some .int) 2 [.ref (G.1 + 189), .int w, .int v] σ (fi (mA [1, 2] (anWire A w v) σ)) := by
  have h14 := hv.2.1.2.1
  refine gw_met (by decide) (Nat.le_of_ble_eq_true rfl) (fun x C hR hT => sg_X8_wire_0 C hR hT _ _ σ ?_)
  have er : (if lg_cmp v.toInt64 0 < 0 then false else (if 0 < lg_cmp v.toInt64 4 then false else true : Bool) : Bool) = decide (rgI 0 4 v = 0) := rg_ref v (lo := 0) (hi := 4) (by decide) (by decide)
  rw [gc1, h.p.2.1, wr_ref w hv.2.1, er, ifd, ifd]
  have hE : (if wrF A.2.1 w = 0 then (if rgI 0 4 v = 0 then 0 else 2) else 1 : Int32) = nI (mp [1, 2] (anWire A w v).1) := by
    unfold anWire
    by_cases z : wrF A.2.1 w = 0
    · rw [if_pos z, if_pos z]
      by_cases y : rgI 0 4 v = 0
      · rw [if_pos y, if_pos y]; rfl
      · rw [if_neg y, if_neg y]; rfl
    · rw [if_neg z, if_neg z]; rfl
  rw [hE]
  intro τ1 h1
  rw [gif (le0 (mp_lt [1, 2] (anWire A w v).1 (by decide))), le0 (mp_lt [1, 2] (anWire A w v).1 (by decide))]
  by_cases z : mp [1, 2] (anWire A w v).1 = 0
  · have q : wrF A.2.1 w = 0 ∧ rgI 0 4 v = 0 := by
      have z' := mp_0 z
      unfold anWire at z'
      by_cases q : wrF A.2.1 w = 0
      · rw [if_pos q] at z'
        by_cases y : rgI 0 4 v = 0
        · exact ⟨q, y⟩
        · rw [if_neg y] at z'; cases z'
      · rw [if_neg q] at z'; cases z'
    obtain ⟨q1, q2⟩ := q
    obtain ⟨i, hi, rfl⟩ := wrF_0 hv.2.1 q1
    obtain ⟨j, _, hj, rfl⟩ := rgI_0 (lo := 0) (hi := 4) (by decide) (by decide) q2
    rw [z] at h1
    have m1 := h.u0 h1
    rw [wx, nI_clamp (by omega), if_pos z]
    refine ⟨⟨fun _ => ⟨vp_in_nI (by omega) (by decide), trivial⟩, fun _ => trivial⟩, mA_q h h1 (SX.rf (S := []) (F := [])) (by decide) ?_⟩
    unfold anWire
    rw [if_pos q1, if_pos q2, nI_clamp (by omega), nI_clamp (by omega)]
    obtain ⟨r1, r2, r3, r4, r5⟩ := m1.p.2.2.2 i hi
    have : τ1.1 192 (26 + 5 * i + j) = wrV A.2.1 i j := by
      rcases (show j = 0 ∨ j = 1 ∨ j = 2 ∨ j = 3 ∨ j = 4 by omega) with y | y | y | y | y
      · rw [y]; exact r1
      · rw [y]; exact r2
      · rw [y]; exact r3
      · rw [y]; exact r4
      · rw [y]; exact r5
    rw [this]
  · rw [if_neg z]
    refine ⟨⟨fun y => absurd y z, fun _ => trivial⟩, mA_no h ?_ z h1⟩
    unfold anWire
    by_cases q : wrF A.2.1 w = 0
    · rw [if_pos q]
      by_cases y : rgI 0 4 v = 0
      · rw [if_pos y]
      · rw [if_neg y]
    · rw [if_neg q]
theorem g_between (h : MI σ A) (hv : VA A) (a b : Int32) : gw_M l G yX8_between cX8_between 3 (some .int) 2 [.ref (G.1 + 189), .int a, .int b] σ (fi (mA [1] (anBetween A a b) σ)) := by
  have h8 := hv.2.1.1
  refine gw_met (by decide) (Nat.le_of_ble_eq_true rfl) (fun x C hR hT => sg_X8_between_0 C hR hT _ _ σ ?_)
  rw [gc0, h.p.1, md_ref a hv.2.1, md_ref b hv.2.1, ifd, ifd]
  refine rfE (mp [1] (anBetween A a b).1) ?_ (mp_lt _ _ (by decide)) (fun z τ1 h1 => ?_) (fun z τ1 h1 => mA_no h ?_ z h1)
  · unfold anBetween
    by_cases z : mdF A.2.1 a = 0
    · rw [if_pos z, if_pos z]
      by_cases y : mdF A.2.1 b = 0
      · rw [if_pos y, if_pos y]; rfl
      · rw [if_neg y, if_neg y]; rfl
    · rw [if_neg z, if_neg z]; rfl
  · have q : mdF A.2.1 a = 0 ∧ mdF A.2.1 b = 0 := by
      have z' := mp_0 z
      unfold anBetween at z'
      by_cases q : mdF A.2.1 a = 0
      · rw [if_pos q] at z'
        by_cases y : mdF A.2.1 b = 0
        · exact ⟨q, y⟩
        · rw [if_neg y] at z'; cases z'
      · rw [if_neg q] at z'; cases z'
    obtain ⟨q1, q2⟩ := q
    obtain ⟨i, hi, rfl⟩ := mdF_0 hv.2.1 q1
    obtain ⟨j, hj, rfl⟩ := mdF_0 hv.2.1 q2
    have m1 := h.u0 h1
    refine ⟨_, k_X8_layWays (B := 999) ia192 (by decide) m1.p hv.2.1 (by decide), ?_⟩
    rintro τ3 ⟨g, R, rfl, hM, hS, hC⟩
    have e8 : (8 * nI i) + nI j = nI (8 * i + j) := by rw [show (8 : Int32) = nI 8 from rfl, pk_mul, nI_add]
    have hR4 := hM i j (by omega) (by omega)
    have hFW := FW_btw hv.2.1 hS hC (a := i) (c := j) (by omega) (by omega)
    have hle := (hS i j (by omega) (by omega)).1
    have hF : FAR = 1000000 := rfl
    rw [e8, nI_clamp (by omega), gw_r_at, hR4]
    refine ⟨vp_in_nI (by omega) (by decide), mA_q h h1 (SX.r (S := [204]) (F := []) (by decide) (by decide)) (by decide) ?_⟩
    unfold anBetween
    rw [if_pos q1, if_pos q2, nI_clamp (by omega), nI_clamp (by omega), ← hFW, show (1000000 : Int32) = nI 1000000 from rfl, gif (nI_leI (by decide) (by omega))]
    by_cases y : R i j < FAR
    · rw [if_pos y, if_neg (by omega)]
    · rw [if_neg y, if_pos (by omega)]
  · unfold anBetween
    by_cases q : mdF A.2.1 a = 0
    · rw [if_pos q]
      by_cases y : mdF A.2.1 b = 0
      · rw [if_pos y]
      · rw [if_neg y]
    · rw [if_neg q]
end RC
