/-! the reference's calls: changes -/
section RC
variable {l : Launch} {G : gw_G} {σ : gw_S} {A : aS}
theorem rgif {lo hi v : Int32} (Y : Nat) : (if v < lo then 2 else if hi < v then 2 else Y) = if rgI lo hi v = 0 then Y else 2 := by
  unfold rgI
  by_cases e1 : v < lo
  · rw [if_pos e1, if_pos e1]; rfl
  · rw [if_neg e1, if_neg e1]
    by_cases e2 : v ≤ hi
    · rw [if_neg (Int32.not_lt.mpr e2), if_pos e2]; rfl
    · rw [if_pos (Int32.not_le.mp e2), if_neg e2]; rfl
theorem rgif2 {lo hi v : Int32} (Y : Nat) : (if v < lo then 2 else if v ≤ hi then Y else 2) = if rgI lo hi v = 0 then Y else 2 := by
  unfold rgI
  by_cases e1 : v < lo
  · rw [if_pos e1, if_pos e1]; rfl
  · rw [if_neg e1, if_neg e1]
    by_cases e2 : v ≤ hi
    · rw [if_pos e2, if_pos e2]; rfl
    · rw [if_neg e2, if_neg e2]; rfl
theorem iMif {T : pT} {v : Int32} (Y : Nat) : (if iM (tM T) v = false then 1 else Y) = if mdF T v = 0 then Y else 1 := by
  unfold mdF
  cases iM (tM T) v <;> rfl
theorem iWif {T : pT} {v : Int32} (Y : Nat) : (if iM (tW T) v = false then 1 else Y) = if wrF T v = 0 then Y else 1 := by
  unfold wrF
  cases iM (tW T) v <;> rfl
theorem wfM_e (T : pT) (u k : Int32) : wfM T u k = if rgI 0 3 u = 0 then (if rgI 0 3 k = 0 then (if tM T < 8 then 0 else 3) else 2) else 2 := by
  unfold wfM
  rw [rgif, rgif2]
theorem wfW_e (T : pT) (a b c v h : Int32) : wfW T a b c v h = if mdF T a = 0 then (if mdF T b = 0 then (if rgI 1 6 c = 0 then (if rgI 1 6 v = 0 then (if rgI 0 99 h = 0 then (if laysB T a.toNatClampNeg b.toNatClampNeg h.toNatClampNeg = true then 0 else 3) else 2) else 2) else 2) else 1) else 1 := by
  unfold wfW
  rw [iMif, iMif, rgif, rgif, rgif2]
theorem wfH_e (T : pT) (w h : Int32) : wfH T w h = if wrF T w = 0 then (if rgI 0 99 h = 0 then (if putsB T w.toNatClampNeg h.toNatClampNeg = true then 0 else 3) else 2) else 1 := by
  unfold wfH
  rw [iWif, rgif2]
theorem wfF_e (T : pT) (m : Int32) : wfF T m = if mdF T m = 0 then (if canB T m.toNatClampNeg = true then 0 else 3) else 1 := by
  unfold wfF
  rw [iMif]
theorem band {p q : Prop} [Decidable p] [Decidable q] : (if decide p = false then false else (if decide q = false then false else true : Bool) : Bool) = decide (p ∧ q) := by
  by_cases h1 : p <;> by_cases h2 : q <;> simp [h1, h2]
theorem band2 {p q : Prop} [Decidable p] [Decidable q] : (if decide p = false then false else decide q : Bool) = decide (p ∧ q) := by
  by_cases h1 : p <;> by_cases h2 : q <;> simp [h1, h2]
theorem an_1 {w : Nat} {x : Int32} {B A : aS} : (if w = 0 then ((0, x, B) : aF) else (w, 0, A)).1 = w := by
  by_cases h : w = 0
  · rw [if_pos h]; exact h.symm
  · rw [if_neg h]
theorem an_2 {w : Nat} {x : Int32} {B A : aS} (h : w ≠ 0) : (if w = 0 then ((0, x, B) : aF) else (w, 0, A)).2.2 = A := by rw [if_neg h]
/-- only the plan is other -/
theorem MI.row {B : aS} {τ : gw_S} {T' : pT} (h : MI σ B) (hS : SR 192 σ τ T') : MI τ (B.1, T', B.2.2) := by
  obtain ⟨f, rfl, hf⟩ := hS
  obtain ⟨m1, m2, m3, m4, m5⟩ := h
  have hS : SX [192] [] σ (gw_r σ 192 f) := SX.r (by decide) (by decide)
  exact ⟨m1.sx hS (by decide) (by decide), by rw [gw_r_at]; exact hf, by rw [hS.2.2 10 (by decide)]; exact m3, fun i hi => by rw [hS.row (by decide) (by decide)]; exact m4 i hi, fun s hs => ⟨by rw [hS.row (by decide) (by decide)]; exact (m5 s hs).1, fun U hU => by rw [hS.row (by decide) (by decide)]; exact (m5 s hs).2 U hU⟩⟩
theorem SR.sx {τ : gw_S} {T' : pT} (hS : SR 192 σ τ T') : SX [192, 194] [0, 10] σ τ := by
  obtain ⟨f, rfl, hf⟩ := hS
  exact SX.r (by decide) (by decide)
theorem SR.p {τ : gw_S} {T' : pT} (hS : SR 192 σ τ T') : RR (τ.1 192) T' := by
  obtain ⟨f, rfl, hf⟩ := hS
  rw [gw_r_at]; exact hf
/-- the end of a change: behind the refusal (τ1), what is remembered (τ3), the change of the row (τ5) -/
theorem mA_c {F : aF} {L : List Nat} {τ1 τ3 τ5 : gw_S} {r : Int32} {T' : pT} (ht : τ1 = gw_u σ 189 0 0) (m3 : MI τ3 (aRem A A.2.1)) (S3 : SX [194] [10] τ1 τ3) (S5 : SR 192 τ3 τ5 T') (hF : F = (0, r, aRem A T')) : mA L F σ r τ5 := by
  have S : SX [192, 194] [0, 10] σ τ5 := ((uS189 ht (by decide)).tr (S3.mono (fun k h => by simp at h; simp [h]) (fun k h => by simp at h; simp [h]))).tr S5.sx
  refine mA_y hF ?_ (m3.row S5) (S.km (fun k hk => by simp at hk; omega))
  obtain ⟨f, rfl, hf⟩ := S5
  rw [gw_r_ne _ _ (by decide), S3.2.2 0 (by decide), (uk ht).2.1, pk_us]
theorem g_addModule (h : MI σ A) (hv : VA A) (u k : Int32) : gw_M l G yX8_addModule cX8_addModule 4 (some .int) 2 [.ref (G.1 + 189), .int u, .int k] σ (fi (mA [2, 3] (anAdd A u k) σ)) := by
  have h8 := hv.2.1.1
  refine gw_met (by decide) (Nat.le_of_ble_eq_true rfl) (fun x C hR hT => sg_X8_addModule_0 C hR hT _ _ σ ?_)
  have e1 : (if lg_cmp u.toInt64 0 < 0 then false else (if 0 < lg_cmp u.toInt64 3 then false else true : Bool) : Bool) = decide (rgI 0 3 u = 0) := rg_ref u (lo := 0) (hi := 3) (by decide) (by decide)
  have e2 : (if lg_cmp k.toInt64 0 < 0 then false else (if 0 < lg_cmp k.toInt64 3 then false else true : Bool) : Bool) = decide (rgI 0 3 k = 0) := rg_ref k (lo := 0) (hi := 3) (by decide) (by decide)
  rw [gc0, h.p.1, e1, e2, band, ifd]
  have hw := wfM_e A.2.1 u k
  have hA1 : (anAdd A u k).1 = wfM A.2.1 u k := an_1
  refine rfE (mp [2, 3] (anAdd A u k).1) ?_ (mp_lt _ _ (by decide)) (fun z τ1 h1 => ?_) (fun z τ1 h1 => mA_no h (an_2 (fun y => z (by rw [hA1, y]; rfl))) z h1)
  · rw [hA1, hw]
    by_cases y1 : rgI 0 3 u = 0
    · by_cases y2 : rgI 0 3 k = 0
      · rw [if_pos ⟨y1, y2⟩, if_pos y1, if_pos y2, show (8 : Int32) = nI 8 from rfl, gif (nI_eq (by omega) (by decide))]
        by_cases y3 : tM A.2.1 < 8
        · rw [if_pos y3, if_neg (by omega)]; rfl
        · rw [if_neg y3, if_pos (by omega)]; rfl
      · rw [if_neg (fun w => y2 w.2), if_pos y1, if_neg y2]; rfl
    · rw [if_neg (fun w => y1 w.1), if_neg y1]; rfl
  · have z' := mp_0 z
    rw [hA1] at z'
    have q : rgI 0 3 u = 0 ∧ rgI 0 3 k = 0 ∧ tM A.2.1 < 8 := by
      rw [hw] at z'
      by_cases y1 : rgI 0 3 u = 0
      · rw [if_pos y1] at z'
        by_cases y2 : rgI 0 3 k = 0
        · rw [if_pos y2] at z'
          by_cases y3 : tM A.2.1 < 8
          · exact ⟨y1, y2, y3⟩
          · rw [if_neg y3] at z'; cases z'
        · rw [if_neg y2] at z'; cases z'
      · rw [if_neg y1] at z'; cases z'
    obtain ⟨q1, q2, q3⟩ := q
    obtain ⟨i, _, hi, rfl⟩ := rgI_0 (lo := 0) (hi := 3) (by decide) (by decide) q1
    obtain ⟨j, _, hj, rfl⟩ := rgI_0 (lo := 0) (hi := 3) (by decide) (by decide) q2
    refine ⟨_, k_X8_remember (h.u0 h1) hv, ?_⟩
    rintro τ3 ⟨m3, S3⟩
    refine ⟨_, k_X8_add ia192 m3.p hv.2.1 q3, ?_⟩
    intro τ5 S5
    refine mA_c h1 m3 S3 S5 ?_
    unfold anAdd
    rw [if_pos z', nI_clamp (by omega), nI_clamp (by omega), S5.p.1]
    show (0, nI (tM A.2.1), aRem A (oAdd A.2.1 i j)) = (0, nI (tM A.2.1 + 1) - 1, aRem A (oAdd A.2.1 i j))
    rw [nI_pred]
theorem g_lay (h : MI σ A) (hv : VA A) (a b c v g : Int32) : gw_M l G yX8_lay cX8_lay 8 (some .int) 4 [.ref (G.1 + 189), .int a, .int b, .int c, .int v, .int g] σ (fi (mA [1, 2, 3] (anLay A a b c v g) σ)) := by
  have h8 := hv.2.1.1
  have h14 := hv.2.1.2.1
  refine gw_met (by decide) (Nat.le_of_ble_eq_true rfl) (fun x C hR hT => sg_X8_lay_0 C hR hT _ _ _ _ _ σ ?_)
  have e1 : (if lg_cmp c.toInt64 1 < 0 then false else (if 0 < lg_cmp c.toInt64 6 then false else true : Bool) : Bool) = decide (rgI 1 6 c = 0) := rg_ref c (lo := 1) (hi := 6) (by decide) (by decide)
  have e2 : (if lg_cmp v.toInt64 1 < 0 then false else (if 0 < lg_cmp v.toInt64 6 then false else true : Bool) : Bool) = decide (rgI 1 6 v = 0) := rg_ref v (lo := 1) (hi := 6) (by decide) (by decide)
  have e3 : (if lg_cmp g.toInt64 0 < 0 then false else (if 0 < lg_cmp g.toInt64 99 then false else true : Bool) : Bool) = decide (rgI 0 99 g = 0) := rg_ref g (lo := 0) (hi := 99) (by decide) (by decide)
  rw [gc0, h.p.1, md_ref a hv.2.1, md_ref b hv.2.1, e1, e2, e3, band, band, band2]
  have hw := wfW_e A.2.1 a b c v g
  have hA1 : (anLay A a b c v g).1 = wfW A.2.1 a b c v g := an_1
  have no : ∀ {τ0 τ : gw_S} (e : Nat), KM σ τ0 → MI τ0 A → wfW A.2.1 a b c v g = e → e ≠ 0 → τ = gw_u τ0 189 0 (nI (mp [1, 2, 3] e)) → mA [1, 2, 3] (anLay A a b c v g) σ 0 τ := fun {τ0 τ} e k0 m0 he h0 ht => by
    refine mA_tr k0 (mA_no m0 (an_2 (by rw [he]; exact h0)) ?_ (by rw [hA1, he]; exact ht))
    rw [hA1, he]
    exact fun y => h0 (mp_0 y)
  refine ⟨fun y1 => ⟨fun y2 => ?_, fun y2 => ?_⟩, fun y1 => ?_⟩
  · have y1' : mdF A.2.1 a = 0 ∧ mdF A.2.1 b = 0 := by
      by_cases w : mdF A.2.1 a = 0 ∧ mdF A.2.1 b = 0
      · exact w
      · exact absurd (dcf w) y1
    have y2' : rgI 1 6 c = 0 ∧ rgI 1 6 v = 0 ∧ rgI 0 99 g = 0 := by
      by_cases w : rgI 1 6 c = 0 ∧ rgI 1 6 v = 0 ∧ rgI 0 99 g = 0
      · exact w
      · exact absurd (dcf w) y2
    obtain ⟨q1, q2⟩ := y1'
    obtain ⟨q3, q4, q5⟩ := y2'
    rw [if_pos q1, if_pos q2, if_pos q3, if_pos q4, if_pos q5] at hw
    obtain ⟨a', ha, rfl⟩ := mdF_0 hv.2.1 q1
    obtain ⟨b', hb, rfl⟩ := mdF_0 hv.2.1 q2
    obtain ⟨c', hc1, hc, rfl⟩ := rgI_0 (lo := 1) (hi := 6) (by decide) (by decide) q3
    obtain ⟨v', hv1, hv', rfl⟩ := rgI_0 (lo := 1) (hi := 6) (by decide) (by decide) q4
    obtain ⟨g', _, hg, rfl⟩ := rgI_0 (lo := 0) (hi := 99) (by decide) (by decide) q5
    rw [nI_clamp (by omega), nI_clamp (by omega), nI_clamp (by omega)] at hw
    refine ⟨_, k_X8_canLay ia192 (by decide) h.p hv.2.1 ha hb (by omega), ?_⟩
    rintro r τ2 ⟨rfl, S2⟩
    have m2 := h.q S2 (by decide)
    have k2 : KM σ τ2 := KM.q S2 (by decide)
    cases hL : laysB A.2.1 a' b' g'
    · rw [hL, if_neg (by decide)] at hw
      refine rfE (mp [1, 2, 3] 3) rfl (by decide) (fun z τ4 h4 => absurd z (by decide)) (fun z τ4 h4 => no 3 k2 m2 hw (by decide) h4)
    · rw [hL, if_pos rfl] at hw
      obtain ⟨_, _, _, _, _, -, -, -, -, -, -, -, -, -, -, -, -, -, hW14⟩ := wfW_0 hv.2.1 hw
      refine rfE 0 rfl (by decide) (fun z τ4 h4 => ?_) (fun z τ4 h4 => absurd rfl z)
      refine ⟨_, k_X8_remember (m2.u0 h4) hv, ?_⟩
      rintro τ6 ⟨m6, S6⟩
      refine ⟨_, k_X8_layIn ia192 m6.p hv.2.1 hW14, ?_⟩
      intro τ8 S8
      refine mA_tr k2 (mA_c h4 m6 S6 S8 ?_)
      unfold anLay
      rw [if_pos hw, nI_clamp (by omega), nI_clamp (by omega), nI_clamp (by omega), nI_clamp (by omega), nI_clamp (by omega), gc1, S8.p.2.1]
      show (0, nI (tW A.2.1), aRem A (oLay A.2.1 a' b' c' v' g')) = (0, nI (tW A.2.1 + 1) - 1, aRem A (oLay A.2.1 a' b' c' v' g'))
      rw [nI_pred]
  · have y1' : mdF A.2.1 a = 0 ∧ mdF A.2.1 b = 0 := by
      by_cases w : mdF A.2.1 a = 0 ∧ mdF A.2.1 b = 0
      · exact w
      · exact absurd (dcf w) y1
    have y2' : ¬ (rgI 1 6 c = 0 ∧ rgI 1 6 v = 0 ∧ rgI 0 99 g = 0) := of_decide_eq_false y2
    rw [if_pos y1'.1, if_pos y1'.2] at hw
    have hw2 : wfW A.2.1 a b c v g = 2 := by
      rw [hw]
      by_cases w1 : rgI 1 6 c = 0
      · rw [if_pos w1]
        by_cases w2 : rgI 1 6 v = 0
        · rw [if_pos w2, if_neg (fun w3 => y2' ⟨w1, w2, w3⟩)]
        · rw [if_neg w2]
      · rw [if_neg w1]
    exact rfE (mp [1, 2, 3] 2) rfl (by decide) (fun z τ4 h4 => absurd z (by decide)) (fun z τ4 h4 => no 2 KM.rf h hw2 (by decide) h4)
  · have y1' : ¬ (mdF A.2.1 a = 0 ∧ mdF A.2.1 b = 0) := of_decide_eq_false y1
    have hw1 : wfW A.2.1 a b c v g = 1 := by
      rw [hw]
      by_cases w1 : mdF A.2.1 a = 0
      · rw [if_pos w1, if_neg (fun w2 => y1' ⟨w1, w2⟩)]
      · rw [if_neg w1]
    exact rfE (mp [1, 2, 3] 1) rfl (by decide) (fun z τ4 h4 => absurd z (by decide)) (fun z τ4 h4 => no 1 KM.rf h hw1 (by decide) h4)
theorem g_cut (h : MI σ A) (hv : VA A) (w : Int32) : gw_M l G yX8_cut cX8_cut 3 (some .int) 2 [.ref (G.1 + 189), .int w] σ (fi (mA [1] (anCut A w) σ)) := by
  have h14 := hv.2.1.2.1
  refine gw_met (by decide) (Nat.le_of_ble_eq_true rfl) (fun x C hR hT => sg_X8_cut_0 C hR hT _ σ ?_)
  rw [gc1, h.p.2.1, wr_ref w hv.2.1, ifd]
  refine rfE (mp [1] (anCut A w).1) ?_ (mp_lt _ _ (by decide)) (fun z τ1 h1 => ?_) (fun z τ1 h1 => mA_no h ?_ z h1)
  · unfold anCut
    by_cases z : wrF A.2.1 w = 0
    · rw [if_pos z, if_pos z]; rfl
    · rw [if_neg z, if_neg z]; rfl
  · have q : wrF A.2.1 w = 0 := by
      have z' := mp_0 z
      unfold anCut at z'
      by_cases q : wrF A.2.1 w = 0
      · exact q
      · rw [if_neg q] at z'; cases z'
    obtain ⟨i, hi, rfl⟩ := wrF_0 hv.2.1 q
    refine ⟨_, k_X8_remember (h.u0 h1) hv, ?_⟩
    rintro τ3 ⟨m3, S3⟩
    rw [wc4 (by omega)]
    refine ⟨wv4 (by omega), _, k_X8_cutIn ia192 m3.p hv.2.1 hi, ?_⟩
    intro τ6 S6
    refine mA_c h1 m3 S3 S6 ?_
    unfold anCut
    rw [if_pos q, nI_clamp (by omega), (m3.p.2.2.2 i hi).2.2.2.2]
    rfl
  · unfold anCut
    by_cases q : wrF A.2.1 w = 0
    · exact absurd (by unfold anCut; rw [if_pos q]; rfl) z
    · rw [if_neg q]
theorem g_put (h : MI σ A) (hv : VA A) (w v : Int32) : gw_M l G yX8_put cX8_put 4 (some .int) 4 [.ref (G.1 + 189), .int w, .int v] σ (fi (mA [1, 2, 3] (anPut A w v) σ)) := by
  have h14 := hv.2.1.2.1
  refine gw_met (by decide) (Nat.le_of_ble_eq_true rfl) (fun x C hR hT => sg_X8_put_0 C hR hT _ _ σ ?_)
  have e1 : (if lg_cmp v.toInt64 0 < 0 then false else (if 0 < lg_cmp v.toInt64 99 then false else true : Bool) : Bool) = decide (rgI 0 99 v = 0) := rg_ref v (lo := 0) (hi := 99) (by decide) (by decide)
  rw [gc1, h.p.2.1, wr_ref w hv.2.1, e1]
  have hw := wfH_e A.2.1 w v
  have hA1 : (anPut A w v).1 = wfH A.2.1 w v := an_1
  have no : ∀ {τ0 τ : gw_S} (e : Nat), KM σ τ0 → MI τ0 A → wfH A.2.1 w v = e → e ≠ 0 → τ = gw_u τ0 189 0 (nI (mp [1, 2, 3] e)) → mA [1, 2, 3] (anPut A w v) σ 0 τ := fun {τ0 τ} e k0 m0 he h0 ht => by
    refine mA_tr k0 (mA_no m0 (an_2 (by rw [he]; exact h0)) ?_ (by rw [hA1, he]; exact ht))
    rw [hA1, he]
    exact fun y => h0 (mp_0 y)
  refine ⟨fun y1 => ⟨fun y2 => ?_, fun y2 => ?_⟩, fun y1 => ?_⟩
  · have q1 : wrF A.2.1 w = 0 := by
      by_cases q : wrF A.2.1 w = 0
      · exact q
      · exact absurd (dcf q) y1
    have q2 : rgI 0 99 v = 0 := by
      by_cases q : rgI 0 99 v = 0
      · exact q
      · exact absurd (dcf q) y2
    rw [if_pos q1, if_pos q2] at hw
    obtain ⟨i, hi, rfl⟩ := wrF_0 hv.2.1 q1
    obtain ⟨j, _, hj, rfl⟩ := rgI_0 (lo := 0) (hi := 99) (by decide) (by decide) q2
    rw [nI_clamp (by omega), nI_clamp (by omega)] at hw
    refine ⟨_, k_X8_canPut ia192 (by decide) h.p hv.2.1 hi (by omega), ?_⟩
    rintro r τ2 ⟨rfl, S2⟩
    have m2 := h.q S2 (by decide)
    have k2 : KM σ τ2 := KM.q S2 (by decide)
    cases hL : putsB A.2.1 i j
    · rw [hL, if_neg (by decide)] at hw
      refine rfE (mp [1, 2, 3] 3) rfl (by decide) (fun z τ4 h4 => absurd z (by decide)) (fun z τ4 h4 => no 3 k2 m2 hw (by decide) h4)
    · rw [hL, if_pos rfl] at hw
      refine rfE 0 rfl (by decide) (fun z τ4 h4 => ?_) (fun z τ4 h4 => absurd rfl z)
      refine ⟨_, k_X8_remember (m2.u0 h4) hv, ?_⟩
      rintro τ6 ⟨m6, S6⟩
      rw [wc4 (by omega)]
      refine ⟨wv4 (by omega), ?_⟩
      intro τ8 h8
      have S8 : SR 192 τ6 τ8 (oPut A.2.1 i j) := ⟨_, h8, RR_put (T := A.2.1) m6.p hv.2.1⟩
      refine mA_tr k2 (mA_c h4 m6 S6 S8 ?_)
      unfold anPut
      rw [if_pos hw, nI_clamp (by omega), nI_clamp (by omega), (m6.p.2.2.2 i hi).2.2.2.2]
      rfl
  · have q1 : wrF A.2.1 w = 0 := by
      by_cases q : wrF A.2.1 w = 0
      · exact q
      · exact absurd (dcf q) y1
    rw [if_pos q1, if_neg (of_decide_eq_false y2)] at hw
    exact rfE (mp [1, 2, 3] 2) rfl (by decide) (fun z τ4 h4 => absurd z (by decide)) (fun z τ4 h4 => no 2 KM.rf h hw (by decide) h4)
  · rw [if_neg (of_decide_eq_false y1)] at hw
    exact rfE (mp [1, 2, 3] 1) rfl (by decide) (fun z τ4 h4 => absurd z (by decide)) (fun z τ4 h4 => no 1 KM.rf h hw (by decide) h4)
theorem g_work (h : MI σ A) (hv : VA A) (m : Int32) : gw_M l G yX8_work cX8_work 2 (some .int) 2 [.ref (G.1 + 189), .int m] σ (fi (mA [1, 3] (anWork A m) σ)) := by
  have h8 := hv.2.1.1
  refine gw_met (by decide) (Nat.le_of_ble_eq_true rfl) (fun x C hR hT => sg_X8_work_0 C hR hT _ σ ?_)
  rw [gc0, h.p.1, md_ref m hv.2.1]
  have hw := wfF_e A.2.1 m
  have hA1 : (anWork A m).1 = wfF A.2.1 m := an_1
  have no : ∀ {τ0 τ : gw_S} (e : Nat), KM σ τ0 → MI τ0 A → wfF A.2.1 m = e → e ≠ 0 → τ = gw_u τ0 189 0 (nI (mp [1, 3] e)) → mA [1, 3] (anWork A m) σ 0 τ := fun {τ0 τ} e k0 m0 he h0 ht => by
    refine mA_tr k0 (mA_no m0 (an_2 (by rw [he]; exact h0)) ?_ (by rw [hA1, he]; exact ht))
    rw [hA1, he]
    exact fun y => h0 (mp_0 y)
  refine ⟨fun y1 => ?_, fun y1 => ?_⟩
  · have q1 : mdF A.2.1 m = 0 := by
      by_cases q : mdF A.2.1 m = 0
      · exact q
      · exact absurd (dcf q) y1
    rw [if_pos q1] at hw
    obtain ⟨i, hi, rfl⟩ := mdF_0 hv.2.1 q1
    rw [nI_clamp (by omega)] at hw
    refine ⟨_, k_X8_canWork ia192 h.p hv.2.1 (by omega), ?_⟩
    rintro r τ2 ⟨rfl, rfl⟩
    cases hL : canB A.2.1 i
    · rw [hL, if_neg (by decide)] at hw
      refine rfE (mp [1, 3] 3) rfl (by decide) (fun z τ4 h4 => absurd z (by decide)) (fun z τ4 h4 => no 3 KM.rf h hw (by decide) h4)
    · rw [hL, if_pos rfl] at hw
      have hc : canW A.2.1 i := (canB_iff _ _).mp hL
      refine rfE 0 rfl (by decide) (fun z τ4 h4 => ?_) (fun z τ4 h4 => absurd rfl z)
      refine ⟨_, k_X8_remember (h.u0 h4) hv, ?_⟩
      rintro τ6 ⟨m6, S6⟩
      refine ⟨_, k_X8_workIn ia192 m6.p hv.2.1 hi hc, ?_⟩
      intro τ8 S8
      refine ⟨_, k_X8_marks ia192 S8.p (VT_work hv.2.1 hc), ?_⟩
      rintro r τ10 ⟨rfl, rfl⟩
      refine mA_c h4 m6 S6 S8 ?_
      unfold anWork
      rw [if_pos hw, nI_clamp (by omega)]
      rfl
  · rw [if_neg (of_decide_eq_false y1)] at hw
    exact rfE (mp [1, 3] 1) rfl (by decide) (fun z τ4 h4 => absurd z (by decide)) (fun z τ4 h4 => no 1 KM.rf h hw (by decide) h4)
end RC
