/-! the reference reads a text: commands and the whole -/
/-- what a command leaves -/
def RCm (X : xT) (i : Nat) (s : pT × Nat) (σ τ : gw_S) : Prop := SX [191, 204] [3, 4, 5] σ τ ∧ ∃ g p, gP τ g p ∧ ((g = true ∧ cmdE X i = none ∧ p = i + (1 + dg (tAt X i)) ∧ RR (τ.1 191) (obey X i s).1 ∧ τ.1 189 5 = nI (obey X i s).2) ∨ (g = false ∧ cmdE X i = some p))
theorem sx34 {σ τ : gw_S} (h : SX [] [3, 4] σ τ) : SX [191, 204] [3, 4, 5] σ τ := h.mono (fun k h => by cases h) (fun k h => by simp at h; simp; omega)
theorem sx5 {σ τ : gw_S} (h : SX [] [5] σ τ) : SX [191, 204] [3, 4, 5] σ τ := h.mono (fun k h => by cases h) (fun k h => by simp at h; simp; omega)
theorem sx204 {σ τ : gw_S} (h : SX [204] [] σ τ) : SX [191, 204] [3, 4, 5] σ τ := h.mono (fun k h => by simp at h; simp; omega) (fun k h => by cases h)
theorem sx191 {σ : gw_S} {f : Nat → Int32} : SX [191, 204] [3, 4, 5] σ (gw_r σ 191 f) := SX.r (by decide) (by decide)
section RT
variable {l : Launch} {G : gw_G} {σ : gw_S} {X : xT} {T : pT}
theorem ia191 : gw_ia 191 96 := gk_191
theorem RDs_0 (X : xT) (i : Nat) : RDs X i 1 true (i + 1) := Or.inl ⟨rfl, rfl, fun j a b => by omega⟩
theorem k_X8_readModule {i q : Nat} (hx : xRf σ X) (hX : xV X) (hg : gP σ true i) (hi : i < X.1) (hc : tAt X i = 109) (hp : RR (σ.1 191) T) (hv : VT T) (h5 : σ.1 189 5 = nI q) : gw_M l G yX8_readModule cX8_readModule 3 none 2 [.ref (G.1 + 189)] σ (fv (fun τ => RCm X i (T, q) σ τ)) := by
  have h8 := hv.1
  refine gw_met (by decide) (Nat.le_of_ble_eq_true rfl) (fun x C hR hT => sg_X8_readModule_0 C hR hT σ ⟨_, k_X8_accept (v := true) hg, ?_⟩)
  rintro τ2 ⟨g2, S2⟩
  have r2 := RDs_0 X i
  refine ⟨_, k_X8_digitS (lo := 0) (hi := 3) (hx.sx S2 (by decide) (by decide)) hX g2 r2 hi (by decide) (by decide) (by decide) (by rw [hc]; rfl) (fun _ => by rw [hc]; rfl), ?_⟩
  rintro d1 τ4 ⟨ga, pa, ga1, ra, ga2, ga3, Sa⟩
  refine ⟨_, k_X8_digitS (lo := 0) (hi := 3) ((hx.sx S2 (by decide) (by decide)).sx Sa (by decide) (by decide)) hX ga1 ra hi (by decide) (by decide) (by decide) (by rw [hc]; rfl) (fun _ => by rw [hc]; rfl), ?_⟩
  rintro d2 τ7 ⟨gb, pb, gb1, rb, gb2, gb3, Sb⟩
  have S7 : SX [] [3, 4] σ τ7 := (S2.tr Sa).tr Sb
  have hrow : τ7.1 191 = σ.1 191 := S7.row (by decide) (by decide)
  have he : gz (if (8 : Int32) ≤ τ7.1 191 ((0 : Int32).toNatClampNeg) then false else true : Bool) = gz (decide (tM T < 8)) := by
    rw [hrow, gc0, hp.1, show (8 : Int32) = nI 8 from rfl, gif (nI_leI (by omega) (by omega))]
    by_cases z : tM T < 8
    · rw [if_neg (by omega), decide_eq_true z]
    · rw [if_pos (by omega), decide_eq_false z]
  rw [he]
  refine ⟨_, k_X8_goes (v := decide (tM T < 8)) gb1.1 (by rw [S7.2.2 5 (by decide)]; exact h5), ?_⟩
  rintro b τ10 ⟨rfl, h10, S10⟩
  have S10' := (sx34 S7).tr (sx5 S10)
  have g10 : gP τ10 gb pb := ⟨by rw [S10.2.2 4 (by decide)]; exact gb1.1, by rw [S10.2.2 3 (by decide)]; exact gb1.2⟩
  have hrow10 : τ10.1 191 = σ.1 191 := by rw [S10.row (by decide) (by decide), hrow]
  have hdg : dg (tAt X i) = 2 := by rw [hc]; rfl
  obtain ⟨e1, e2⟩ := RDs_end (by rw [hdg]; exact rb) (by rw [hdg]; decide)
  refine ⟨fun z => ⟨S10', gb, pb, g10, ?_⟩, fun z => ?_⟩
  · cases hb : gb
    · exact Or.inr ⟨rfl, e2 hb⟩
    · rw [hb, Bool.true_and] at z
      have z' : ¬ tM T < 8 := by simpa using z
      obtain ⟨k1, k2⟩ := e1 hb
      refine Or.inl ⟨rfl, k1, k2, ?_, ?_⟩
      · unfold obey oTM
        rw [if_pos hc, if_neg z', hrow10]; exact hp
      · rw [h10, if_pos ⟨hb, z⟩]
        unfold obey
        rw [if_pos hc, if_neg z']
  · have z1 : gb = true ∧ tM T < 8 := by
      cases hb : gb
      · rw [hb] at z; exact absurd rfl z
      · rw [hb, Bool.true_and] at z; exact ⟨rfl, by simpa using z⟩
    obtain ⟨k1, k2⟩ := e1 z1.1
    obtain ⟨y1, y2, y3⟩ := gb2 z1.1
    obtain ⟨y4, y5, y6⟩ := ga2 y1
    rw [y2, y5]
    refine ⟨_, k_X8_add ia191 (by rw [hrow10]; exact hp) hv z1.2, ?_⟩
    rintro τ13 ⟨f, rfl, hf⟩
    refine ⟨S10'.tr sx191, gb, pb, ⟨by rw [gw_r_ne _ _ (by decide)]; exact g10.1, by rw [gw_r_ne _ _ (by decide)]; exact g10.2⟩, Or.inl ⟨z1.1, k1, k2, ?_, ?_⟩⟩
    · unfold obey oTM
      rw [if_pos hc, if_pos z1.2, gw_r_at]; exact hf
    · rw [gw_r_ne _ _ (by decide), h10, if_neg (fun w => by have := decide_eq_false_iff_not.mp w.2; exact this z1.2)]
      unfold obey
      rw [if_pos hc, if_pos z1.2]
theorem k_X8_readCut {i q : Nat} (hx : xRf σ X) (hX : xV X) (hg : gP σ true i) (hi : i < X.1) (hc : tAt X i = 99) (hp : RR (σ.1 191) T) (hv : VT T) (h5 : σ.1 189 5 = nI q) : gw_M l G yX8_readCut cX8_readCut 3 none 2 [.ref (G.1 + 189)] σ (fv (fun τ => RCm X i (T, q) σ τ)) := by
  have h14 := hv.2.1
  refine gw_met (by decide) (Nat.le_of_ble_eq_true rfl) (fun x C hR hT => sg_X8_readCut_0 C hR hT σ ⟨_, k_X8_accept (v := true) hg, ?_⟩)
  rintro τ2 ⟨g2, S2⟩
  have r2 := RDs_0 X i
  refine ⟨_, k_X8_digitS (lo := 0) (hi := 1) (hx.sx S2 (by decide) (by decide)) hX g2 r2 hi (by decide) (by decide) (by decide) (by rw [hc]; rfl) (fun _ => by rw [hc]; rfl), ?_⟩
  rintro d1 τ4 ⟨ga, pa, ga1, ra, ga2, ga3, Sa⟩
  have hd1 : ∃ n1, d1 = nI n1 ∧ n1 ≤ 1 ∧ (ga = true → n1 = tAt X (i + 1) - 48 ∧ 48 ≤ tAt X (i + 1)) := by
    cases hb : ga
    · exact ⟨0, ga3 hb, by decide, fun z => by cases z⟩
    · obtain ⟨y1, y2, y3⟩ := ga2 hb
      have := (okd_i y3).2.2
      rw [hc, show hiC 99 1 (tAt X (i + 1 - 1)) = 49 from rfl] at this
      exact ⟨_, y2, by omega, fun _ => ⟨rfl, (okd_d y3).1⟩⟩
  obtain ⟨n1, rfl, hn1, hn2⟩ := hd1
  have ehi : (if nI n1 = 1 then 3 else 9 : Int32) = nI (if n1 = 1 then 3 else 9) := by
    rw [show (1 : Int32) = nI 1 from rfl, gif (nI_eq (by omega) (by omega))]; split <;> rfl
  rw [ehi]
  refine ⟨_, k_X8_digitS (lo := 0) (hi := if n1 = 1 then 3 else 9) ((hx.sx S2 (by decide) (by decide)).sx Sa (by decide) (by decide)) hX ga1 ra hi (by decide) (by decide) (by split <;> decide) (by rw [hc]; rfl) (fun hb => ?_), ?_⟩
  · obtain ⟨w1, w2⟩ := hn2 hb
    rw [hc, show i + (1 + 1) - 1 = i + 1 by omega, show hiC 99 (1 + 1) (tAt X (i + 1)) = (if tAt X (i + 1) = 48 then 57 else 51) from rfl]
    by_cases z : tAt X (i + 1) = 48
    · rw [if_pos z, if_neg (by omega)]
    · rw [if_neg z, if_pos (by omega)]
  rintro d2 τ7 ⟨gb, pb, gb1, rb, gb2, gb3, Sb⟩
  have hd2 : ∃ n2, d2 = nI n2 ∧ n2 ≤ 9 ∧ (gb = true → n2 = tAt X (i + 2) - 48) := by
    cases hb : gb
    · exact ⟨0, gb3 hb, by decide, fun z => by cases z⟩
    · obtain ⟨y1, y2, y3⟩ := gb2 hb
      have := (okd_d y3).2
      have e : tAt X (i + (1 + 1)) = tAt X (i + 2) := rfl
      exact ⟨_, y2, by omega, fun _ => rfl⟩
  obtain ⟨n2, rfl, hn3, hn4⟩ := hd2
  have S7 : SX [] [3, 4] σ τ7 := (S2.tr Sa).tr Sb
  have hrow : τ7.1 191 = σ.1 191 := S7.row (by decide) (by decide)
  have ew : (10 * nI n1) + nI n2 = nI (10 * n1 + n2) := by rw [show (10 : Int32) = nI 10 from rfl, pk_mul, nI_add]
  rw [ew]
  have he : gz (if τ7.1 191 ((1 : Int32).toNatClampNeg) ≤ nI (10 * n1 + n2) then false else true : Bool) = gz (decide (10 * n1 + n2 < tW T)) := by
    rw [hrow, gc1, hp.2.1, gif (nI_leI (by omega) (by omega))]
    by_cases z : 10 * n1 + n2 < tW T
    · rw [if_neg (by omega), decide_eq_true z]
    · rw [if_pos (by omega), decide_eq_false z]
  rw [he]
  refine ⟨_, k_X8_goes (v := decide (10 * n1 + n2 < tW T)) gb1.1 (by rw [S7.2.2 5 (by decide)]; exact h5), ?_⟩
  rintro b τ10 ⟨rfl, h10, S10⟩
  have S10' := (sx34 S7).tr (sx5 S10)
  have g10 : gP τ10 gb pb := ⟨by rw [S10.2.2 4 (by decide)]; exact gb1.1, by rw [S10.2.2 3 (by decide)]; exact gb1.2⟩
  have hrow10 : τ10.1 191 = σ.1 191 := by rw [S10.row (by decide) (by decide), hrow]
  have hdg : dg (tAt X i) = 2 := by rw [hc]; rfl
  obtain ⟨e1, e2⟩ := RDs_end (by rw [hdg]; exact rb) (by rw [hdg]; decide)
  have hob : gb = true → obey X i (T, q) = (oTC T (10 * n1 + n2), if 10 * n1 + n2 < tW T then q else q + 1) := fun hb => by
    have hga := (gb2 hb).1
    unfold obey
    rw [hc, if_neg (by decide), if_neg (by decide), if_pos rfl, (hn2 hga).1, hn4 hb]
  refine ⟨fun z => ⟨S10', gb, pb, g10, ?_⟩, fun z => ?_⟩
  · cases hb : gb
    · exact Or.inr ⟨rfl, e2 hb⟩
    · rw [hb, Bool.true_and] at z
      have z' : ¬ 10 * n1 + n2 < tW T := by simpa using z
      obtain ⟨k1, k2⟩ := e1 hb
      rw [hob hb]
      refine Or.inl ⟨rfl, k1, k2, ?_, ?_⟩
      · unfold oTC
        rw [if_neg z', hrow10]; exact hp
      · rw [h10, if_pos ⟨hb, z⟩, if_neg z']
  · have z1 : gb = true ∧ 10 * n1 + n2 < tW T := by
      cases hb : gb
      · rw [hb] at z; exact absurd rfl z
      · rw [hb, Bool.true_and] at z; exact ⟨rfl, by simpa using z⟩
    obtain ⟨k1, k2⟩ := e1 z1.1
    refine ⟨_, k_X8_cutIn ia191 (by rw [hrow10]; exact hp) hv z1.2, ?_⟩
    rintro τ13 ⟨f, rfl, hf⟩
    refine ⟨S10'.tr sx191, gb, pb, ⟨by rw [gw_r_ne _ _ (by decide)]; exact g10.1, by rw [gw_r_ne _ _ (by decide)]; exact g10.2⟩, Or.inl ⟨z1.1, k1, k2, ?_, ?_⟩⟩
    · rw [hob z1.1]
      unfold oTC
      rw [if_pos z1.2, gw_r_at]; exact hf
    · rw [gw_r_ne _ _ (by decide), h10, if_neg (fun w => by have := decide_eq_false_iff_not.mp w.2; exact this z1.2), hob z1.1, if_pos z1.2]
theorem k_X8_readWork {i q : Nat} (hx : xRf σ X) (hX : xV X) (hg : gP σ true i) (hi : i < X.1) (hc : tAt X i = 102) (hp : RR (σ.1 191) T) (hv : VT T) (h5 : σ.1 189 5 = nI q) : gw_M l G yX8_readWork cX8_readWork 2 none 2 [.ref (G.1 + 189)] σ (fv (fun τ => RCm X i (T, q) σ τ)) := by
  have h8 := hv.1
  refine gw_met (by decide) (Nat.le_of_ble_eq_true rfl) (fun x C hR hT => sg_X8_readWork_0 C hR hT σ ⟨_, k_X8_accept (v := true) hg, ?_⟩)
  rintro τ2 ⟨g2, S2⟩
  have r2 := RDs_0 X i
  refine ⟨_, k_X8_digitS (lo := 0) (hi := 7) (hx.sx S2 (by decide) (by decide)) hX g2 r2 hi (by decide) (by decide) (by decide) (by rw [hc]; rfl) (fun _ => by rw [hc]; rfl), ?_⟩
  rintro d1 τ4 ⟨ga, pa, ga1, ra, ga2, ga3, Sa⟩
  have hd1 : ∃ n1, d1 = nI n1 ∧ n1 ≤ 9 ∧ (ga = true → n1 = tAt X (i + 1) - 48) := by
    cases hb : ga
    · exact ⟨0, ga3 hb, by decide, fun z => by cases z⟩
    · obtain ⟨y1, y2, y3⟩ := ga2 hb
      have := (okd_d y3).2
      exact ⟨_, y2, by omega, fun _ => rfl⟩
  obtain ⟨n1, rfl, hn1, hn2⟩ := hd1
  have S4 : SX [] [3, 4] σ τ4 := S2.tr Sa
  have hrow : τ4.1 191 = σ.1 191 := S4.row (by decide) (by decide)
  have hdg : dg (tAt X i) = 1 := by rw [hc]; rfl
  obtain ⟨e1, e2⟩ := RDs_end (by rw [hdg]; exact ra) (by rw [hdg]; decide)
  have hob : ga = true → obey X i (T, q) = (oTF T n1, if tfB T n1 = true then q else q + 1) := fun hb => by
    unfold obey
    rw [hc, if_neg (by decide), if_neg (by decide), if_neg (by decide), hn2 hb]
  have tail : ∀ (can : Bool), can = tfB T n1 → ∃ Φ' : Bool → gw_S → Prop, gw_M x.2.1 G yX8_goes cX8_goes 2 (some .boolean) 0 [.ref (G.1 + 189), .int (gz can)] τ4 (fz Φ') ∧ ∀ (b : Bool) (τ10 : gw_S), Φ' b τ10 → ((b = false → RCm X i (T, q) σ τ10) ∧ (¬ (b = false) → ∃ Φ9 : gw_S → Prop, gw_M x.2.1 G yX8_workIn cX8_workIn 3 none 1 [.ref (G.1 + 191), .int (nI n1)] τ10 (fv Φ9) ∧ ∀ (τ13 : gw_S), Φ9 τ13 → RCm X i (T, q) σ τ13)) := by
    rintro can hcan
    refine ⟨_, k_X8_goes (v := can) ga1.1 (by rw [S4.2.2 5 (by decide)]; exact h5), ?_⟩
    rintro b τ10 ⟨rfl, h10, S10⟩
    have S10' := (sx34 S4).tr (sx5 S10)
    have g10 : gP τ10 ga pa := ⟨by rw [S10.2.2 4 (by decide)]; exact ga1.1, by rw [S10.2.2 3 (by decide)]; exact ga1.2⟩
    have hrow10 : τ10.1 191 = σ.1 191 := by rw [S10.row (by decide) (by decide), hrow]
    refine ⟨fun z => ⟨S10', ga, pa, g10, ?_⟩, fun z => ?_⟩
    · cases hb : ga
      · exact Or.inr ⟨rfl, e2 hb⟩
      · rw [hb, Bool.true_and] at z
        obtain ⟨k1, k2⟩ := e1 hb
        rw [hob hb, ← hcan, z]
        refine Or.inl ⟨rfl, k1, k2, ?_, ?_⟩
        · unfold oTF
          rw [← hcan, z, if_neg (by decide), hrow10]; exact hp
        · rw [h10, if_pos ⟨hb, z⟩, if_neg (by decide)]
    · have z1 : ga = true ∧ can = true := by
        cases hb : ga
        · rw [hb] at z; exact absurd rfl z
        · rw [hb, Bool.true_and] at z; exact ⟨rfl, by simpa using z⟩
      obtain ⟨k1, k2⟩ := e1 z1.1
      have z2 : tfB T n1 = true := by rw [← hcan]; exact z1.2
      have z3 := z2
      unfold tfB at z3
      rw [Bool.and_eq_true, decide_eq_true_eq] at z3
      refine ⟨_, k_X8_workIn ia191 (by rw [hrow10]; exact hp) hv z3.1 ((canB_iff T n1).mp z3.2), ?_⟩
      rintro τ13 ⟨f, rfl, hf⟩
      refine ⟨S10'.tr sx191, ga, pa, ⟨by rw [gw_r_ne _ _ (by decide)]; exact g10.1, by rw [gw_r_ne _ _ (by decide)]; exact g10.2⟩, Or.inl ⟨z1.1, k1, k2, ?_, ?_⟩⟩
      · rw [hob z1.1]
        unfold oTF
        rw [if_pos z2, gw_r_at]; exact hf
      · rw [gw_r_ne _ _ (by decide), h10, if_neg (fun w => by rw [z1.2] at w; exact absurd w.2 (by decide)), hob z1.1, if_pos z2]
  rw [hrow, gc0, hp.1, nI_le_iff (by omega) (by omega)]
  refine ⟨fun z => tail false ?_, fun z => ⟨_, k_X8_canWork ia191 (by rw [hrow]; exact hp) hv (by omega), ?_⟩⟩
  · unfold tfB; simp [show ¬ n1 < tM T by omega]
  · rintro r τ12 ⟨rfl, rfl⟩
    have e : (if canB T n1 = false then false else true : Bool) = canB T n1 := by cases canB T n1 <;> rfl
    rw [e]
    exact tail (canB T n1) (by unfold tfB; simp [show n1 < tM T by omega])
end RT
