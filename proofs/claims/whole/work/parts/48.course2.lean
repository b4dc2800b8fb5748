/-! after a followed round (class) -/
noncomputable def tRB (T : pT) (r : Nat) : Bool := decide (r < 3) && rC T r
noncomputable def oTR (T : pT) (r : Nat) : pT := if tRB T r = true then (rE T r).1 else T
theorem FO_c {T : pT} {r : Nat} {τ : gw_S} (hv : VT T) (h : FO T r τ) : (if τ.1 151 6 = 0 then false else (if τ.1 151 8 = τ.1 151 7 then true else false : Bool) : Bool) = rC T r := by
  obtain ⟨h1, h2, h3, h4, h5⟩ := h
  unfold rC
  cases e : agB T
  · rw [h1, e, if_pos (by decide)]; rfl
  · obtain ⟨L1, L2⟩ := rL_480 (r := r) hv e
    rw [h1, e, if_neg (by decide), h2, h3, if_pos e, if_pos e, gif (nI_eq (by omega) (by omega))]
    by_cases q : rL T r = sN (rD T) (tM T) <;> simp [q]
theorem VT_rE {T : pT} {r : Nat} (hv : VT T) : VT (rE T r).1 := (rE_I hv).1
theorem VT_tr {T : pT} {r : Nat} (hv : VT T) : VT (oTR T r) := by
  unfold oTR; split
  · exact VT_rE hv
  · exact hv
theorem gp142 : gw_plan 142 := gp_142
section CO
variable {l : Launch} {G : gw_G} {σ : gw_S} {T : pT}
theorem k_X0_allMost {r : Nat} (hv : VT T) (h : FO T r σ) (ha : agB T = true) : gw_M l G yX0_allMost cX0_allMost 3 (some .int) 0 [.ref (G.1 + 151)] σ (fi (fun q τ => q = nI (sN (rE T r).2.2.2 (tW T)) ∧ τ = σ)) := by
  obtain ⟨h1, h2, h3, h4, h5⟩ := h
  have h14 := hv.2.1
  rw [if_pos ha] at h4
  have hI := rE_I (r := r) hv
  have hW : σ.1 154 4 = nI (tW T) := by rw [h4.2.1, hI.2.2.1]
  refine gw_met (by decide) (Nat.le_of_ble_eq_true rfl) (fun x C hR hT => sg_X0_allMost_0 C hR hT σ ?_)
  have key : ∀ n i, i + n = tW T → PW x G 3 4 [(0, .ref (G.1 + 151)), (1, .int (nI (sN (rE T r).2.2.2 i))), (2, .int (nI i))] [] σ := by
    intro n
    induction n with
    | zero =>
      intro i hi
      refine sg_X0_allMost_4 C hR hT _ _ σ ⟨fun _ => ⟨by rw [show i = tW T by omega], rfl⟩, fun q => absurd ?_ q⟩
      rw [hW, nI_le_iff (by omega) (by omega)]; omega
    | succ n ih =>
      intro i hi
      refine sg_X0_allMost_4 C hR hT _ _ σ ⟨fun q => ?_, fun _ => ⟨vp_in_nI (by omega) (by decide), ?_⟩⟩
      · rw [hW, nI_le_iff (by omega) (by omega)] at q; omega
      · rw [nI_clamp (by omega), (h5 ha).2 i (by omega), nI_add, nI_1]; exact ih (i + 1) (by omega)
  exact key (tW T) 0 (by omega)
theorem k_X0_takeOver {b : Nat} (hb : gw_plan b) (hd : b + 9 ≤ 151 ∨ 167 ≤ b) (hp : RP σ 154 T) (hv : VT T) : gw_M l G yX0_takeOver cX0_takeOver 2 (some .int) 2 [.ref (G.1 + 151), .ref (G.1 + b)] σ (fi (fun q τ => q = σ.1 151 8 ∧ RP τ b T ∧ SP b σ τ)) := by
  refine gw_met (by decide) (Nat.le_of_ble_eq_true rfl) (fun x C hR hT => sg_X0_takeOver_0 C hR hT b hb σ ⟨_, k_X3_become hb gp154 (by omega) hp hv, ?_⟩)
  rintro τ ⟨h1, h2⟩
  exact ⟨by rw [h2.2 151 (by omega)], h1, h2⟩
theorem k_X0_tries {r : Nat} (hp : RP σ 142 T) (hv : VT T) (hr : r < 2 ^ 31) : gw_M l G yX0_tries cX0_tries 3 (some .boolean) 4 [.ref (G.1 + 151), .ref (G.1 + 142), .int (nI r)] σ (fz (fun q τ => q = tRB T r ∧ RP τ 142 (oTR T r) ∧ FX 142 167 σ τ ∧ (tRB T r = true → τ.1 151 8 = nI (rL T r)))) := by
  refine gw_met (by decide) (Nat.le_of_ble_eq_true rfl) (fun x C hR hT => sg_X0_tries_0 C hR hT 142 _ gp142 σ ?_)
  rw [if_neg (nI_pos hr), show (2 : Int32) = nI 2 from rfl, gif (nI_leI hr (by omega))]
  by_cases e : r ≤ 2
  · rw [if_pos e]
    refine ⟨fun _ => ⟨_, k_X0_follow gp142 (by decide) hp hv (by omega), ?_⟩, fun z => absurd rfl z⟩
    rintro τ ⟨hF, hX⟩
    have hc := FO_c hv hF
    have et : tRB T r = rC T r := by unfold tRB; simp [show r < 3 by omega]
    have hp2 : RP τ 142 T := hp.fx hX (by decide)
    rw [hc]
    refine ⟨fun z => ⟨et.symm, ?_, hX.mono (by decide) (by decide), fun z2 => by rw [et, z] at z2; cases z2⟩, fun z => ?_⟩
    · unfold oTR; rw [if_neg (by rw [et, z]; decide)]; exact hp2
    · have z' : rC T r = true := by simpa using z
      have ha : agB T = true := by unfold rC at z'; rw [Bool.and_eq_true] at z'; exact z'.1
      have h4 := hF.2.2.2.1
      rw [if_pos ha] at h4
      refine ⟨_, k_X0_takeOver gp142 (by decide) h4 (VT_rE hv), ?_⟩
      rintro q τ4 ⟨rfl, g1, g2⟩
      have e151 : τ4.1 151 = τ.1 151 := g2.2 151 (by omega)
      rw [e151, hc]
      refine ⟨et.symm, ?_, (hX.mono (by decide) (by decide)).tr (g2.fx.mono (by decide) (by decide)), fun _ => by rw [hF.2.2.1, if_pos ha]⟩
      unfold oTR; rw [if_pos (et.trans z')]; exact g1
  · rw [if_neg e]
    have et : tRB T r = false := by unfold tRB; simp [show ¬ r < 3 by omega]
    refine ⟨fun z => absurd z (by decide), fun _ => ⟨et.symm, ?_, FX.rf, fun z => by rw [et] at z; cases z⟩⟩
    unfold oTR; rw [if_neg (by rw [et]; decide)]; exact hp
end CO
