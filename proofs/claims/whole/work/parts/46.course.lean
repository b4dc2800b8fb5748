/-! the class's course -/
/-- only cells from lo on and below hi are other -/
def FX (lo hi : Nat) (σ τ : gw_S) : Prop := τ.2 = σ.2 ∧ ∀ k, (k < lo ∨ hi ≤ k) → τ.1 k = σ.1 k
theorem FX.rf {lo hi : Nat} {σ : gw_S} : FX lo hi σ σ := ⟨rfl, fun _ _ => rfl⟩
theorem FX.tr {lo hi : Nat} {σ τ υ : gw_S} (h1 : FX lo hi σ τ) (h2 : FX lo hi τ υ) : FX lo hi σ υ := ⟨h2.1.trans h1.1, fun k hk => (h2.2 k hk).trans (h1.2 k hk)⟩
theorem FX.u {lo hi k j : Nat} {v : Int32} {σ : gw_S} (h1 : lo ≤ k) (h2 : k < hi) : FX lo hi σ (gw_u σ k j v) := ⟨rfl, fun q hq => gw_r_ne σ _ (by omega)⟩
theorem FX.r {lo hi k : Nat} {f : Nat → Int32} {σ : gw_S} (h1 : lo ≤ k) (h2 : k < hi) : FX lo hi σ (gw_r σ k f) := ⟨rfl, fun q hq => gw_r_ne σ _ (by omega)⟩
theorem FX.mono {lo hi lo' hi' : Nat} {σ τ : gw_S} (h : FX lo hi σ τ) (h1 : lo' ≤ lo) (h2 : hi ≤ hi') : FX lo' hi' σ τ := ⟨h.1, fun k hk => h.2 k (by omega)⟩
theorem SP.fx {b : Nat} {σ τ : gw_S} (h : SP b σ τ) : FX b (b + 9) σ τ := h
theorem RP.fx {σ τ : gw_S} {b lo hi : Nat} {T : pT} (h : RP σ b T) (hS : FX lo hi σ τ) (hd : b + 9 ≤ lo ∨ hi ≤ b) : RP τ b T := h.cong (fun i hi => hS.2 _ (by omega))
/-- the course stands at the step t of a round -/
def CS (D : Nat → Nat) (s : qS) (t : Nat) (σ : gw_S) : Prop := RP σ 154 s.1 ∧ (∀ m, m < tM s.1 → σ.1 163 m = nI (D m - s.2.1 m)) ∧ (∀ m, m < tM s.1 → σ.1 164 m = gI s.1 m) ∧ σ.1 151 8 = nI t ∧ (0 < t → σ.1 165 (t - 1) = nI (s.2.2.1 - 1)) ∧ ∀ w, w < tW s.1 → σ.1 166 w = nI (s.2.2.2 w)
section CO
variable {l : Launch} {G : gw_G} {σ : gw_S} {T : pT}
theorem gp154 : gw_plan 154 := gp_154
theorem k_X0_step {t : Nat} {v : Int32} {f : Nat → Nat} (ht : t ≤ 480) (h8 : σ.1 151 8 = nI t) (hf : ∀ j, j < t → σ.1 165 j = nI (f j)) : gw_M l G yX0_step cX0_step 2 (some .int) 0 [.ref (G.1 + 151), .int v] σ (fi (fun r τ => r = (if v < 0 then -1 else if nI t ≤ v then -1 else nI (f v.toNatClampNeg)) ∧ τ = σ)) := by
  refine gw_met (by decide) (Nat.le_of_ble_eq_true rfl) (fun x C hR hT => sg_X0_step_0 C hR hT _ σ ?_)
  rw [h8]
  by_cases e1 : v < 0
  · exact ⟨⟨fun _ => trivial, fun z => absurd e1 z⟩, by rw [if_pos e1, if_pos e1], rfl⟩
  · obtain ⟨j, hj, rfl⟩ := nI_of e1
    by_cases e2 : nI t ≤ nI j
    · exact ⟨⟨fun z => absurd z e1, fun _ => ⟨fun _ => trivial, fun z => absurd e2 z⟩⟩, by rw [if_neg e1, if_neg e1, if_pos e2, if_pos e2], rfl⟩
    · have e2' := e2
      rw [nI_le_iff (by omega) hj] at e2'
      have e3 : nI j < 480 := by rw [show (480 : Int32) = nI 480 from rfl, nI_lt_iff hj (by omega)]; omega
      refine ⟨⟨fun z => absurd z e1, fun _ => ⟨fun z => absurd z e2, fun _ => ⟨fun _ => ⟨vp_in_nI (by omega) (by decide), trivial⟩, fun z => absurd e3 z⟩⟩⟩, ?_, rfl⟩
      rw [if_neg e1, if_neg e1, if_neg e2, if_neg e2, if_pos e3, nI_clamp hj, hf j (by omega)]
theorem k_X0_choose {D : Nat → Nat} {s : qS} {t r : Nat} {f : Nat → Nat} (hr : r < 3) (hS : CS D s t σ) (hI : QI T D s t) (hD : ∀ m, m < tM T → D m ≤ 60) (ht : t ≤ 480) (hf : ∀ j, j < t → σ.1 165 j = nI (f j)) : gw_M l G yX0_choose cX0_choose 6 (some .int) 2 [.ref (G.1 + 151), .int (nI r)] σ (fi (fun q τ => q = oI (qN D r s) ∧ τ = σ)) := by
  obtain ⟨s1, s2, s3, s4, s5, s6⟩ := hS
  obtain ⟨i1, i2, i3, i4, i5, i6, i7, i8, i9⟩ := hI
  have h8 := i1.1
  refine gw_met (by decide) (Nat.le_of_ble_eq_true rfl) (fun x C hR hT => sg_X0_choose_0 C hR hT _ σ ?_)
  have hM : σ.1 154 0 = nI (tM s.1) := s1.1
  have key : ∀ d k, k + d = tM s.1 → (r ≠ 1 → qB D r s k = none) → PW x G 6 34 [(0, .ref (G.1 + 151)), (1, .int (nI r)), (2, .int (nI (if r = 2 then s.2.2.1 else 0))), (3, .int (oI (qB D r s k))), (4, .int (nI k))] [] σ := by
    intro d
    induction d with
    | zero =>
      intro k hk hn
      refine sg_X0_choose_34 C hR hT _ _ _ _ σ ⟨fun _ => ⟨by rw [show k = tM s.1 by omega]; rfl, rfl⟩, fun z => absurd ?_ z⟩
      rw [hM, nI_le_iff (by omega) (by omega)]; omega
    | succ d ih =>
      intro k hk hn
      have hkM : k < tM s.1 := by omega
      have hq := qI_lt (r := r) hkM
      have hfst : (if r = 2 then s.2.2.1 else 0) ≤ tM s.1 := by split <;> omega
      have em : (if nI (tM s.1) ≤ nI (if r = 2 then s.2.2.1 else 0) + nI k then (nI (if r = 2 then s.2.2.1 else 0) + nI k) - nI (tM s.1) else nI (if r = 2 then s.2.2.1 else 0) + nI k : Int32) = nI (qI r s k) := by
        rw [nI_add, gif (nI_leI (by omega) (by omega))]
        unfold qI
        by_cases e : r = 2
        · rw [if_pos e, if_pos e]
          by_cases e2 : tM s.1 ≤ s.2.2.1 + k
          · rw [if_pos e2, pk_sub e2]
            congr 1
            rw [Nat.mod_eq_sub_mod e2, Nat.mod_eq_of_lt (by omega)]
          · rw [if_neg e2, Nat.mod_eq_of_lt (by omega)]
        · rw [if_neg e, if_neg e, Nat.zero_add, if_neg (by omega)]
      refine sg_X0_choose_34 C hR hT _ _ _ _ σ ⟨fun z => ?_, fun _ => ?_⟩
      · rw [hM, nI_le_iff (by omega) (by omega)] at z; omega
      · have hDq := hD (qI r s k) (by omega)
        have nxt := ih (k + 1) (by omega)
        rw [hM, em, nI_clamp (by omega), s2 _ hq, show (0 : Int32) = nI 0 from rfl, nI_le_iff (by omega) (by omega), nI_1]
        have hno : ∀ hc : ¬ qC D s (qI r s k) = true, PW x G 6 34 [(0, .ref (G.1 + 151)), (1, .int (nI r)), (2, .int (nI (if r = 2 then s.2.2.1 else 0))), (3, .int (oI (qB D r s k))), (4, .int (nI (k + 1)))] [] σ := fun hc => by
          have e : qB D r s (k + 1) = qB D r s k := by rw [qB, if_neg (fun z => hc z.1)]
          rw [e] at nxt
          exact nxt hn
        refine ⟨vp_in_nI (by omega) (by decide), fun e => hno (fun z => ?_), fun e => ⟨_, k_X3_canWork gp154 s1 i1 (by omega), ?_⟩⟩
        · unfold qC at z; rw [Bool.and_eq_true, decide_eq_true_eq] at z; omega
        · rintro q τ ⟨rfl, rfl⟩
          refine ⟨fun e2 => hno (fun z => ?_), fun e2 => ?_⟩
          · unfold qC at z; rw [Bool.and_eq_true, e2] at z; exact absurd z.2 (by decide)
          · have hc : qC D s (qI r s k) = true := by
              unfold qC; rw [Bool.and_eq_true, decide_eq_true_eq]; exact ⟨by omega, by simpa using e2⟩
            refine ⟨fun er => ?_, fun er => ?_⟩
            · have er' : r = 1 := by rw [show (1 : Int32) = nI 1 from rfl, nI_eq_iff (by omega) (by omega)] at er; exact er
              cases hb : qB D r s k with
              | none =>
                have e : qB D r s (k + 1) = some (qI r s k) := by rw [qB, if_pos ⟨hc, fun b h => by rw [hb] at h; cases h⟩]
                rw [e] at nxt
                have := nxt (fun z => absurd er' z)
                refine ⟨⟨fun _ => trivial, fun z => absurd rfl z⟩, ?_⟩
                rw [if_pos (show oI none = -1 from rfl)]
                exact this
              | some b =>
                have hbb := qB_some k (by omega) b hb
                have hne : ¬ oI (some b) = -1 := nI_m1 (by omega)
                refine ⟨⟨fun _ => trivial, fun _ => ⟨vp_in_nI (by omega) (by decide), trivial⟩⟩, ?_⟩
                rw [if_neg hne, show oI (some b) = nI b from rfl, nI_clamp (by omega), s3 _ hbb.1, s3 _ hq]
                by_cases eg : gI s.1 (qI r s k) < gI s.1 b
                · have e : qB D r s (k + 1) = some (qI r s k) := by rw [qB, if_pos ⟨hc, fun b' h => by rw [hb] at h; cases h; exact ⟨er', eg⟩⟩]
                  rw [e] at nxt
                  rw [if_neg (Int32.not_le.mpr eg)]
                  exact nxt (fun z => absurd er' z)
                · have e : qB D r s (k + 1) = some b := by rw [qB, if_neg (fun z => eg (z.2 b hb).2), hb]
                  rw [e] at nxt
                  rw [if_pos (Int32.not_lt.mp eg)]
                  exact nxt (fun z => absurd er' z)
            · have er' : r ≠ 1 := fun z => er (by rw [z]; rfl)
              have e : qB D r s (k + 1) = some (qI r s k) := by rw [qB, if_pos ⟨hc, fun b h => by rw [hn er'] at h; cases h⟩]
              have := qB_stay er' (tM s.1 - (k + 1)) (k + 1) e
              rw [show k + 1 + (tM s.1 - (k + 1)) = tM s.1 by omega] at this
              refine ⟨?_, rfl⟩
              unfold qN; rw [this]; rfl
  have k0 := key (tM s.1) 0 (by omega) (fun _ => rfl)
  refine ⟨fun e => ?_, fun e => ⟨fun e2 => ?_, fun e2 => ⟨_, k_X0_step ht s4 hf, ?_⟩⟩⟩
  · rw [if_neg (fun z => e (by rw [z]; rfl))] at k0; exact k0
  · rw [s4, show (0 : Int32) = nI 0 from rfl, nI_le_iff (by omega) (by omega)] at e2
    rw [i8 (by omega)] at k0
    have : (if r = 2 then 0 else 0 : Nat) = 0 := by split <;> rfl
    rw [this] at k0; exact k0
  · rintro q τ ⟨rfl, rfl⟩
    rw [s4, show (0 : Int32) = nI 0 from rfl, nI_le_iff (by omega) (by omega)] at e2
    have er : r = 2 := by rw [show (2 : Int32) = nI 2 from rfl, nI_eq_iff (by omega) (by omega)] at e; exact e
    have hpos := i9 (by omega)
    rw [if_pos er] at k0
    rw [s4, show (1 : Int32) = nI 1 from rfl, pk_sub (by omega), if_neg (nI_pos (by omega)), if_neg (by rw [nI_le_iff (by omega) (by omega)]; omega), nI_clamp (by omega), ← hf (t - 1) (by omega), s5 (by omega), nI_add, show s.2.2.1 - 1 + 1 = s.2.2.1 by omega]
    exact k0
end CO
