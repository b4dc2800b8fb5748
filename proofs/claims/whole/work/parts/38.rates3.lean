/-! whether the rates agree (class), the works of a round together, parts -/
def AI (T : pT) (D : Nat → Nat) : Prop := (∀ i, i < tM T → D i ≤ 60) ∧ clU T (fun i => decide (0 < D i)) ∧ ∀ e, PS T e → (∀ i, i < tM T → 0 < D i → ∃ k, e i = k * D i) ∧ ∀ w, w < tW T → 0 < D (tF T w) → ∃ k, e (tF T w) = k * D (tF T w) ∧ e (tO T w) = k * D (tO T w)
theorem AI_part {T : pT} (hv : VT T) {D0 D : Nat → Nat} {f : Nat} (h : AI T D0) (hf : f < tM T) (h0 : D0 f = 0) (hF : FP T (fun i => if i = f then 1 else D0 i) (uP T (2 ^ f) (tM T - 1)) D) : AI T D ∧ (∀ i, i < tM T → 0 < D0 i → 0 < D i) ∧ 0 < D f := by
  have hbf : (uP T (2 ^ f) (tM T - 1)).testBit f = true := (uP_iff hv hf f).mpr cn.rf
  have hdis : ∀ i, (uP T (2 ^ f) (tM T - 1)).testBit i = true → D0 i = 0 := fun i hi => by
    have := (uP_iff hv hf i).mp hi _ h.2.1
    simp only [h0, Nat.lt_irrefl, decide_false] at this
    have := (decide_eq_false_iff_not.mp this.symm)
    omega
  have hout : ∀ i, i < tM T → (uP T (2 ^ f) (tM T - 1)).testBit i = false → D i = D0 i := fun i hi hb => by
    have := (hF.1 i hi).2.2 hb
    rw [this]
    show (if i = f then 1 else D0 i) = D0 i
    rw [if_neg (fun z => by rw [z, hbf] at hb; cases hb)]
  have hcl := uP_closed hv (n := 2 ^ f) (fun i hi => by rw [Nat.testBit_two_pow, decide_eq_true_eq] at hi; rw [← hi]; exact hf) ⟨f, by rw [Nat.testBit_two_pow]; simp⟩
  refine ⟨⟨fun i hi => (hF.1 i hi).1, fun w hw => ?_, fun e hE => ⟨fun i hi hD => ?_, fun w hw hD => ?_⟩⟩, fun i hi hD => ?_, (hF.1 f hf).2.1 hbf⟩
  · obtain ⟨q1, q2, _⟩ := hv.2.2.2 w hw
    have hc := hcl w hw
    show decide (0 < D (tF T w)) = decide (0 < D (tO T w))
    cases e : (uP T (2 ^ f) (tM T - 1)).testBit (tF T w)
    · rw [hout _ q1 e, hout _ q2 (by rw [← hc]; exact e)]; exact h.2.1 w hw
    · have h1 := (hF.1 _ q1).2.1 e
      have h2 := (hF.1 _ q2).2.1 (by rw [← hc]; exact e)
      simp [h1, h2]
  · cases e1 : (uP T (2 ^ f) (tM T - 1)).testBit i
    · rw [hout i hi e1] at hD ⊢; exact (h.2.2 e hE).1 i hi hD
    · obtain ⟨k, hk⟩ := hF.2 e hE
      exact ⟨k, hk i hi e1⟩
  · obtain ⟨q1, q2, _⟩ := hv.2.2.2 w hw
    have hc := hcl w hw
    cases e1 : (uP T (2 ^ f) (tM T - 1)).testBit (tF T w)
    · rw [hout _ q1 e1] at hD ⊢; rw [hout _ q2 (by rw [← hc]; exact e1)]; exact (h.2.2 e hE).2 w hw hD
    · obtain ⟨k, hk⟩ := hF.2 e hE
      exact ⟨k, hk _ q1 e1, hk _ q2 (by rw [← hc]; exact e1)⟩
  · cases e1 : (uP T (2 ^ f) (tM T - 1)).testBit i
    · rw [hout i hi e1]; exact hD
    · exact (hF.1 i hi).2.1 e1
section RA
variable {l : Launch} {G : gw_G} {σ : gw_S} {T : pT}
theorem k_X4_agreeIn {r b : Nat} (hr : gw_rates r) (hb : gw_plan b) (hd : b + 9 ≤ r ∨ r + 2 ≤ b) (hp : RP σ b T) (hv : VT T) : gw_M l G yX4_agreeIn cX4_agreeIn 3 (some .boolean) 2 [.ref (G.1 + r), .ref (G.1 + b)] σ (fz (fun q τ => q = agB T ∧ ∃ g, τ = gw_r (gw_u σ r 1 (nI (tM T))) (r + 1) g ∧ ∀ d, DU T d → ∀ m, m < tM T → g m = nI (d m))) := by
  have h8 := hv.1
  have h14 := hv.2.1
  refine gw_met (by decide) (Nat.le_of_ble_eq_true rfl) (fun x C hR hT => sg_X4_agreeIn_0 C hR hT r b hr hb σ ?_)
  rintro τ rfl
  rw [hp.1]
  have hat : ∀ k, k < 9 → ∀ g, (gw_r (gw_u σ r 1 (nI (tM T))) (r + 1) g).1 (b + k) = σ.1 (b + k) := fun k hk g => by
    rw [gw_r_ne _ _ (by omega), gw_u_k _ _ _ (by omega)]
  have hat0 : ∀ g, (gw_r (gw_u σ r 1 (nI (tM T))) (r + 1) g).1 b = σ.1 b := fun g => hat 0 (by omega) g
  have hr1 : ∀ g, (gw_r (gw_u σ r 1 (nI (tM T))) (r + 1) g).1 r 1 = nI (tM T) := fun g => by
    rw [gw_r_ne _ _ (by omega), gw_u_at]
  have fine : ∀ g D, (∀ i, i < tM T → g i = nI (D i)) → AI T D → (∀ i, i < tM T → 0 < D i) → ∀ d i, i + d = tW T → (∀ w, w < i → D (tF T w) * tC T w = D (tO T w) * tV T w) → PW x G 3 69 [(0, .ref (G.1 + r)), (1, .ref (G.1 + b)), (2, .int (nI i))] [] (gw_r (gw_u σ r 1 (nI (tM T))) (r + 1) g) := by
    intro g D hg hA hpos d
    induction d with
    | zero =>
      intro i hi hw
      have hDU : DU T D := ⟨⟨hpos, fun w h => hw w (by omega)⟩, fun e hE m hm => (hA.2.2 e hE).1 m hm (hpos m hm), hA.1⟩
      refine sg_X4_agreeIn_69 C hR hT r b hr hb _ _ ⟨fun _ => ⟨(agB_t.mpr ⟨D, hDU⟩).symm, g, rfl, fun d h m hm => by rw [hg m hm, hDU.one h m hm]⟩, fun q => absurd ?_ q⟩
      rw [hat0, hp.2.1, nI_le_iff (by omega) (by omega)]; omega
    | succ d ih =>
      intro i hi hw
      have hiT : i < tW T := by omega
      obtain ⟨r1, r2, r3, r4, r5⟩ := hp.2.2.2 i hiT
      obtain ⟨q1, q2, q3, q4, q5, q6, q7⟩ := hv.2.2.2 i hiT
      refine sg_X4_agreeIn_69 C hR hT r b hr hb _ _ ⟨fun q => ?_, fun _ => ⟨vp_in_nI (by omega) (by decide), ?_⟩⟩
      · rw [hat0, hp.2.1, nI_le_iff (by omega) (by omega)] at q; omega
      · have m1 : D (tF T i) * tC T i ≤ 60 * 6 := Nat.mul_le_mul (hA.1 _ q1) q4
        have m2 : D (tO T i) * tV T i ≤ 60 * 6 := Nat.mul_le_mul (hA.1 _ q2) q6
        have no : ¬ D (tF T i) * tC T i = D (tO T i) * tV T i → ¬ ∃ d, DU T d := by
          intro e
          rintro ⟨d, hdd⟩
          obtain ⟨k, k1, k2⟩ := (hA.2.2 d hdd.1).2 i hiT (hpos _ q1)
          have k3 := hdd.1.2 i hiT
          rw [k1, k2, Nat.mul_assoc, Nat.mul_assoc] at k3
          have hk : 0 < k := by
            have := hdd.1.1 _ q1
            rw [k1] at this
            exact Nat.pos_of_mul_pos_right this
          exact e (Nat.eq_of_mul_eq_mul_left hk k3)
        rw [nI_clamp (by omega), hat 4 (by omega), hat 5 (by omega), hat 6 (by omega), hat 7 (by omega), r1, r2, r3, r4, nI_clamp (by omega), nI_clamp (by omega), gw_r_at, hg _ q1, hg _ q2, pk_mul, pk_mul, nI_1, nI_eq_iff (by omega) (by omega)]
        refine ⟨vp_in_nI (by omega) (by decide), vp_in_nI (by omega) (by decide), fun e => ih (i + 1) (by omega) (fun w h => ?_), fun e => ⟨?_, g, rfl, ?_⟩⟩
        · by_cases ew : w = i
          · rw [ew]; exact e
          · exact hw w (by omega)
        · exact (agB_f.mpr (no e)).symm
        · exact fun d hdd => absurd ⟨d, hdd⟩ (no e)
  have parts : ∀ d i, i + d = tM T → ∀ g D, (∀ i, i < tM T → g i = nI (D i)) → AI T D → (∀ j, j < i → 0 < D j) → PW x G 3 33 [(0, .ref (G.1 + r)), (1, .ref (G.1 + b)), (2, .int (nI i))] [] (gw_r (gw_u σ r 1 (nI (tM T))) (r + 1) g) := by
    intro d
    induction d with
    | zero =>
      intro i hi g D hg hA hpos
      refine sg_X4_agreeIn_33 C hR hT r b hr hb _ _ ⟨fun _ => fine g D hg hA (fun j hj => hpos j (by omega)) (tW T) 0 (by omega) (fun w h => absurd h (Nat.not_lt_zero w)), fun q => absurd ?_ q⟩
      rw [hr1, nI_le_iff (by omega) (by omega)]; omega
    | succ d ih =>
      intro i hi g D hg hA hpos
      refine sg_X4_agreeIn_33 C hR hT r b hr hb _ _ ⟨fun q => ?_, fun _ => ⟨vp_in_nI (by omega) (by decide), ?_⟩⟩
      · rw [hr1, nI_le_iff (by omega) (by omega)] at q; omega
      · have h60 := hA.1 i (by omega)
        rw [nI_clamp (by omega), gw_r_at, hg i (by omega), nI_1, show (0 : Int32) = nI 0 from rfl, nI_eq_iff (by omega) (by omega)]
        refine ⟨fun h => ih (i + 1) (by omega) g D hg hA (fun j hj => ?_), fun h => ⟨_, k_X4_findsPart (D0 := D) (T := T) hr hb hd ⟨?_, ?_, ?_, ?_⟩ hv (hr1 g) (fun j hj => ⟨by rw [gw_r_at]; exact hg j hj, hA.1 j hj⟩) (by omega), ?_⟩⟩
        · by_cases e : j = i
          · rw [e]; omega
          · exact hpos j (by omega)
        · rw [hat0]; exact hp.1
        · rw [hat0]; exact hp.2.1
        · intro m hm; rw [hat 1 (by omega), hat 2 (by omega), hat 3 (by omega)]; exact hp.2.2.1 m hm
        · intro m hm; rw [hat 4 (by omega), hat 5 (by omega), hat 6 (by omega), hat 7 (by omega), hat 8 (by omega)]; exact hp.2.2.2 m hm
        · rintro q τ ⟨g', rfl, hy, hn⟩
          rw [gw_r_r]
          refine ⟨fun q' => ?_, fun q' => ⟨(agB_f.mpr (hn q')).symm, g', rfl, fun d hdd => absurd ⟨d, hdd⟩ (hn q')⟩⟩
          obtain ⟨D', hg', hF⟩ := hy (by simpa using q')
          obtain ⟨a1, a2, a3⟩ := AI_part hv hA (by omega) h hF
          refine ih (i + 1) (by omega) g' D' hg' a1 (fun j hj => ?_)
          by_cases e : j = i
          · rw [e]; exact a3
          · exact a2 j (by omega) (hpos j (by omega))
  have zero : ∀ d i, i + d = tM T → ∀ g : Nat → Int32, (∀ j, j < i → g j = 0) → PW x G 3 10 [(0, .ref (G.1 + r)), (1, .ref (G.1 + b)), (2, .int (nI i))] [] (gw_r (gw_u σ r 1 (nI (tM T))) (r + 1) g) := by
    intro d
    induction d with
    | zero =>
      intro i hi g hg
      refine sg_X4_agreeIn_10 C hR hT r b hr hb _ _ ⟨fun _ => parts (tM T) 0 (by omega) g (fun _ => 0) (fun j hj => hg j (by omega)) ⟨fun _ _ => Nat.zero_le _, fun _ _ => rfl, fun e hE => ⟨fun _ _ h => absurd h (Nat.lt_irrefl 0), fun _ _ h => absurd h (Nat.lt_irrefl 0)⟩⟩ (fun j hj => absurd hj (Nat.not_lt_zero j)), fun q => absurd ?_ q⟩
      rw [hr1, nI_le_iff (by omega) (by omega)]; omega
    | succ d ih =>
      intro i hi g hg
      refine sg_X4_agreeIn_10 C hR hT r b hr hb _ _ ⟨fun q => ?_, fun _ => ⟨vp_in_nI (by omega) (by decide), ?_⟩⟩
      · rw [hr1, nI_le_iff (by omega) (by omega)] at q; omega
      · rintro τ rfl
        rw [nI_clamp (by omega), gw_u_r, nI_1]
        refine ih (i + 1) (by omega) _ (fun j hj => ?_)
        by_cases e : j = i
        · rw [e, pk_us]
        · rw [pk_un e]; exact hg j (by omega)
  have := zero (tM T) 0 (by omega) (σ.1 (r + 1)) (fun j hj => absurd hj (Nat.not_lt_zero j))
  have e : gw_r (gw_u σ r 1 (nI (tM T))) (r + 1) (σ.1 (r + 1)) = gw_u σ r 1 (nI (tM T)) := by
    have := gw_r_self (gw_u σ r 1 (nI (tM T))) (r + 1)
    rw [gw_u_k _ _ _ (show r + 1 ≠ r by omega)] at this; exact this
  rw [e] at this
  exact this
theorem k_X4_total {r M : Nat} {D : Nat → Nat} (hr : gw_rates r) (hM : M ≤ 8) (h1 : σ.1 r 1 = nI M) (hD : ∀ i, i < M → σ.1 (r + 1) i = nI (D i)) : gw_M l G yX4_total cX4_total 3 (some .int) 0 [.ref (G.1 + r)] σ (fi (fun q τ => q = nI (sN D M) ∧ τ = σ)) := by
  refine gw_met (by decide) (Nat.le_of_ble_eq_true rfl) (fun x C hR hT => sg_X4_total_0 C hR hT r hr σ ?_)
  have key : ∀ n i, i + n = M → PW x G 3 4 [(0, .ref (G.1 + r)), (1, .int (nI (sN D i))), (2, .int (nI i))] [] σ := by
    intro n
    induction n with
    | zero =>
      intro i hi
      refine sg_X4_total_4 C hR hT r hr _ _ σ ⟨fun _ => ⟨by rw [show i = M by omega], rfl⟩, fun q => absurd ?_ q⟩
      rw [h1, nI_le_iff (by omega) (by omega)]; omega
    | succ n ih =>
      intro i hi
      refine sg_X4_total_4 C hR hT r hr _ _ σ ⟨fun q => ?_, fun _ => ⟨vp_in_nI (by omega) (by decide), ?_⟩⟩
      · rw [h1, nI_le_iff (by omega) (by omega)] at q; omega
      · rw [nI_clamp (by omega), hD i (by omega), nI_add, nI_1]; exact ih (i + 1) (by omega)
  exact key M 0 (by omega)
/-- how many modules begin a part -/
noncomputable def rtB (T : pT) (m : Nat) : Bool := @decide (∀ j, j < m → ¬ cn T j m) (Classical.propDecidable _)
theorem rtB_iff {T : pT} {m : Nat} : rtB T m = true ↔ ∀ j, j < m → ¬ cn T j m := by
  unfold rtB; exact @decide_eq_true_iff _ (Classical.propDecidable _)
theorem k_X3_partOf {b f : Nat} (hb : gw_plan b) (hp : RP σ b T) (hv : VT T) (hf : f < tM T) : gw_M l G yX3_partOf cX3_partOf 6 (some .int) 0 [.ref (G.1 + b), .int (nI f)] σ (fi (fun q τ => q = nI (uP T (2 ^ f) (tM T - 1)) ∧ τ = σ)) := by
  have h8 := hv.1
  have h14 := hv.2.1
  have h256 : 2 ^ f < 256 := Nat.pow_lt_pow_right (a := 2) (n := 8) (by decide) (by omega)
  refine gw_met (by decide) (Nat.le_of_ble_eq_true rfl) (fun x C hR hT => sg_X3_partOf_0 C hR hT b _ hb σ ?_)
  rw [rb_sh (by omega)]
  have inner : ∀ p (s0 : Nat), s0 < 256 → PW x G 6 6 [(0, .ref (G.1 + b)), (1, .int (nI f)), (2, .int (nI (uS T s0 (tW T)))), (3, .int (nI p + 1))] [] σ → ∀ d i, i + d = tW T → PW x G 6 17 [(0, .ref (G.1 + b)), (1, .int (nI f)), (2, .int (nI (uS T s0 i))), (3, .int (nI p)), (4, .int (nI i))] [] σ := by
    intro p s0 hs0 hk d
    induction d with
    | zero =>
      intro i hi
      refine sg_X3_partOf_17 C hR hT b hb _ _ _ _ _ ⟨fun _ => by rw [show i = tW T by omega]; exact hk, fun q => absurd ?_ q⟩
      rw [hp.2.1, nI_le_iff (by omega) (by omega)]; omega
    | succ d ih =>
      intro i hi
      have hiT : i < tW T := by omega
      obtain ⟨r1, r2, r3, r4, r5⟩ := hp.2.2.2 i hiT
      obtain ⟨q1, q2, q3, q4, q5, q6, q7⟩ := hv.2.2.2 i hiT
      have hlt := uS_lt hv hs0 i (by omega)
      refine sg_X3_partOf_17 C hR hT b hb _ _ _ _ _ ⟨fun q => ?_, fun _ => ⟨vp_in_nI (by omega) (by decide), ?_⟩⟩
      · rw [hp.2.1, nI_le_iff (by omega) (by omega)] at q; omega
      · have hE : 2 ^ tF T i ||| 2 ^ tO T i < 256 := Nat.or_lt_two_pow (n := 8) (Nat.pow_lt_pow_right (by decide) (by omega)) (Nat.pow_lt_pow_right (by decide) (by omega))
        have hN : uS T s0 i &&& (2 ^ tF T i ||| 2 ^ tO T i) < 256 := Nat.lt_of_le_of_lt Nat.and_le_left hlt
        have := ih (i + 1) (by omega)
        rw [nI_clamp (by omega), r1, r2, rb_sh (by omega), rb_sh (by omega), rb_or, rb_and, nI_1]
        have hz : (uS T s0 i &&& (2 ^ tF T i ||| 2 ^ tO T i) = 0) ↔ ¬ ((uS T s0 i).testBit (tF T i) = true ∨ (uS T s0 i).testBit (tO T i) = true) := by
          constructor
          · rintro z (h | h)
            · have := congrArg (fun n => Nat.testBit n (tF T i)) z
              simp [Nat.testBit_and, Nat.testBit_or, h] at this
            · have := congrArg (fun n => Nat.testBit n (tO T i)) z
              simp [Nat.testBit_and, Nat.testBit_or, h] at this
          · intro z
            apply Nat.eq_of_testBit_eq
            intro j
            rw [Nat.testBit_and, Nat.testBit_or, Nat.testBit_two_pow, Nat.testBit_two_pow, Nat.zero_testBit]
            by_cases e1 : tF T i = j
            · subst e1; simp [show (uS T s0 i).testBit (tF T i) = false by simpa using fun h => z (Or.inl h)]
            · by_cases e2 : tO T i = j
              · subst e2; simp [show (uS T s0 i).testBit (tO T i) = false by simpa using fun h => z (Or.inr h)]
              · simp [e1, e2]
        have eU : nI (uS T s0 i) ||| (if nI (uS T s0 i &&& (2 ^ tF T i ||| 2 ^ tO T i)) = 0 then 0 else nI (2 ^ tF T i ||| 2 ^ tO T i) : Int32) = nI (uS T s0 (i + 1)) := by
          rw [uS]
          by_cases z : (uS T s0 i).testBit (tF T i) = true ∨ (uS T s0 i).testBit (tO T i) = true
          · rw [if_neg (fun y => by rw [show (0 : Int32) = nI 0 from rfl, nI_eq_iff (by omega) (by omega)] at y; exact hz.mp y z), if_pos z, rb_or]
          · rw [if_pos (by rw [show (0 : Int32) = nI 0 from rfl, nI_eq_iff (by omega) (by omega)]; exact hz.mpr z), if_neg z, show (0 : Int32) = nI 0 from rfl, rb_or, Nat.or_zero]
        rw [eU]
        exact this
  have outer : ∀ d p, p + d = tM T - 1 → PW x G 6 6 [(0, .ref (G.1 + b)), (1, .int (nI f)), (2, .int (nI (uP T (2 ^ f) p))), (3, .int (nI (p + 1)))] [] σ := by
    intro d
    induction d with
    | zero =>
      intro p hpp
      refine sg_X3_partOf_6 C hR hT b hb _ _ _ _ ⟨fun _ => ⟨by rw [show p = tM T - 1 by omega], rfl⟩, fun q => absurd ?_ q⟩
      rw [hp.1, nI_le_iff (by omega) (by omega)]; omega
    | succ d ih =>
      intro p hpp
      refine sg_X3_partOf_6 C hR hT b hb _ _ _ _ ⟨fun q => ?_, fun _ => ?_⟩
      · rw [hp.1, nI_le_iff (by omega) (by omega)] at q; omega
      · refine inner (p + 1) _ (uP_lt hv h256 p) ?_ (tW T) 0 (by omega)
        rw [nI_1]
        exact ih (p + 1) (by omega)
  exact outer (tM T - 1) 0 (by omega)
theorem k_X3_parts {b : Nat} (hb : gw_plan b) (hp : RP σ b T) (hv : VT T) : gw_M l G yX3_parts cX3_parts 4 (some .int) 1 [.ref (G.1 + b)] σ (fi (fun q τ => q = nI (cN (rtB T) (tM T)) ∧ τ = σ)) := by
  have h8 := hv.1
  refine gw_met (by decide) (Nat.le_of_ble_eq_true rfl) (fun x C hR hT => sg_X3_parts_0 C hR hT b hb σ ?_)
  have key : ∀ d i, i + d = tM T → ∀ s, s < 256 → (∀ j, j < tM T → (s.testBit j = true ↔ ∃ a, a < i ∧ cn T a j)) → PW x G 4 6 [(0, .ref (G.1 + b)), (1, .int (nI s)), (2, .int (nI (cN (rtB T) i))), (3, .int (nI i))] [] σ := by
    intro d
    induction d with
    | zero =>
      intro i hi s hs hb'
      refine sg_X3_parts_6 C hR hT b hb _ _ _ _ ⟨fun _ => ⟨by rw [show i = tM T by omega], rfl⟩, fun q => absurd ?_ q⟩
      rw [hp.1, nI_le_iff (by omega) (by omega)]; omega
    | succ d ih =>
      intro i hi s hs hb'
      have hx := ih (i + 1) (by omega)
      refine sg_X3_parts_6 C hR hT b hb _ _ _ _ ⟨fun q => ?_, fun _ => ⟨fun h => ?_, fun h => ?_⟩⟩
      · rw [hp.1, nI_le_iff (by omega) (by omega)] at q; omega
      · rw [rb_t (by omega) (by omega)] at h
        have hbt : s.testBit i = true := by simpa using h
        obtain ⟨a, ha, hc⟩ := (hb' i (by omega)).mp hbt
        have hr : rtB T i = false := by
          cases e : rtB T i
          · rfl
          · exact absurd hc (rtB_iff.mp e a ha)
        have := hx s hs (fun j hj => by
          rw [hb' j hj]
          constructor
          · rintro ⟨a', h1, h2⟩; exact ⟨a', by omega, h2⟩
          · rintro ⟨a', h1, h2⟩
            by_cases e : a' = i
            · subst e; exact ⟨a, ha, hc.tr h2⟩
            · exact ⟨a', by omega, h2⟩)
        rw [cN, hr] at this
        simp only [Bool.false_eq_true, if_false] at this
        rw [nI_1]; exact this
      · rw [rb_t (by omega) (by omega)] at h
        have hr : rtB T i = true := rtB_iff.mpr (fun j hj hc => by
          have := (hb' i (by omega)).mpr ⟨j, hj, hc⟩
          rw [h] at this; cases this)
        refine ⟨_, k_X3_partOf hb hp hv (by omega), ?_⟩
        rintro q τ ⟨rfl, rfl⟩
        have h256 : 2 ^ i < 256 := Nat.pow_lt_pow_right (a := 2) (n := 8) (by decide) (by omega)
        have := hx (s ||| uP T (2 ^ i) (tM T - 1)) (Nat.or_lt_two_pow (n := 8) hs (uP_lt hv h256 _)) (fun j hj => by
          rw [Nat.testBit_or, Bool.or_eq_true, hb' j hj, uP_iff hv (by omega)]
          constructor
          · rintro (⟨a', h1, h2⟩ | h1)
            · exact ⟨a', by omega, h2⟩
            · exact ⟨i, by omega, h1⟩
          · rintro ⟨a', h1, h2⟩
            by_cases e : a' = i
            · subst e; exact Or.inr h2
            · exact Or.inl ⟨a', by omega, h2⟩)
        rw [cN, hr, if_pos rfl] at this
        rw [rb_or, nI_1, nI_1]; exact this
  exact key (tM T) 0 (by omega) 0 (by decide) (fun j hj => by
    rw [Nat.zero_testBit]
    constructor
    · intro h; cases h
    · rintro ⟨a, ha, _⟩; exact absurd ha (Nat.not_lt_zero a))
end RA
