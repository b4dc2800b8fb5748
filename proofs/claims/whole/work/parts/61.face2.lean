/-! the class's calls: load, rounds, what would be -/
section FC
variable {l : Launch} {G : gw_G} {σ : gw_S} {A : aS} {T : pT}
theorem k_X7_obeysText {X : xT} {i q : Nat} (hx : xCl σ X) (hX : xV X) (hi : i < X.1) (hE : cmdE X i = none) (hp : RP σ 3 T) (hv : VT T) : gw_M l G yX7_obeysText cX7_obeysText 2 (some .boolean) 4 [.ref (G.1 + 0), .int (nI i)] σ (fz (fun r τ => (r = true → (obey X i (T, q)).2 = q) ∧ (r = false → (obey X i (T, q)).2 = q + 1) ∧ RP τ 3 (obey X i (T, q)).1 ∧ SP 3 σ τ)) := by
  have h120 := hX.1
  have hA := tAt_lt hX i
  have hne : dg (tAt X i) ≠ 0 := fun y => by unfold cmdE at hE; rw [if_pos y] at hE; cases hE
  have hall : ∀ j, 1 ≤ j → j < 1 + dg (tAt X i) → okd X i j = true := by
    unfold cmdE at hE; rw [if_neg hne] at hE; exact cmE_none _ _ hE
  refine gw_met (by decide) (Nat.le_of_ble_eq_true rfl) (fun x C hR hT => sg_X7_obeysText_0 C hR hT _ σ ⟨_, k_X5_at hx hX (by omega), ?_⟩)
  rintro r τ ⟨rfl, rfl⟩
  rw [show (99 : Int32) = nI 99 from rfl, show (109 : Int32) = nI 109 from rfl, show (119 : Int32) = nI 119 from rfl, nI_eq_iff (by omega) (by omega), nI_eq_iff (by omega) (by omega), nI_eq_iff (by omega) (by omega), show (1 : Int32) = nI 1 from rfl, show (2 : Int32) = nI 2 from rfl, show (3 : Int32) = nI 3 from rfl, show (4 : Int32) = nI 4 from rfl, show (5 : Int32) = nI 5 from rfl, show (6 : Int32) = nI 6 from rfl, nI_add, nI_add, nI_add, nI_add, nI_add, nI_add]
  have dgt : ∀ k, 1 ≤ k → k < 1 + dg (tAt X i) → gw_M x.2.1 G yX5_digit cX5_digit 2 (some .int) 1 [.ref (G.1 + 1), .int (nI (i + k))] τ (fi (fun r τ' => r = nI (tAt X (i + k) - 48) ∧ τ' = τ)) := fun k h1 h2 => by
    have hk := okd_i (hall k h1 h2)
    exact k_X5_digit hx hX (by omega) (okd_d (hall k h1 h2)).1
  have d9 : ∀ k, 1 ≤ k → k < 1 + dg (tAt X i) → tAt X (i + k) - 48 ≤ 9 := fun k h1 h2 => by
    have := okd_d (hall k h1 h2); omega
  refine ⟨fun e => ?_, fun e => ?_, fun e => ?_, fun e1 e2 e3 => ?_⟩
  · have hd : dg (tAt X i) = 2 := by rw [e]; rfl
    refine ⟨_, dgt 1 (by omega) (by omega), ?_⟩
    rintro r τ' ⟨rfl, rfl⟩
    refine ⟨_, dgt 2 (by omega) (by omega), ?_⟩
    rintro r τ' ⟨rfl, rfl⟩
    have b1 := d9 1 (by omega) (by omega)
    have b2 := d9 2 (by omega) (by omega)
    have ob : obey X i (T, q) = (oTC T (10 * (tAt X (i + 1) - 48) + (tAt X (i + 2) - 48)), if 10 * (tAt X (i + 1) - 48) + (tAt X (i + 2) - 48) < tW T then q else q + 1) := by
      unfold obey; rw [e, if_neg (by decide), if_neg (by decide), if_pos rfl]
    rw [show (10 : Int32) = nI 10 from rfl, pk_mul, nI_add, Nat.mul_comm (tAt X (i + 1) - 48) 10]
    refine ⟨_, k_X3_triesCut gp3 hp hv (by omega), ?_⟩
    rintro r τ2 ⟨rfl, g1, g2⟩
    rw [ob]
    refine ⟨fun z => by rw [if_pos (by simpa using z)], fun z => by rw [if_neg (by simpa using z)], g1, g2⟩
  · have hd : dg (tAt X i) = 2 := by rw [e]; rfl
    refine ⟨_, dgt 1 (by omega) (by omega), ?_⟩
    rintro r τ' ⟨rfl, rfl⟩
    refine ⟨_, dgt 2 (by omega) (by omega), ?_⟩
    rintro r τ' ⟨rfl, rfl⟩
    have k1 := okd_i (hall 1 (by omega) (by omega))
    have k2 := okd_i (hall 2 (by omega) (by omega))
    rw [e, show ∀ j b, hiC 109 j b = 51 from fun _ _ => rfl] at k1 k2
    have ob : obey X i (T, q) = (oTM T (tAt X (i + 1) - 48) (tAt X (i + 2) - 48), if tM T < 8 then q else q + 1) := by
      unfold obey; rw [e, if_pos rfl]
    refine ⟨_, k_X3_triesModule gp3 hp hv (by omega) (by omega), ?_⟩
    rintro r τ2 ⟨rfl, g1, g2⟩
    rw [ob]
    refine ⟨fun z => by rw [if_pos (by simpa using z)], fun z => by rw [if_neg (by simpa using z)], g1, g2⟩
  · have hd : dg (tAt X i) = 6 := by rw [e]; rfl
    refine ⟨_, dgt 1 (by omega) (by omega), ?_⟩
    rintro r τ' ⟨rfl, rfl⟩
    refine ⟨_, dgt 2 (by omega) (by omega), ?_⟩
    rintro r τ' ⟨rfl, rfl⟩
    refine ⟨_, dgt 3 (by omega) (by omega), ?_⟩
    rintro r τ' ⟨rfl, rfl⟩
    refine ⟨_, dgt 4 (by omega) (by omega), ?_⟩
    rintro r τ' ⟨rfl, rfl⟩
    refine ⟨_, dgt 5 (by omega) (by omega), ?_⟩
    rintro r τ' ⟨rfl, rfl⟩
    refine ⟨_, dgt 6 (by omega) (by omega), ?_⟩
    rintro r τ' ⟨rfl, rfl⟩
    have b1 := d9 1 (by omega) (by omega)
    have b2 := d9 2 (by omega) (by omega)
    have b3 := d9 3 (by omega) (by omega)
    have b4 := d9 4 (by omega) (by omega)
    have b5 := d9 5 (by omega) (by omega)
    have b6 := d9 6 (by omega) (by omega)
    have ob : obey X i (T, q) = (oTW T (tAt X (i + 1) - 48) (tAt X (i + 2) - 48) (tAt X (i + 3) - 48) (tAt X (i + 4) - 48) (10 * (tAt X (i + 5) - 48) + (tAt X (i + 6) - 48)), if twB T (tAt X (i + 1) - 48) (tAt X (i + 2) - 48) (tAt X (i + 3) - 48) (tAt X (i + 4) - 48) (10 * (tAt X (i + 5) - 48) + (tAt X (i + 6) - 48)) = true then q else q + 1) := by
      unfold obey; rw [e, if_neg (by decide), if_pos rfl]
    rw [show (10 : Int32) = nI 10 from rfl, pk_mul, nI_add, Nat.mul_comm (tAt X (i + 5) - 48) 10]
    refine ⟨_, k_X3_triesWire gp3 hp hv (by omega) (by omega) (by omega) (by omega) (by omega), ?_⟩
    rintro r τ2 ⟨rfl, g1, g2⟩
    rw [ob]
    refine ⟨fun z => by rw [if_pos z], fun z => by rw [if_neg (by rw [z]; decide)], g1, g2⟩
  · have h4 : tAt X i = 102 := by
      rcases dg_cases hne with h | h | h | h
      · exact absurd h e1
      · exact h
      · exact absurd h e2
      · exact absurd h e3
    have hd : dg (tAt X i) = 1 := by rw [h4]; rfl
    refine ⟨_, dgt 1 (by omega) (by omega), ?_⟩
    rintro r τ' ⟨rfl, rfl⟩
    have b1 := d9 1 (by omega) (by omega)
    have ob : obey X i (T, q) = (oTF T (tAt X (i + 1) - 48), if tfB T (tAt X (i + 1) - 48) = true then q else q + 1) := by
      unfold obey; rw [h4, if_neg (by decide), if_neg (by decide), if_neg (by decide)]
    refine ⟨_, k_X3_triesWork gp3 hp hv (by omega), ?_⟩
    rintro r τ2 ⟨rfl, g1, g2⟩
    rw [ob]
    refine ⟨fun z => by rw [if_pos z], fun z => by rw [if_neg (by rw [z]; decide)], g1, g2⟩
theorem errF_none {X : xT} : ∀ f i, errF X (f + 1) i = none → i < X.1 → cmdE X i = none ∧ errF X f (i + (1 + dg (tAt X i))) = none := by
  intro f i h hi
  rw [errF, if_pos hi] at h
  cases e : cmdE X i with
  | none => rw [e] at h; exact ⟨rfl, h⟩
  | some k => rw [e] at h; cases h
theorem f_load (hst : l.stackTraces = false) (h : CI σ A) (hv : VA A) : gw_MX l G yX7_load cX7_load 3 (some .int) 7 [.ref (G.1 + 0)] σ (fi (cA (anLoad A) σ)) (cK (anLoad A) σ) := by
  have h120 := hv.1.1
  refine gw_face hst rfl (Nat.le_of_ble_eq_true rfl) (fun x C hR hT hX => sg_X7_load_0 hX C hR hT σ ⟨_, k_X5_firstError h.1 hv.1, ?_⟩)
  rintro r τ ⟨rfl, rfl⟩
  have hoX : ∀ o : Option Nat, (∀ e, o = some e → e < 2 ^ 31) → (oX o = -1 ↔ o = none) := fun o ho => by
    cases o with
    | none => exact ⟨fun _ => rfl, fun _ => rfl⟩
    | some e => exact ⟨fun z => absurd z (nI_m1 (ho e rfl)), fun z => by cases z⟩
  have hbound : ∀ e, errX A.1 = some e → e < 2 ^ 31 := by
    have hcm : ∀ i e, cmdE A.1 i = some e → e ≤ i + 7 := by
      intro i e hc
      have : ∀ d k, k + d ≤ 7 → cmE A.1 i d k = some e → e ≤ i + 7 := by
        intro d
        induction d with
        | zero => intro k _ h; cases h
        | succ d ih2 =>
          intro k hk h
          rw [cmE] at h
          split at h
          · exact ih2 (k + 1) (by omega) h
          · cases h; omega
      unfold cmdE at hc
      split at hc
      · cases hc; omega
      · have hdl := dg_le (tAt A.1 i)
        exact this _ _ (by omega) hc
    have hall : ∀ f i e, errF A.1 f i = some e → e ≤ 130 := by
      intro f
      induction f with
      | zero => intro i e h; cases h
      | succ f ih =>
        intro i e h
        rw [errF] at h
        split at h
        · next hi =>
          cases hc : cmdE A.1 i with
          | none => rw [hc] at h; exact ih _ e h
          | some e1 =>
            rw [hc] at h
            have q1 := Option.some.inj h
            have q2 := hcm i e1 hc
            omega
        · cases h
    intro e he
    unfold errX at he
    split at he
    · have := hall _ _ _ he; omega
    · cases he; decide
  have hiff := hoX _ hbound
  refine ⟨fun z => ?_, fun z => ?_⟩
  · have hn : ¬ errX A.1 = none := fun y => by rw [if_pos (hiff.mpr y)] at z; exact z rfl
    rw [if_neg (fun y => hn (hiff.mp y))]
    unfold anLoad; rw [if_neg hn]; exact ⟨rfl, h, KC.rf⟩
  · have hn : errX A.1 = none := by
      by_cases y : errX A.1 = none
      · exact y
      · rw [if_neg (fun w => y (hiff.mp w))] at z; cases z
    have h77 : tAt A.1 0 = 77 := by
      unfold errX at hn
      by_cases y : tAt A.1 0 = 77
      · exact y
      · rw [if_neg y] at hn; cases hn
    have hE : errF A.1 120 1 = none := by unfold errX at hn; rw [if_pos h77] at hn; exact hn
    intro τ4 h4 τ5 h5
    have e4 : ∀ k, k ≠ 3 → τ4.1 k = τ.1 k := fun k hk => by rw [h4, gw_u_k _ _ _ hk, gw_u_k _ _ _ hk]
    obtain ⟨b1, b2, b3⟩ := uk h5
    have x4 : τ4.2 = τ.2 := by rw [h4]; rfl
    -- what stands behind the forgetting
    have base : ∀ (υ : gw_S) (T : pT), (∀ k, (k < 3 ∨ 12 ≤ k) → k ≠ 12 → k ≠ 141 → υ.1 k = τ.1 k) → υ.2 = τ.2 → υ.1 12 = τ5.1 12 → (∀ s, s < 2 → υ.1 141 s = 0) → RP υ 3 T → CI υ (A.1, T, A.2.2.1, 0, fun _ => none) ∧ KC τ υ := by
      intro υ T e1 e2 e12 e141 hp
      obtain ⟨c1, c2, ⟨o, ho, c3, c4⟩, c5, c6⟩ := h
      refine ⟨⟨⟨by rw [e1 1 (by omega) (by decide) (by decide)]; exact c1.1, fun i hi => by rw [e1 2 (by omega) (by decide) (by decide)]; exact c1.2 i hi⟩, hp, ⟨o, ho, by rw [e12, b2, pk_un (by decide), e4 12 (by decide)]; exact c3, fun i hi => absurd hi (Nat.not_lt_zero i)⟩, by rw [e12, b2, pk_us]; rfl, fun s hs => ⟨e141 s hs, fun U hU => by cases hU⟩⟩, e2, fun k hk => e1 k (by omega) (by omega) (by omega)⟩
    have fin : ∀ f i (υ : gw_S) (s : pT × Nat), A.1.1 ≤ i + f → 1 ≤ i → i ≤ 127 → (∀ k, (k < 3 ∨ 12 ≤ k) → k ≠ 12 → k ≠ 141 → υ.1 k = τ.1 k) → υ.2 = τ.2 → υ.1 12 = τ5.1 12 → (∀ s, s < 2 → υ.1 141 s = 0) → RP υ 3 s.1 → VT s.1 → errF A.1 f i = none → ldF A.1 f i s = ldX A.1 → PW x G 3 61 [(0, .ref (G.1 + 0)), (1, .int (nI s.2)), (2, .int (nI i))] [] υ := by
      intro f
      induction f with
      | zero =>
        intro i υ s hi h1 h7 e1 e2 e12 e141 hp hvs hf hl
        obtain ⟨c, kc⟩ := base υ s.1 e1 e2 e12 e141 hp
        have c11 : υ.1 1 1 = nI A.1.1 := c.1.1
        have hs : s = ldX A.1 := hl
        refine sg_X7_load_61 hX C hR hT _ _ υ ⟨fun _ => ?_, fun y => absurd ?_ y⟩
        · unfold anLoad; rw [if_pos hn, ← hs]; exact ⟨rfl, rfl, c, kc⟩
        · rw [c11, nI_le_iff (by omega) (by omega)]; omega
      | succ f ih =>
        intro i υ s hi h1 h7 e1 e2 e12 e141 hp hvs hf hl
        obtain ⟨c, kc⟩ := base υ s.1 e1 e2 e12 e141 hp
        have c11 : υ.1 1 1 = nI A.1.1 := c.1.1
        refine sg_X7_load_61 hX C hR hT _ _ υ ⟨fun y => ?_, fun y => ?_⟩
        · rw [c11, nI_le_iff (by omega) (by omega)] at y
          have y : A.1.1 ≤ i := y
          have hs : s = ldX A.1 := by rw [← hl, ldF, if_neg (by omega)]
          unfold anLoad; rw [if_pos hn, ← hs]; exact ⟨rfl, rfl, c, kc⟩
        · rw [c11, nI_le_iff (by omega) (by omega)] at y
          have hiX : i < A.1.1 := by have y : ¬ A.1.1 ≤ i := y; omega
          obtain ⟨g1, g2⟩ := errF_none f i hf hiX
          have hne : dg (tAt A.1 i) ≠ 0 := fun w => by unfold cmdE at g1; rw [if_pos w] at g1; cases g1
          have hlast : i + dg (tAt A.1 i) < A.1.1 := by
            have g1' := g1
            unfold cmdE at g1'; rw [if_neg hne] at g1'
            exact (okd_i (cmE_none _ _ g1' (dg (tAt A.1 i)) (by omega) (by omega))).1
          have hdl := dg_le (tAt A.1 i)
          have hc256 := tAt_lt hv.1 i
          refine ⟨_, k_X7_obeysText (q := s.2) c.1 hv.1 hiX g1 hp hvs, ?_⟩
          rintro r υ2 ⟨r1, r2, p2, S2⟩
          have x2 : xCl υ2 A.1 := ⟨by rw [S2.2 1 (by omega)]; exact c.1.1, fun i hi => by rw [S2.2 2 (by omega)]; exact c.1.2 i hi⟩
          refine ⟨_, k_X5_at x2 hv.1 (by omega), ?_⟩
          rintro r' υ3 ⟨rfl, rfl⟩
          refine ⟨_, k_X5_digitsOf (by omega), ?_⟩
          rintro r' υ4 ⟨rfl, rfl⟩
          have hcnt : (if r = false then nI s.2 + 1 else nI s.2 : Int32) = nI (obey A.1 i (s.1, s.2)).2 := by
            cases hr : r
            · rw [if_pos rfl, nI_1, r2 hr]
            · rw [if_neg (by decide), r1 hr]
          rw [hcnt, show (1 : Int32) = nI 1 from rfl, nI_add, nI_add]
          refine ih _ υ4 (obey A.1 i s) (by omega) (by omega) (by omega) (fun k hk1 hk2 hk3 => by rw [S2.2 k (by omega)]; exact e1 k hk1 hk2 hk3) (by rw [S2.1]; exact e2) (by rw [S2.2 12 (by omega)]; exact e12) (fun s hs => by rw [S2.2 141 (by omega)]; exact e141 s hs) p2 (VT_obey hvs g1) g2 ?_
          rw [← hl, ldF, if_pos hiX]
    have saved : ∀ d j, j + d = 2 → ∀ υ : gw_S, (∀ k, k ≠ 141 → υ.1 k = τ5.1 k) → υ.2 = τ5.2 → (∀ s, s < j → υ.1 141 s = 0) → PW x G 3 39 [(0, .ref (G.1 + 0)), (1, .int (nI j))] [] υ := by
      intro d
      induction d with
      | zero =>
        intro j hj υ e1 e2 hz
        refine sg_X7_load_39 hX C hR hT _ υ ⟨fun _ => ?_, fun y => absurd ?_ y⟩
        · refine fin 120 1 υ (oNil, 0) (by omega) (by omega) (by omega) (fun k hk1 hk2 hk3 => by rw [e1 k hk3, b1 k hk2, e4 k (by omega)]) (by rw [e2, b3, x4]) (e1 12 (by decide)) (fun s hs => hz s (by omega)) ⟨?_, ?_, fun m hm => absurd hm (Nat.not_lt_zero m), fun w hw => absurd hw (Nat.not_lt_zero w)⟩ VT_nil hE rfl
          · rw [e1 3 (by decide), b1 3 (by decide), h4, gw_u_if, if_neg (by decide), gw_u_at]; rfl
          · rw [e1 3 (by decide), b1 3 (by decide), h4, gw_u_at]; rfl
        · rw [show (2 : Int32) = nI 2 from rfl, nI_le_iff (by omega) (by omega)]; omega
      | succ d ih =>
        intro j hj υ e1 e2 hz
        refine sg_X7_load_39 hX C hR hT _ υ ⟨fun y => ?_, fun _ => ⟨vp_in_nI (by omega) (by decide), ?_⟩⟩
        · rw [show (2 : Int32) = nI 2 from rfl, nI_le_iff (by omega) (by omega)] at y; omega
        · intro υ2 hu
          rw [nI_clamp (by omega)] at hu
          obtain ⟨u1, u2, u3⟩ := uk hu
          rw [nI_1]
          refine ih (j + 1) (by omega) υ2 (fun k hk => by rw [u1 k hk]; exact e1 k hk) (by rw [u3]; exact e2) (fun s hs => ?_)
          rw [u2]
          by_cases w : s = j
          · rw [w, pk_us]
          · rw [pk_un w]; exact hz s (by omega)
    exact saved 2 0 (by omega) τ5 (fun _ _ => rfl) rfl (fun s hs => absurd hs (Nat.not_lt_zero s))
theorem FX.s {lo hi : Nat} {σ τ : gw_S} (h : FX lo hi σ τ) (h1 : 142 ≤ lo) (h2 : hi ≤ 171) : FX 142 171 σ τ := h.mono h1 h2
theorem f_round (hst : l.stackTraces = false) (h : CI σ A) (hv : VA A) (r : Int32) : gw_MX l G yX7_round cX7_round 2 (some .int) 7 [.ref (G.1 + 0), .int r] σ (fi (cA (anRound A r) σ)) (cK (anRound A r) σ) := by
  refine gw_face hst rfl (Nat.le_of_ble_eq_true rfl) (fun x C hR hT hX => sg_X7_round_0 hX C hR hT _ σ ?_)
  change (¬ rgI 0 2 r = 0 → _) ∧ (rgI 0 2 r = 0 → _)
  refine ⟨fun z => ?_, fun z => ?_⟩
  · unfold anRound; rw [if_neg z]; exact ⟨rgI_n z, h, KC.rf⟩
  obtain ⟨j, _, hj, rfl⟩ := rgI_0 (lo := 0) (hi := 2) (by decide) (by decide) z
  refine ⟨_, k_X0_follow gp3 (by omega) h.p hv.2.1 (by omega), ?_⟩
  rintro τ2 ⟨hF, hS⟩
  have hc := FO_c hv.2.1 hF
  have c2 := h.scr (hS.s (by decide) (by decide))
  rw [hc]
  unfold anRound
  rw [if_pos z, nI_clamp (by omega)]
  refine ⟨fun y => ?_, fun y => ⟨_, k_X2_remember c2 hv, ?_⟩⟩
  · cases e : rC A.2.1 j
    · rw [if_pos rfl, if_neg (by decide)]; exact ⟨rfl, c2, hS.kc (by decide)⟩
    · rw [e, if_neg (by decide)] at y; exact absurd rfl y
  · have e : rC A.2.1 j = true := by
      cases e : rC A.2.1 j
      · rw [e, if_pos rfl] at y; cases y
      · rfl
    have ha : agB A.2.1 = true := by unfold rC at e; rw [Bool.and_eq_true] at e; exact e.1
    rintro τ4 ⟨c4, kc4, out4⟩
    have h4 := hF.2.2.2.1
    rw [if_pos ha] at h4
    have p154 : RP τ4 154 (rE A.2.1 j).1 := h4.cong (fun i hi => out4 _ (by omega) (by omega))
    refine ⟨_, k_X0_takeOver gp3 (by omega) p154 (VT_rE hv.2.1), ?_⟩
    rintro q τ6 ⟨rfl, g1, g2⟩
    rw [if_pos e]
    refine ⟨rfl, ?_, c4.plan g1 g2, ((hS.kc (by decide)).tr kc4).tr g2.kc3⟩
    rw [out4 151 (by omega) (by omega), hF.2.2.1, if_pos ha]
end FC
