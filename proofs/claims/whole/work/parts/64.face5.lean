/-! the class's calls: scripts, simulations, slots -/
section FC
variable {l : Launch} {G : gw_G} {σ : gw_S} {A : aS}
theorem lN_nn {a : Nat} (ha : a < 2 ^ 63) : (lN a).toInt.toNat = a := by rw [pk_lT ha]; exact Int.toNat_natCast a
theorem f_runScript (hst : l.stackTraces = false) (h : CI σ A) (hv : VA A) (n : Int32) (v : Int64) : gw_MX l G yX7_runScript cX7_runScript 5 (some .int) 7 [.ref (G.1 + 0), .int n, .long v] σ (fi (cA (anScript A n v) σ)) (cK (anScript A n v) σ) := by
  refine gw_face hst rfl (Nat.le_of_ble_eq_true rfl) (fun x C hR hT hX => sg_X7_runScript_0 hX C hR hT _ _ σ ?_)
  change (¬ rgI 1 3 n = 0 → _) ∧ (rgI 1 3 n = 0 → _)
  refine ⟨fun z => ?_, fun z => ?_⟩
  · unfold anScript; rw [if_neg z]; exact ⟨rgI_n z, h, KC.rf⟩
  obtain ⟨k, hk1, hk, rfl⟩ := rgI_0 (lo := 1) (hi := 3) (by decide) (by decide) z
  rw [propext (lg_cmp_lt v 0)]
  refine ⟨fun y => ⟨fun _ => ?_, fun q => absurd q (by decide)⟩, fun y => ?_⟩
  · unfold anScript; rw [if_pos z, if_pos y]; exact ⟨rfl, h, KC.rf⟩
  obtain ⟨a, ha, rfl⟩ := pk_lOf y
  refine ⟨_, k_X7_withoutGroups (n := k) ha (by omega), ?_⟩
  rintro r τ4 ⟨rfl, rfl⟩
  have hp : 0 < 1000000 ^ k := Nat.pow_pos (by decide)
  have hc : (lg_cmp (lN (a / 1000000 ^ k)) 0 ≤ 0) ↔ (a < 1000000 ^ k) := by
    rw [lg_cmp_le, show (0 : Int64) = lN 0 from rfl, pk_lLE (Nat.lt_of_le_of_lt (Nat.div_le_self _ _) ha) (by decide)]
    refine ⟨fun q => ?_, fun q => by rw [Nat.div_eq_of_lt q]; exact Nat.le_refl _⟩
    rcases Nat.lt_or_ge a (1000000 ^ k) with w | w
    · exact w
    · have := Nat.div_pos w hp
      omega
  have ea : a < 1000000 ^ k → anScript A (nI k) (lN a) = (0, scF a k k 0 A.2.1, A) := fun w => by
    unfold anScript; rw [if_pos z, if_neg y, nI_clamp (by omega), lN_nn ha, if_pos w]
  have en : ¬ a < 1000000 ^ k → anScript A (nI k) (lN a) = (2, 0, A) := fun w => by
    unfold anScript; rw [if_pos z, if_neg y, nI_clamp (by omega), lN_nn ha, if_neg w]
  rw [gif hc]
  refine ⟨fun y2 => ?_, fun y2 => ?_⟩
  · have y3 : ¬ a < 1000000 ^ k := fun q => y2 (if_pos q)
    rw [if_neg y3, en y3]; exact ⟨rfl, h, KC.rf⟩
  have y3 : a < 1000000 ^ k := by
    by_cases q : a < 1000000 ^ k
    · exact q
    · rw [if_neg q] at y2; cases y2
  rw [ea y3] at hT
  refine ⟨_, k_X3_become gp142 gp3 (by decide) h.p hv.2.1, ?_⟩
  rintro τ7 ⟨p7, S7⟩
  have X7 : FX 142 171 τ4 τ7 := S7.fx.mono (by decide) (by decide)
  have key : ∀ f i (T : pT) (τ : gw_S), i + f = k → RP τ 142 T → VT T → FX 142 171 τ4 τ → scF a k f i T = scF a k k 0 A.2.1 → PW x G 5 51 [(0, .ref (G.1 + 0)), (1, .int (nI k)), (2, .long (lN a)), (4, .int (nI i))] [] τ := by
    intro f
    induction f with
    | zero =>
      intro i T τ hi hp hvT hS he
      refine sg_X7_runScript_51 hX C hR hT _ _ _ τ ⟨fun _ => ⟨rfl, he, h.scr hS, hS.kc (by decide)⟩, fun q => absurd ?_ q⟩
      rw [nI_le_iff (by omega) (by omega)]; omega
    | succ f ih =>
      intro i T τ hi hp hvT hS he
      refine sg_X7_runScript_51 hX C hR hT _ _ _ τ ⟨fun q => ?_, fun _ => ?_⟩
      · rw [nI_le_iff (by omega) (by omega)] at q; omega
      rw [show (1 : Int32) = nI 1 from rfl, pk_sub (by omega), pk_sub (by omega), nI_add]
      refine ⟨_, k_X7_withoutGroups (n := k - 1 - i) ha (by omega), ?_⟩
      rintro r τ2 ⟨rfl, rfl⟩
      rw [show (1000000 : Int64) = lN 1000000 from rfl, pk_lRem (Nat.lt_of_le_of_lt (Nat.div_le_self _ _) ha) (by decide) (by decide), lN_i]
      refine ⟨_, k_X7_obeysGroup (g := a / 1000000 ^ (k - 1 - i) % 1000000) (Nat.lt_trans (Nat.mod_lt _ (by decide)) (by decide)) hp hvT, ?_⟩
      rintro q τ5 ⟨rfl, p5, S5⟩
      have X5 := hS.tr (S5.mono (by decide) (by decide))
      refine ⟨fun e => ?_, fun e => ⟨rfl, ?_, h.scr X5, X5.kc (by decide)⟩⟩
      · refine ih (i + 1) _ τ5 (by omega) p5 (VT_g hvT _ _) X5 ?_
        rw [← he, scF, if_pos (by simpa using e)]
      · show nI i = scF a k k 0 A.2.1
        rw [← he, scF, if_neg (by rw [e]; decide)]
  exact key k 0 A.2.1 τ7 (by omega) p7 hv.2.1 X7 rfl
theorem smF_s (f : Nat) (x : Int64) (s : pT × Nat) : smF (f + 1) x s = smF f (nxS x) ((uT s.1 (shS (nxS x)).toNatClampNeg).1, s.2 + (uT s.1 (shS (nxS x)).toNatClampNeg).2) := smG_s nxS shS f x s
theorem smF_0 (x : Int64) (s : pT × Nat) : smF 0 x s = s := rfl
theorem uT_le {T : pT} (hv : VT T) (n : Nat) : (uT T n).2 ≤ 480 := by
  unfold uT
  split
  · exact Nat.zero_le _
  · split
    · exact Nat.zero_le _
    · split
      · show (if tRB T (n / 512 % 3) = true then rL T (n / 512 % 3) else 0) ≤ 480
        split
        · next e =>
          have ha : agB T = true := rC_a (r := n / 512 % 3) (by unfold tRB at e; rw [Bool.and_eq_true] at e; exact e.2)
          exact (rL_480 hv ha).1
        · exact Nat.zero_le _
      · show (if tfB T (n / 8 % 8) = true then 1 else 0) ≤ 480
        split <;> omega
theorem u64i (u : UInt64) : u.toInt64 = lN u.toNat := by
  show u.toInt64 = (UInt64.ofNat u.toNat).toInt64
  rw [UInt64.ofNat_toNat]
theorem shS_n (y : Int64) : ∃ j, j < 2 ^ 31 ∧ shS y = nI j := by
  refine ⟨(y.toUInt64 >>> 33).toNat, ?_, ?_⟩
  · rw [UInt64.toNat_shiftRight, show (33 : UInt64).toNat % 64 = 33 from rfl, Nat.shiftRight_eq_div_pow]
    have := y.toUInt64.toNat_lt
    omega
  · show ((y.toUInt64 >>> (33 : UInt64)).toInt64).toInt32 = _
    rw [u64i, lN_i]
theorem mnI_i {n : Nat} (hn : n < 2 ^ 31) : (if (999 : Int32) < nI n then 999 else nI n) = nI (mnI n) := by
  rw [show (999 : Int32) = nI 999 from rfl, gif (nI_ltI (by decide) hn)]
  unfold mnI
  split <;> rfl
theorem mnI_le (n : Nat) : mnI n ≤ 999 := by unfold mnI; split <;> omega
theorem f_simulate (hst : l.stackTraces = false) (h : CI σ A) (hv : VA A) (v : Int64) (m : Int32) : gw_MX l G yX7_simulate cX7_simulate 8 (some .int) 7 [.ref (G.1 + 0), .long v, .int m] σ (fi (cA (anSim A v m) σ)) (cK (anSim A v m) σ) := by
  refine gw_face hst rfl (Nat.le_of_ble_eq_true rfl) (fun x C hR hT hX => sg_X7_simulate_0 hX C hR hT _ _ σ ?_)
  change (¬ rgI 1 99 m = 0 → _) ∧ (rgI 1 99 m = 0 → _)
  refine ⟨fun z => ?_, fun z => ?_⟩
  · unfold anSim; rw [if_neg z]; exact ⟨rgI_n z, h, KC.rf⟩
  obtain ⟨k, hk1, hk, rfl⟩ := rgI_0 (lo := 1) (hi := 99) (by decide) (by decide) z
  have ea : anSim A v (nI k) = (0, nI (1000 * mnI (smF k v (A.2.1, 0)).2 + mnI (sN (tH (smF k v (A.2.1, 0)).1) (tW (smF k v (A.2.1, 0)).1))), A) := by
    unfold anSim; rw [if_pos z, nI_clamp (by omega)]
  rw [ea] at hT
  refine ⟨_, k_X3_become gp142 gp3 (by decide) h.p hv.2.1, ?_⟩
  rintro τ2 ⟨p2, S2⟩
  have X2 : FX 142 171 σ τ2 := S2.fx.mono (by decide) (by decide)
  have key : ∀ f i (y : Int64) (T : pT) (q : Nat) (τ : gw_S), i + f = k → q ≤ 480 * i → RP τ 142 T → VT T → FX 142 171 σ τ → smF f y (T, q) = smF k v (A.2.1, 0) → PW x G 8 30 [(0, .ref (G.1 + 0)), (1, .long v), (3, .int (nI k)), (4, .long y), (6, .int (nI q)), (7, .int (nI i))] [] τ := by
    intro f
    induction f with
    | zero =>
      intro i y T q τ hi hq hp hvT hS he
      refine sg_X7_simulate_30 hX C hR hT _ _ _ _ _ τ ⟨fun _ => ⟨_, k_X3_allMarks gp142 hp hvT, ?_⟩, fun q => absurd ?_ q⟩
      · rintro r τ3 ⟨rfl, rfl⟩
        refine ⟨rfl, ?_, h.scr hS, hS.kc (by decide)⟩
        have h14 := hvT.2.1
        have h1 := sN_le (f := tH T) (c := 999) (tW T) (fun i hi => (hvT.2.2.2 i hi).2.2.2.2.2.2)
        have h2 : tW T * 999 ≤ 14 * 999 := Nat.mul_le_mul_right _ h14
        rw [← he, smF_0, mnI_i (by omega), mnI_i (by omega), show (1000 : Int32) = nI 1000 from rfl, pk_mul, nI_add]
      · rw [nI_le_iff (by omega) (by omega)]; omega
    | succ f ih =>
      intro i y T q τ hi hq hp hvT hS he
      obtain ⟨j, hj, ej⟩ := shS_n (nxS y)
      have hM := k_X7_takeTurn (l := xl x) (G := G) (n := j) hj hp hvT
      rw [← ej] at hM
      refine sg_X7_simulate_30 hX C hR hT _ _ _ _ _ τ ⟨fun q => ?_, fun _ => ⟨_, hM, ?_⟩⟩
      · rw [nI_le_iff (by omega) (by omega)] at q; omega
      rintro r τ5 ⟨rfl, p5, S5⟩
      have X5 := hS.tr (S5.mono (by decide) (by decide))
      have hle := uT_le hvT j
      rw [nI_add, nI_1]
      refine ih (i + 1) (nxS y) _ _ τ5 (by omega) (by omega) p5 (VT_u hvT j) X5 ?_
      rw [← he, smF_s, ej, nI_clamp hj]
  exact key k 0 v A.2.1 0 τ2 (by omega) (by omega) p2 hv.2.1 X2 rfl
theorem hp2 : ∀ k, k < 2 → ([some 171, some 180] : List (Option Nat)).getD k none = some (171 + 9 * k) ∧ gw_plan (171 + 9 * k) := by
  intro k hk
  match k, hk with
  | 0, _ => exact ⟨rfl, gp_171⟩
  | 1, _ => exact ⟨rfl, gp_180⟩
  | k + 2, h => exact absurd h (by omega)
theorem f_save (hst : l.stackTraces = false) (h : CI σ A) (hv : VA A) (s : Int32) : gw_MX l G yX7_save cX7_save 2 (some .int) 7 [.ref (G.1 + 0), .int s] σ (fi (cA (anSave A s) σ)) (cK (anSave A s) σ) := by
  refine gw_face hst rfl (Nat.le_of_ble_eq_true rfl) (fun x C hR hT hX => sg_X7_save_0 hX C hR hT _ σ ?_)
  change (¬ slF s = 0 → _) ∧ (slF s = 0 → _)
  refine ⟨fun z => ?_, fun z => ?_⟩
  · unfold anSave; rw [if_neg z]; exact ⟨slF_n z, h, KC.rf⟩
  obtain ⟨j, hj, rfl⟩ := slF_0 z
  obtain ⟨z1, z2⟩ := hp2 j hj
  rw [nI_clamp (by omega)]
  refine ⟨vp_in_nI hj (by decide), _, z1, z2, _, k_X3_become z2 gp3 (by omega) h.p hv.2.1, ?_⟩
  rintro τ3 ⟨p3, S3⟩
  refine ⟨vp_in_nI hj (by decide), ?_⟩
  intro τ5 h5
  obtain ⟨u1, u2, u3⟩ := uk h5
  have e : ∀ k, (k < 171 + 9 * j ∨ 171 + 9 * j + 9 ≤ k) → k ≠ 141 → τ5.1 k = σ.1 k := fun k a b => by rw [u1 k b, S3.2 k a]
  unfold anSave
  rw [if_pos z, nI_clamp (by omega)]
  obtain ⟨h1, h2, ⟨o, ho, h3, h4⟩, h5', h6⟩ := h
  refine ⟨rfl, by rw [e 3 (by omega) (by decide)]; exact h2.2.1, ⟨⟨by rw [e 1 (by omega) (by decide)]; exact h1.1, fun i hi => by rw [e 2 (by omega) (by decide)]; exact h1.2 i hi⟩, h2.cong (fun i hi => e _ (by omega) (by omega)), ⟨o, ho, by rw [e 12 (by omega) (by decide)]; exact h3, fun i hi => (h4 i hi).cong (fun q hq => e _ (by omega) (by omega))⟩, by rw [e 12 (by omega) (by decide)]; exact h5', fun s hs => ?_⟩, ⟨by rw [u3, S3.1], fun k hk => e k (by omega) (by omega)⟩⟩
  show τ5.1 141 s = gz (if s = j then some A.2.1 else A.2.2.2.2 s).isSome ∧ ∀ U, (if s = j then some A.2.1 else A.2.2.2.2 s) = some U → RP τ5 (171 + 9 * s) U
  by_cases y : s = j
  · rw [if_pos y]
    refine ⟨by rw [u2, y, pk_us]; rfl, fun U hU => ?_⟩
    cases hU
    rw [y]
    exact p3.cong (fun i hi => u1 _ (by omega))
  · rw [if_neg y]
    exact ⟨by rw [u2, pk_un y, S3.2 141 (by omega)]; exact (h6 s hs).1, fun U hU => ((h6 s hs).2 U hU).cong (fun i hi => e _ (by omega) (by omega))⟩
theorem f_restore (hst : l.stackTraces = false) (h : CI σ A) (hv : VA A) (s : Int32) : gw_MX l G yX7_restore cX7_restore 2 (some .int) 7 [.ref (G.1 + 0), .int s] σ (fi (cA (anRestore A s) σ)) (cK (anRestore A s) σ) := by
  refine gw_face hst rfl (Nat.le_of_ble_eq_true rfl) (fun x C hR hT hX => sg_X7_restore_0 hX C hR hT _ σ ?_)
  change (¬ slF s = 0 → _) ∧ (slF s = 0 → _)
  refine ⟨fun z => ?_, fun z => ?_⟩
  · unfold anRestore; rw [if_neg z]; exact ⟨slF_n z, h, KC.rf⟩
  obtain ⟨j, hj, rfl⟩ := slF_0 z
  obtain ⟨z1, z2⟩ := hp2 j hj
  have ea : anRestore A (nI j) = (match A.2.2.2.2 j with
    | none => (3, 0, A)
    | some U => (0, nI (tW U), (A.1, U, A.2.2.1, 0, A.2.2.2.2))) := by
    unfold anRestore; rw [if_pos z, nI_clamp (by omega)] <;> rfl
  rw [nI_clamp (by omega), (h.2.2.2.2 j hj).1, ea]
  refine ⟨vp_in_nI hj (by decide), ?_⟩
  cases q : A.2.2.2.2 j with
  | none => exact ⟨fun _ => ⟨if_pos (by decide), h, KC.rf⟩, fun y => absurd y (by decide)⟩
  | some U =>
    refine ⟨fun y => absurd (if_neg (show ¬ gz (some U).isSome = 0 from (by decide : ¬ gz true = 0))) y, fun _ => ⟨vp_in_nI hj (by decide), _, z1, z2, _, k_X3_become gp3 z2 (by omega) ((h.2.2.2.2 j hj).2 U q) (hv.2.2.2.2 j hj U q), ?_⟩⟩
    rintro τ4 ⟨p4, S4⟩ τ5 h5
    obtain ⟨u1, u2, u3⟩ := uk h5
    have e : ∀ k, (k < 3 ∨ 12 ≤ k) → k ≠ 12 → τ5.1 k = σ.1 k := fun k a b => by rw [u1 k b, S4.2 k (by omega)]
    obtain ⟨h1, h2, ⟨o, ho, h3, h4⟩, h5', h6⟩ := h
    have p5 : RP τ5 3 U := p4.cong (fun i hi => u1 _ (by omega))
    exact ⟨rfl, p5.2.1, ⟨⟨by rw [e 1 (by omega) (by decide)]; exact h1.1, fun i hi => by rw [e 2 (by omega) (by decide)]; exact h1.2 i hi⟩, p5, ⟨o, ho, by rw [u2, pk_un (by decide), S4.2 12 (by omega)]; exact h3, fun i hi => absurd hi (Nat.not_lt_zero i)⟩, by rw [u2, pk_us]; rfl, fun s hs => ⟨by rw [e 141 (by omega) (by decide)]; exact (h6 s hs).1, fun U' hU => ((h6 s hs).2 U' hU).cong (fun i hi => e _ (by omega) (by omega))⟩⟩, ⟨by rw [u3, S4.1], fun k hk => e k (by omega) (by omega)⟩⟩
end FC
