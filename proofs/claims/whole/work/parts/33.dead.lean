/-- in the reference only the cells S, and of its object the places F, are other -/
def SX (S F : List Nat) (σ τ : gw_S) : Prop := (∀ k, k ∉ S → k ≠ 189 → τ.1 k = σ.1 k) ∧ (∀ k, k ∉ S → τ.2 k = σ.2 k) ∧ ∀ j, j ∉ F → τ.1 189 j = σ.1 189 j
theorem SX.rf {S F : List Nat} {σ : gw_S} : SX S F σ σ := ⟨fun _ _ _ => rfl, fun _ _ => rfl, fun _ _ => rfl⟩
theorem SX.tr {S F : List Nat} {σ τ υ : gw_S} (h1 : SX S F σ τ) (h2 : SX S F τ υ) : SX S F σ υ := ⟨fun k a b => (h2.1 k a b).trans (h1.1 k a b), fun k a => (h2.2.1 k a).trans (h1.2.1 k a), fun j a => (h2.2.2 j a).trans (h1.2.2 j a)⟩
theorem SX.mono {S F S' F' : List Nat} {σ τ : gw_S} (h : SX S F σ τ) (hS : ∀ k, k ∈ S → k ∈ S') (hF : ∀ j, j ∈ F → j ∈ F') : SX S' F' σ τ := ⟨fun k a b => h.1 k (fun z => a (hS k z)) b, fun k a => h.2.1 k (fun z => a (hS k z)), fun j a => h.2.2 j (fun z => a (hF j z))⟩
theorem SX.r {S F : List Nat} {k : Nat} {f : Nat → Int32} {σ : gw_S} (hk : k ∈ S) (h9 : k ≠ 189) : SX S F σ (gw_r σ k f) := ⟨fun q h1 _ => gw_r_ne σ _ (fun z => h1 (z ▸ hk)), fun _ _ => rfl, fun j _ => by rw [gw_r_ne σ _ (Ne.symm h9)]⟩
theorem SX.u {S F : List Nat} {k j : Nat} {v : Int32} {σ : gw_S} (hk : k ∈ S) (h9 : k ≠ 189) : SX S F σ (gw_u σ k j v) := SX.r hk h9
theorem SX.f {S F : List Nat} {j : Nat} {v : Int32} {σ : gw_S} (hj : j ∈ F) : SX S F σ (gw_u σ 189 j v) := ⟨fun q _ h2 => gw_u_k σ _ _ h2, fun _ _ => rfl, fun i hi => gw_u_j σ _ _ (fun z => hi (z ▸ hj))⟩
theorem SX.l {S F : List Nat} {k j : Nat} {v : Int64} {σ : gw_S} (hk : k ∈ S) : SX S F σ (gw_ul σ k j v) := ⟨fun _ _ _ => rfl, fun q h1 => gw_ul_k σ _ _ (fun z => h1 (z ▸ hk)), fun _ _ => rfl⟩
/-- sets of modules, as numbers -/
def bN (p : Nat → Bool) : Nat → Nat
  | 0 => 0
  | n + 1 => bN p n ||| (if p n then 2 ^ n else 0)
theorem and_pow (n i : Nat) : n &&& 2 ^ i = (n.testBit i).toNat * 2 ^ i := by
  apply Nat.eq_of_testBit_eq
  intro j
  rw [Nat.testBit_and, Nat.testBit_two_pow]
  cases h : n.testBit i with
  | true =>
    rw [show (true.toNat * 2 ^ i) = 2 ^ i by simp, Nat.testBit_two_pow]
    by_cases e : i = j
    · subst e; simp [h]
    · simp [e]
  | false =>
    rw [show (false.toNat * 2 ^ i) = 0 by simp, Nat.zero_testBit]
    by_cases e : i = j
    · subst e; simp [h]
    · simp [e]
theorem bN_lt (p : Nat → Bool) : ∀ n, n ≤ 8 → bN p n < 256
  | 0, _ => show 0 < 256 by decide
  | n + 1, h => by
    have h1 := bN_lt p n (by omega)
    rw [bN]
    refine Nat.or_lt_two_pow (n := 8) h1 ?_
    split
    · exact Nat.pow_lt_pow_right (by decide) (by omega)
    · decide
noncomputable def lpB (T : pT) (m : Nat) : Bool := @decide (Rp T 999 m m) (Classical.propDecidable _)
theorem lpB_iff {T : pT} {m : Nat} : lpB T m = true ↔ Rp T 999 m m := by
  unfold lpB; exact @decide_eq_true_iff _ (Classical.propDecidable _)
/-- the modules behind a module -/
def nx (T : pT) (m : Nat) : Nat → Nat
  | 0 => 0
  | i + 1 => nx T m i ||| (if tF T i = m then 2 ^ tO T i else 0)
theorem nx_lt {T : pT} (hv : VT T) (m : Nat) : ∀ i, i ≤ tW T → nx T m i < 256
  | 0, _ => show 0 < 256 by decide
  | i + 1, h => by
    have h1 := nx_lt hv m i (by omega)
    have h2 := (hv.2.2.2 i (by omega)).2.1
    have h3 := hv.1
    rw [nx]
    refine Nat.or_lt_two_pow (n := 8) h1 ?_
    split
    · exact Nat.pow_lt_pow_right (by decide) (by omega)
    · decide
theorem nx_iff (T : pT) (m : Nat) (c : Nat) : ∀ i, (nx T m i).testBit c = true ↔ ∃ w, w < i ∧ tF T w = m ∧ tO T w = c
  | 0 => by simp [nx]
  | i + 1 => by
    rw [nx, Nat.testBit_or, Bool.or_eq_true, nx_iff T m c i]
    constructor
    · rintro (⟨w, h1, h2⟩ | h)
      · exact ⟨w, by omega, h2⟩
      · split at h
        · rename_i e
          rw [Nat.testBit_two_pow, decide_eq_true_eq] at h
          exact ⟨i, by omega, e, h⟩
        · simp at h
    · rintro ⟨w, h1, h2, h3⟩
      by_cases e : w = i
      · subst e
        right
        rw [if_pos h2, Nat.testBit_two_pow, decide_eq_true_eq]; exact h3
      · exact Or.inl ⟨w, by omega, h2, h3⟩
section DE
variable {l : Launch} {G : gw_G} {σ : gw_S} {k b : Nat} {T : pT}
theorem k_X8_isDead {a c : Nat} (hk : gw_ia k 96) (hk4 : k ≠ 204) (hp : RR (σ.1 k) T) (hv : VT T) (ha : a < tM T) (hc : c < tM T) : gw_M l G yX8_isDead cX8_isDead 4 (some .boolean) 2 [.ref (G.1 + 189), .ref (G.1 + k), .int (nI a), .int (nI c)] σ (fz (fun r τ => r = dd T a c ∧ SX [204] [] σ τ)) := by
  have h8 := hv.1
  refine gw_met (by decide) (Nat.le_of_ble_eq_true rfl) (fun x C hR hT => sg_X8_isDead_0 C hR hT k _ _ hk σ ?_)
  refine ⟨_, k_X8_layWays (B := 0) hk hk4 hp hv (by decide), ?_⟩
  rintro τ ⟨g, R, rfl, hM, hS, hC⟩
  have e3 : (8 * nI c) + nI a = nI (8 * c + a) := by rw [show (8 : Int32) = nI 8 from rfl, pk_mul, nI_add]
  rw [e3, nI_clamp (by omega), gw_r_at, hM c a (by omega) (by omega)]
  refine ⟨⟨fun _ => trivial, fun _ => ⟨vp_in_nI (by omega) (by decide), trivial⟩⟩, ?_, SX.r (by simp) (by decide)⟩
  have hF : FAR = 1000000 := rfl
  obtain ⟨s1, -⟩ := hS c a (by omega) (by omega)
  have key := FW_lt hv hS hC (a := c) (c := a) (by omega) (by omega)
  by_cases e : a = c
  · rw [if_pos (by rw [e])]
    exact (dd_iff.mpr (Rc_iff.mpr (Or.inl e.symm))).symm
  · rw [if_neg (show ¬ nI a = nI c by rw [nI_eq_iff (by omega) (by omega)]; exact e)]
    by_cases q : R c a < FAR
    · rw [if_neg (show ¬ (1000000 : Int32) ≤ nI (R c a) by rw [show (1000000 : Int32) = nI 1000000 from rfl, nI_le_iff (by decide) (by omega)]; omega)]
      exact (dd_iff.mpr (Rc_iff.mpr (Or.inr (key.mp q)))).symm
    · rw [if_pos (show (1000000 : Int32) ≤ nI (R c a) by rw [show (1000000 : Int32) = nI 1000000 from rfl, nI_le_iff (by decide) (by omega)]; omega)]
      cases hd : dd T a c with
      | false => rfl
      | true =>
        rcases Rc_iff.mp (dd_iff.mp hd) with h | h
        · exact absurd h.symm e
        · exact absurd (key.mpr h) q
/-- may a wire be laid: kinds, number, no dead loop -/
noncomputable def laysB (T : pT) (a c h : Nat) : Bool := decide (tK T a = tU T c) && decide (tW T < 14) && (decide (0 < h) || !dd T a c)
noncomputable def putsB (T : pT) (w h : Nat) : Bool := decide (0 < h) || !dd T (tF T w) (tO T w)
theorem k_X8_canLay {a c h : Nat} (hk : gw_ia k 96) (hk4 : k ≠ 204) (hp : RR (σ.1 k) T) (hv : VT T) (ha : a < tM T) (hc : c < tM T) (hh : h < 2 ^ 31) : gw_M l G yX8_canLay cX8_canLay 5 (some .boolean) 3 [.ref (G.1 + 189), .ref (G.1 + k), .int (nI a), .int (nI c), .int (nI h)] σ (fz (fun r τ => r = laysB T a c h ∧ SX [204] [] σ τ)) := by
  have h8 := hv.1
  have h14 := hv.2.1
  refine gw_met (by decide) (Nat.le_of_ble_eq_true rfl) (fun x C hR hT => sg_X8_canLay_0 C hR hT k _ _ _ hk σ ?_)
  obtain ⟨r1, r2, -⟩ := hp.2.2.1 a ha
  obtain ⟨r3, r4, -⟩ := hp.2.2.1 c hc
  obtain ⟨u1, u2⟩ := hv.2.2.1 a ha
  obtain ⟨u3, u4⟩ := hv.2.2.1 c hc
  refine ⟨mv1 (by omega), mv0 (by omega), ?_⟩
  rw [mc1 (by omega), mc0 (by omega), show 2 + 3 * c + 0 = 2 + 3 * c from rfl, r2, r3, gc1, hp.2.1]
  refine ⟨fun q => ⟨?_, SX.rf⟩, fun q => ⟨fun q2 => ⟨?_, SX.rf⟩, fun q2 => ⟨fun q3 => ⟨?_, SX.rf⟩, fun q3 => ?_⟩⟩⟩
  · rw [nI_eq_iff (by omega) (by omega)] at q
    simp [laysB, q]
  · rw [show (14 : Int32) = nI 14 from rfl, nI_le_iff (by decide) (by omega)] at q2
    simp [laysB]; omega
  · rw [nI_eq_iff (by omega) (by omega)] at q
    rw [show (14 : Int32) = nI 14 from rfl, nI_le_iff (by decide) (by omega)] at q2
    rw [← nI_0, nI_lt_iff (by decide) (by omega)] at q3
    simp [laysB, q, q3]; omega
  · rw [nI_eq_iff (by omega) (by omega)] at q
    rw [show (14 : Int32) = nI 14 from rfl, nI_le_iff (by decide) (by omega)] at q2
    rw [← nI_0, nI_lt_iff (by decide) (by omega)] at q3
    refine ⟨_, k_X8_isDead hk hk4 hp hv ha hc, ?_⟩
    rintro r τ ⟨rfl, hs⟩
    refine ⟨?_, hs⟩
    have e1 : decide (tW T < 14) = true := by rw [decide_eq_true_eq]; omega
    have e2 : decide (0 < h) = false := by rw [decide_eq_false_iff_not]; exact q3
    simp only [laysB, q, e1, e2, decide_true, Bool.true_and, Bool.false_or]
    cases dd T a c <;> rfl
theorem k_X8_canPut {w h : Nat} (hk : gw_ia k 96) (hk4 : k ≠ 204) (hp : RR (σ.1 k) T) (hv : VT T) (hw : w < tW T) (hh : h < 2 ^ 31) : gw_M l G yX8_canPut cX8_canPut 4 (some .boolean) 3 [.ref (G.1 + 189), .ref (G.1 + k), .int (nI w), .int (nI h)] σ (fz (fun r τ => r = putsB T w h ∧ SX [204] [] σ τ)) := by
  have h8 := hv.1
  have h14 := hv.2.1
  refine gw_met (by decide) (Nat.le_of_ble_eq_true rfl) (fun x C hR hT => sg_X8_canPut_0 C hR hT k _ _ hk σ ?_)
  obtain ⟨r1, r2, r3, r4, r5⟩ := hp.2.2.2 w hw
  obtain ⟨h1, h2, -⟩ := hv.2.2.2 w hw
  refine ⟨fun q3 => ⟨?_, SX.rf⟩, fun q3 => ⟨wv0 (by omega), wv1 (by omega), ?_⟩⟩
  · rw [← nI_0, nI_lt_iff (by decide) (by omega)] at q3
    simp [putsB, q3]
  · rw [← nI_0, nI_lt_iff (by decide) (by omega)] at q3
    rw [wc0 (by omega), wc1 (by omega), show 26 + 5 * w + 0 = 26 + 5 * w from rfl, r1, r2]
    refine ⟨_, k_X8_isDead hk hk4 hp hv h1 h2, ?_⟩
    rintro r τ ⟨rfl, hs⟩
    refine ⟨?_, hs⟩
    have e2 : decide (0 < h) = false := by rw [decide_eq_false_iff_not]; exact q3
    simp only [putsB, e2, Bool.false_or]
    cases dd T (tF T w) (tO T w) <;> rfl
theorem k_X3_ready (hb : gw_plan b) (hp : RP σ b T) (hv : VT T) : gw_M l G yX3_ready cX3_ready 3 (some .int) 2 [.ref (G.1 + b)] σ (fi (fun r τ => r = nI (bN (canB T) (tM T)) ∧ τ = σ)) := by
  have h8 := hv.1
  refine gw_met (by decide) (Nat.le_of_ble_eq_true rfl) (fun x C hR hT => sg_X3_ready_0 C hR hT b hb σ ?_)
  have key : ∀ n i, i + n = tM T → PW x G 3 4 [(0, .ref (G.1 + b)), (1, .int (nI (bN (canB T) i))), (2, .int (nI i))] [] σ := by
    intro n
    induction n with
    | zero =>
      intro i hi
      refine sg_X3_ready_4 C hR hT b hb _ _ σ ⟨fun _ => ⟨by rw [show i = tM T by omega], rfl⟩, fun q => absurd ?_ q⟩
      rw [hp.1, nI_le_iff (by omega) (by omega)]; omega
    | succ n ih =>
      intro i hi
      refine sg_X3_ready_4 C hR hT b hb _ _ σ ⟨fun q => ?_, fun _ => ⟨_, k_X3_canWork hb hp hv (by omega), ?_⟩⟩
      · rw [hp.1, nI_le_iff (by omega) (by omega)] at q; omega
      · rintro r τ ⟨rfl, rfl⟩
        have := ih (i + 1) (by omega)
        rw [bN] at this
        rw [nI_1, rb_sh (by omega), rb_or]
        cases hc : canB T i with
        | false => rw [if_pos rfl]; simpa [hc] using this
        | true => rw [if_neg (by decide)]; simpa [hc] using this
  exact key (tM T) 0 (by omega)
theorem k_X8_workers (hp : RR (σ.1 192) T) (hv : VT T) : gw_M l G yX8_workers cX8_workers 3 (some .int) 2 [.ref (G.1 + 189)] σ (fi (fun r τ => r = nI (bN (canB T) (tM T)) ∧ τ = σ)) := by
  have h8 := hv.1
  refine gw_met (by decide) (Nat.le_of_ble_eq_true rfl) (fun x C hR hT => sg_X8_workers_0 C hR hT σ ?_)
  have key : ∀ n i, i + n = tM T → PW x G 3 4 [(0, .ref (G.1 + 189)), (1, .int (nI (bN (canB T) i))), (2, .int (nI i))] [] σ := by
    intro n
    induction n with
    | zero =>
      intro i hi
      refine sg_X8_workers_4 C hR hT _ _ σ ⟨fun _ => ⟨by rw [show i = tM T by omega], rfl⟩, fun q => absurd ?_ q⟩
      rw [gc0, hp.1, nI_le_iff (by omega) (by omega)]; omega
    | succ n ih =>
      intro i hi
      refine sg_X8_workers_4 C hR hT _ _ σ ⟨fun q => ?_, fun _ => ⟨_, k_X8_canWork ⟨gk_192.1, gk_192.2⟩ hp hv (by omega), ?_⟩⟩
      · rw [gc0, hp.1, nI_le_iff (by omega) (by omega)] at q; omega
      · rintro r τ ⟨rfl, rfl⟩
        have := ih (i + 1) (by omega)
        rw [bN] at this
        rw [nI_1, rb_sh (by omega)]
        cases hc : canB T i with
        | false =>
          rw [if_pos rfl, ← nI_0, rb_or, Nat.or_zero]
          simpa [hc] using this
        | true =>
          rw [if_neg (by decide), rb_or]
          simpa [hc] using this
  exact key (tM T) 0 (by omega)
theorem k_X3_onLoops (hb : gw_plan b) (hp : RP σ b T) (hv : VT T) : gw_M l G yX3_onLoops cX3_onLoops 5 (some .int) 1 [.ref (G.1 + b)] σ (fi (fun r τ => r = nI (bN (lpB T) (tM T)) ∧ τ = σ)) := by
  have h8 := hv.1
  have h14 := hv.2.1
  refine gw_met (by decide) (Nat.le_of_ble_eq_true rfl) (fun x C hR hT => sg_X3_onLoops_0 C hR hT b hb σ ?_)
  have inner : ∀ m, m < tM T → PW x G 5 4 [(0, .ref (G.1 + b)), (1, .int (nI (bN (lpB T) (m + 1)))), (2, .int (nI (m + 1)))] [] σ → ∀ d i, i + d = tW T → PW x G 5 17 [(0, .ref (G.1 + b)), (1, .int (nI (bN (lpB T) m))), (2, .int (nI m)), (3, .int (nI (nx T m i))), (4, .int (nI i))] [] σ := by
    intro m hm hk d
    induction d with
    | zero =>
      intro i hi
      refine sg_X3_onLoops_17 C hR hT b hb _ _ _ _ σ ⟨fun _ => ?_, fun q => absurd ?_ q⟩
      · have hn := nx_lt hv m i (by omega)
        refine ⟨_, k_X3_reached (B := 999) hb hp hv hn (by decide), ?_⟩
        rintro r τ ⟨rfl, rfl⟩
        rw [nI_1, rb_sh (by omega), rb_and, rb_or, and_pow]
        have e : ((rP T 999 (nx T m i) (tM T - 1)).testBit m).toNat * 2 ^ m = (if lpB T m then 2 ^ m else 0) := by
          have key : (rP T 999 (nx T m i) (tM T - 1)).testBit m = true ↔ lpB T m = true := by
            rw [lpB_iff, rP_iff hv (fun z hz => by
              obtain ⟨w, h1, h2, h3⟩ := (nx_iff T m z i).mp hz
              rw [← h3]; exact (hv.2.2.2 w (by omega)).2.1), Rp_iff]
            constructor
            · rintro ⟨z, h1, h2⟩
              obtain ⟨w, h3, h4, h5⟩ := (nx_iff T m z i).mp h1
              exact ⟨w, by omega, (hv.2.2.2 w (by omega)).2.2.2.2.2.2, h4, by rw [h5]; exact h2⟩
            · rintro ⟨w, h1, h2, h3, h4⟩
              exact ⟨tO T w, (nx_iff T m _ i).mpr ⟨w, by omega, h3, rfl⟩, h4⟩
          cases hc : lpB T m with
          | true => rw [key.mpr hc]; simp
          | false =>
            cases hr : (rP T 999 (nx T m i) (tM T - 1)).testBit m with
            | true => rw [key.mp hr] at hc; cases hc
            | false => simp
        rw [e]
        exact hk
      · rw [hp.2.1, nI_le_iff (by omega) (by omega)]; omega
    | succ d ih =>
      intro i hi
      have hiT : i < tW T := by omega
      obtain ⟨r1, r2, r3, r4, r5⟩ := hp.2.2.2 i hiT
      obtain ⟨h1, h2, -⟩ := hv.2.2.2 i hiT
      refine sg_X3_onLoops_17 C hR hT b hb _ _ _ _ σ ⟨fun q => ?_, fun _ => ⟨vp_in_nI (by omega) (by decide), ?_⟩⟩
      · rw [hp.2.1, nI_le_iff (by omega) (by omega)] at q; omega
      · have := ih (i + 1) (by omega)
        rw [nx] at this
        rw [nI_clamp (by omega), r1, r2, nI_1, rb_sh (by omega), gif (nI_eq (a := tF T i) (b := m) (by omega) (by omega))]
        by_cases e : tF T i = m
        · rw [if_pos e] at this ⊢; rw [rb_or]; exact this
        · rw [if_neg e] at this ⊢; rw [← nI_0, rb_or]; exact this
  have key : ∀ n i, i + n = tM T → PW x G 5 4 [(0, .ref (G.1 + b)), (1, .int (nI (bN (lpB T) i))), (2, .int (nI i))] [] σ := by
    intro n
    induction n with
    | zero =>
      intro i hi
      refine sg_X3_onLoops_4 C hR hT b hb _ _ σ ⟨fun _ => ⟨by rw [show i = tM T by omega], rfl⟩, fun q => absurd ?_ q⟩
      rw [hp.1, nI_le_iff (by omega) (by omega)]; omega
    | succ n ih =>
      intro i hi
      refine sg_X3_onLoops_4 C hR hT b hb _ _ σ ⟨fun q => ?_, fun _ => ?_⟩
      · rw [hp.1, nI_le_iff (by omega) (by omega)] at q; omega
      · exact inner i (by omega) (ih (i + 1) (by omega)) (tW T) 0 (by omega)
  exact key (tM T) 0 (by omega)
theorem k_X8_loopers (hp : RR (σ.1 192) T) (hv : VT T) : gw_M l G yX8_loopers cX8_loopers 3 (some .int) 2 [.ref (G.1 + 189)] σ (fi (fun r τ => r = nI (bN (lpB T) (tM T)) ∧ SX [204] [] σ τ)) := by
  have h8 := hv.1
  refine gw_met (by decide) (Nat.le_of_ble_eq_true rfl) (fun x C hR hT => sg_X8_loopers_0 C hR hT σ ?_)
  refine ⟨_, k_X8_layWays (B := 999) ⟨gk_192.1, gk_192.2⟩ (by decide) hp hv (by decide), ?_⟩
  rintro τ ⟨g, R, rfl, hM, hS, hC⟩
  have hF : FAR = 1000000 := rfl
  have key : ∀ n i, i + n = tM T → PW x G 3 15 [(0, .ref (G.1 + 189)), (1, .int (nI (bN (lpB T) i))), (2, .int (nI i))] [] (gw_r σ 204 g) := by
    intro n
    induction n with
    | zero =>
      intro i hi
      refine sg_X8_loopers_15 C hR hT _ _ _ ⟨fun _ => ⟨by rw [show i = tM T by omega], SX.r (by simp) (by decide)⟩, fun q => absurd ?_ q⟩
      rw [gc0, gw_r_ne _ _ (by decide), hp.1, nI_le_iff (by omega) (by omega)]; omega
    | succ n ih =>
      intro i hi
      have e9 : 9 * nI i = nI (9 * i) := by rw [show (9 : Int32) = nI 9 from rfl, pk_mul]
      obtain ⟨s1, -⟩ := hS i i (by omega) (by omega)
      have key := FW_lt hv hS hC (a := i) (c := i) (by omega) (by omega)
      refine sg_X8_loopers_15 C hR hT _ _ _ ⟨fun q => ?_, fun _ => ?_⟩
      · rw [gc0, gw_r_ne _ _ (by decide), hp.1, nI_le_iff (by omega) (by omega)] at q; omega
      · rw [e9, nI_clamp (by omega), gw_r_at, show 9 * i = 8 * i + i by omega, hM i i (by omega) (by omega), nI_1, rb_sh (by omega)]
        refine ⟨vp_in_nI (by omega) (by decide), ?_⟩
        have := ih (i + 1) (by omega)
        rw [bN] at this
        by_cases q : R i i < FAR
        · rw [if_neg (show ¬ (1000000 : Int32) ≤ nI (R i i) by rw [show (1000000 : Int32) = nI 1000000 from rfl, nI_le_iff (by decide) (by omega)]; omega), rb_or]
          rw [lpB_iff.mpr (key.mp q)] at this
          exact this
        · rw [if_pos (show (1000000 : Int32) ≤ nI (R i i) by rw [show (1000000 : Int32) = nI 1000000 from rfl, nI_le_iff (by decide) (by omega)]; omega), ← nI_0, rb_or]
          have hl : lpB T i = false := by
            cases h : lpB T i with
            | false => rfl
            | true => exact absurd (key.mpr (lpB_iff.mp h)) q
          rw [hl] at this
          exact this
  exact key (tM T) 0 (by omega)
end DE
