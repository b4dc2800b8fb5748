/-! the whole object: text, plan, what is remembered, slots; how class and reference hold it -/
abbrev aS : Type := xT × pT × (Nat → pT) × Nat × (Nat → Option pT)
def VA (A : aS) : Prop := xV A.1 ∧ VT A.2.1 ∧ A.2.2.2.1 ≤ 14 ∧ (∀ i, i < A.2.2.2.1 → VT (A.2.2.1 i)) ∧ ∀ s, s < 2 → ∀ U, A.2.2.2.2 s = some U → VT U
def CI (σ : gw_S) (A : aS) : Prop := xCl σ A.1 ∧ RP σ 3 A.2.1 ∧ (∃ o, o < 14 ∧ σ.1 12 1 = nI o ∧ ∀ i, i < A.2.2.2.1 → RP σ (14 + 9 * ((o + i) % 14)) (A.2.2.1 i)) ∧ σ.1 12 2 = nI A.2.2.2.1 ∧ ∀ s, s < 2 → σ.1 141 s = gz (A.2.2.2.2 s).isSome ∧ ∀ U, A.2.2.2.2 s = some U → RP σ (171 + 9 * s) U
def MI (σ : gw_S) (A : aS) : Prop := xRf σ A.1 ∧ RR (σ.1 192) A.2.1 ∧ σ.1 189 10 = nI A.2.2.2.1 ∧ (∀ i, i < A.2.2.2.1 → RR (fun j => σ.1 194 (96 * i + j)) (A.2.2.1 i)) ∧ ∀ s, s < 2 → σ.1 196 s = gz (A.2.2.2.2 s).isSome ∧ ∀ U, A.2.2.2.2 s = some U → RR (fun j => σ.1 195 (96 * s + j)) U
theorem CI.scr {σ τ : gw_S} {A : aS} (h : CI σ A) (hS : FX 142 171 σ τ) : CI τ A := by
  obtain ⟨h1, h2, ⟨o, ho, h3, h4⟩, h5, h6⟩ := h
  have e : ∀ k, (k < 142 ∨ 171 ≤ k) → τ.1 k = σ.1 k := fun k hk => hS.2 k hk
  refine ⟨⟨by rw [e 1 (by omega)]; exact h1.1, fun i hi => by rw [e 2 (by omega)]; exact h1.2 i hi⟩, h2.fx hS (by omega), ⟨o, ho, by rw [e 12 (by omega)]; exact h3, fun i hi => (h4 i hi).fx hS (by omega)⟩, by rw [e 12 (by omega)]; exact h5, fun s hs => ⟨by rw [e 141 (by omega)]; exact (h6 s hs).1, fun U hU => ((h6 s hs).2 U hU).fx hS (by omega)⟩⟩
theorem MI.scr {S F : List Nat} {σ τ : gw_S} {A : aS} (h : MI σ A) (hS : SX S F σ τ) (h1 : 190 ∉ S) (h2 : 192 ∉ S) (h3 : 194 ∉ S) (h4 : 195 ∉ S) (h5 : 196 ∉ S) (f2 : 2 ∉ F) (f10 : 10 ∉ F) : MI τ A := by
  obtain ⟨m1, m2, m3, m4, m5⟩ := h
  refine ⟨m1.sx hS h1 f2, by rw [hS.row h2 (by decide)]; exact m2, by rw [hS.2.2 10 f10]; exact m3, fun i hi => by rw [hS.row h3 (by decide)]; exact m4 i hi, fun s hs => ⟨by rw [hS.row h5 (by decide)]; exact (m5 s hs).1, fun U hU => by rw [hS.row h4 (by decide)]; exact (m5 s hs).2 U hU⟩⟩
/-- what the other side does leaves one side as it is -/
def KC (σ τ : gw_S) : Prop := τ.2 = σ.2 ∧ ∀ k, 189 ≤ k → τ.1 k = σ.1 k
def KM (σ τ : gw_S) : Prop := τ.2 206 = σ.2 206 ∧ ∀ k, k < 189 → τ.1 k = σ.1 k
theorem KC.tr {σ τ υ : gw_S} (h1 : KC σ τ) (h2 : KC τ υ) : KC σ υ := ⟨h2.1.trans h1.1, fun k hk => (h2.2 k hk).trans (h1.2 k hk)⟩
theorem KM.tr {σ τ υ : gw_S} (h1 : KM σ τ) (h2 : KM τ υ) : KM σ υ := ⟨h2.1.trans h1.1, fun k hk => (h2.2 k hk).trans (h1.2 k hk)⟩
theorem KC.rf {σ : gw_S} : KC σ σ := ⟨rfl, fun _ _ => rfl⟩
theorem KM.rf {σ : gw_S} : KM σ σ := ⟨rfl, fun _ _ => rfl⟩
theorem FX.kc {lo hi : Nat} {σ τ : gw_S} (h : FX lo hi σ τ) (hh : hi ≤ 189) : KC σ τ := ⟨h.1, fun k hk => h.2 k (by omega)⟩
theorem SX.km {S F : List Nat} {σ τ : gw_S} (h : SX S F σ τ) (h1 : ∀ k, k ∈ S → 189 ≤ k ∧ k ≠ 206) : KM σ τ := ⟨h.2.1 206 (fun z => (h1 206 z).2 rfl), fun k hk => h.1 k (fun z => by have := (h1 k z).1; omega) (by omega)⟩
theorem MI.kc {σ τ : gw_S} {A : aS} (h : MI σ A) (hk : KC σ τ) : MI τ A := by
  have e : ∀ k, 189 ≤ k → τ.1 k = σ.1 k := hk.2
  obtain ⟨m1, m2, m3, m4, m5⟩ := h
  refine ⟨⟨by rw [e 189 (by omega)]; exact m1.1, fun i hi => by rw [e 190 (by omega)]; exact m1.2 i hi⟩, by rw [e 192 (by omega)]; exact m2, by rw [e 189 (by omega)]; exact m3, fun i hi => by rw [e 194 (by omega)]; exact m4 i hi, fun s hs => ⟨by rw [e 196 (by omega)]; exact (m5 s hs).1, fun U hU => by rw [e 195 (by omega)]; exact (m5 s hs).2 U hU⟩⟩
theorem CI.km {σ τ : gw_S} {A : aS} (h : CI σ A) (hk : KM σ τ) : CI τ A := by
  have e : ∀ k, k < 189 → τ.1 k = σ.1 k := hk.2
  obtain ⟨h1, h2, ⟨o, ho, h3, h4⟩, h5, h6⟩ := h
  refine ⟨⟨by rw [e 1 (by omega)]; exact h1.1, fun i hi => by rw [e 2 (by omega)]; exact h1.2 i hi⟩, h2.cong (fun i hi => e _ (by omega)), ⟨o, ho, by rw [e 12 (by omega)]; exact h3, fun i hi => (h4 i hi).cong (fun j hj => e _ (by omega))⟩, by rw [e 12 (by omega)]; exact h5, fun s hs => ⟨by rw [e 141 (by omega)]; exact (h6 s hs).1, fun U hU => ((h6 s hs).2 U hU).cong (fun j hj => e _ (by omega))⟩⟩
/-- remembering -/
def rmH (h : Nat → pT) (n : Nat) (T : pT) : Nat → pT := if n < 14 then (fun i => if i = n then T else h i) else fun i => if i = 13 then T else h (i + 1)
def rmN (n : Nat) : Nat := if n < 14 then n + 1 else 14
def aRem (A : aS) (T' : pT) : aS := (A.1, T', rmH A.2.2.1 A.2.2.2.1 A.2.1, rmN A.2.2.2.1, A.2.2.2.2)
theorem VA_rem {A : aS} {T' : pT} (h : VA A) (hv : VT T') : VA (aRem A T') := by
  obtain ⟨h1, h2, h3, h4, h5⟩ := h
  refine ⟨h1, hv, ?_, fun i hi => ?_, h5⟩
  · show rmN A.2.2.2.1 ≤ 14
    unfold rmN; split <;> omega
  · have hi : i < rmN A.2.2.2.1 := hi
    show VT (rmH A.2.2.1 A.2.2.2.1 A.2.1 i)
    unfold rmN at hi
    unfold rmH
    split at hi
    · next q =>
      rw [if_pos q]
      by_cases e : i = A.2.2.2.1
      · show VT (if i = A.2.2.2.1 then A.2.1 else A.2.2.1 i); rw [if_pos e]; exact h2
      · show VT (if i = A.2.2.2.1 then A.2.1 else A.2.2.1 i); rw [if_neg e]; exact h4 i (by omega)
    · next q =>
      rw [if_neg q]
      by_cases e : i = 13
      · show VT (if i = 13 then A.2.1 else A.2.2.1 (i + 1)); rw [if_pos e]; exact h2
      · show VT (if i = 13 then A.2.1 else A.2.2.1 (i + 1)); rw [if_neg e]; exact h4 (i + 1) (by omega)
theorem hp14 : ∀ k, k < 14 → ([some 14, some 23, some 32, some 41, some 50, some 59, some 68, some 77, some 86, some 95, some 104, some 113, some 122, some 131] : List (Option Nat)).getD k none = some (14 + 9 * k) ∧ gw_plan (14 + 9 * k) := by
  intro k hk
  match k, hk with
  | 0, _ => exact ⟨rfl, gp_14⟩
  | 1, _ => exact ⟨rfl, gp_23⟩
  | 2, _ => exact ⟨rfl, gp_32⟩
  | 3, _ => exact ⟨rfl, gp_41⟩
  | 4, _ => exact ⟨rfl, gp_50⟩
  | 5, _ => exact ⟨rfl, gp_59⟩
  | 6, _ => exact ⟨rfl, gp_68⟩
  | 7, _ => exact ⟨rfl, gp_77⟩
  | 8, _ => exact ⟨rfl, gp_86⟩
  | 9, _ => exact ⟨rfl, gp_95⟩
  | 10, _ => exact ⟨rfl, gp_104⟩
  | 11, _ => exact ⟨rfl, gp_113⟩
  | 12, _ => exact ⟨rfl, gp_122⟩
  | 13, _ => exact ⟨rfl, gp_131⟩
  | k + 14, h => exact absurd h (by omega)
theorem gp3 : gw_plan 3 := gp_3
section HI
variable {l : Launch} {G : gw_G} {σ : gw_S} {A : aS}
/-- behind remember the plan T is on 3 still -/
theorem k_X2_remember (h : CI σ A) (hv : VA A) : gw_M l G yX2_remember cX2_remember 2 none 2 [.ref (G.1 + 12), .ref (G.1 + 3)] σ (fv (fun τ => CI τ (aRem A A.2.1) ∧ KC σ τ ∧ ∀ k, 142 ≤ k → k < 189 → τ.1 k = σ.1 k)) := by
  obtain ⟨h1, h2, ⟨o, ho, h3, h4⟩, h5, h6⟩ := h
  obtain ⟨v1, v2, v3, v4, v5⟩ := hv
  refine gw_met (by decide) (Nat.le_of_ble_eq_true rfl) (fun x C hR hT => sg_X2_remember_0 C hR hT 3 gp3 σ ?_)
  have hk : (o + A.2.2.2.1) % 14 < 14 := Nat.mod_lt _ (by decide)
  obtain ⟨z1, z2⟩ := hp14 _ hk
  have hm : nI o + nI A.2.2.2.1 - (nI o + nI A.2.2.2.1) / 14 * 14 = nI ((o + A.2.2.2.1) % 14) := by
    rw [nI_add, show (14 : Int32) = nI 14 from rfl, pk_rem (by omega) (by decide) (by decide)]
  rw [h3, h5, hm, nI_clamp (by omega)]
  refine ⟨vp_in_nI hk (by decide), _, z1, z2, _, k_X3_become z2 gp3 (by omega) h2 v2, ?_⟩
  rintro τ3 ⟨p3, S3⟩
  have e : ∀ k, (k < 14 ∨ 140 ≤ k) → τ3.1 k = σ.1 k := fun k hk' => S3.2 k (by omega)
  rw [e 12 (by omega), h5, show (14 : Int32) = nI 14 from rfl, nI_le_iff (by omega) (by omega)]
  have hist : ∀ i, i < A.2.2.2.1 → ¬ (o + i) % 14 = (o + A.2.2.2.1) % 14 → RP τ3 (14 + 9 * ((o + i) % 14)) (A.2.2.1 i) := fun i hi hne => (h4 i hi).out S3 (by omega)
  have base : ∀ τ : gw_S, (∀ k, k ≠ 12 → τ.1 k = τ3.1 k) → τ.2 = τ3.2 → (xCl τ A.1 ∧ RP τ 3 A.2.1 ∧ (∀ s, s < 2 → τ.1 141 s = gz (A.2.2.2.2 s).isSome ∧ ∀ U, A.2.2.2.2 s = some U → RP τ (171 + 9 * s) U)) ∧ KC σ τ ∧ ∀ k, 142 ≤ k → k < 189 → τ.1 k = σ.1 k := by
    intro τ hτ hτ2
    refine ⟨⟨⟨by rw [hτ 1 (by decide), e 1 (by omega)]; exact h1.1, fun i hi => by rw [hτ 2 (by decide), e 2 (by omega)]; exact h1.2 i hi⟩, h2.cong (fun i hi => by rw [hτ _ (by omega), e _ (by omega)]), fun s hs => ⟨by rw [hτ 141 (by decide), e 141 (by omega)]; exact (h6 s hs).1, fun U hU => ((h6 s hs).2 U hU).cong (fun i hi => by rw [hτ _ (by omega), e _ (by omega)])⟩⟩, ⟨by rw [hτ2]; exact S3.1, fun k hk => by rw [hτ k (by omega), e k (by omega)]⟩, fun k hk1 hk2 => by rw [hτ k (by omega), e k (by omega)]⟩
  refine ⟨fun q => ?_, fun q => ?_⟩
  · intro τ4 h4'
    have en : A.2.2.2.1 = 14 := by omega
    rw [h3, show (1 : Int32) = nI 1 from rfl, nI_add, pk_rem (by omega) (by decide) (by decide)] at h4'
    obtain ⟨u1, u2, u3⟩ := uk h4'
    obtain ⟨⟨b1, b2, b3⟩, b4, b5⟩ := base τ4 u1 u3
    refine ⟨⟨b1, b2, ⟨(o + 1) % 14, Nat.mod_lt _ (by decide), by rw [u2, pk_us], fun i hi => ?_⟩, ?_, b3⟩, b4, b5⟩
    · have hi : i < rmN A.2.2.2.1 := hi
      rw [en] at hi
      show RP τ4 _ (rmH A.2.2.1 A.2.2.2.1 A.2.1 i)
      have em : ((o + 1) % 14 + i) % 14 = (o + (i + 1)) % 14 := by omega
      rw [em]
      unfold rmH
      rw [if_neg (by omega)]
      show RP τ4 _ (if i = 13 then A.2.1 else A.2.2.1 (i + 1))
      have hi14 : i < 14 := hi
      by_cases z : i = 13
      · rw [if_pos z]
        have e2 : (o + (i + 1)) % 14 = (o + A.2.2.2.1) % 14 := by omega
        rw [e2]
        exact p3.cong (fun j hj => u1 _ (by omega))
      · rw [if_neg z]
        exact (hist (i + 1) (by omega) (by omega)).cong (fun j hj => u1 _ (by omega))
    · show τ4.1 12 2 = nI (rmN A.2.2.2.1)
      rw [u2, pk_un (by decide), e 12 (by omega), h5, en]; rfl
  · intro τ5 h5'
    rw [nI_1] at h5'
    obtain ⟨u1, u2, u3⟩ := uk h5'
    obtain ⟨⟨b1, b2, b3⟩, b4, b5⟩ := base τ5 u1 u3
    refine ⟨⟨b1, b2, ⟨o, ho, by rw [u2, pk_un (by decide), e 12 (by omega)]; exact h3, fun i hi => ?_⟩, ?_, b3⟩, b4, b5⟩
    · have hi : i < rmN A.2.2.2.1 := hi
      have hN : rmN A.2.2.2.1 = A.2.2.2.1 + 1 := by unfold rmN; rw [if_pos (by omega)]
      rw [hN] at hi
      show RP τ5 _ (rmH A.2.2.1 A.2.2.2.1 A.2.1 i)
      unfold rmH
      rw [if_pos (by omega)]
      show RP τ5 _ (if i = A.2.2.2.1 then A.2.1 else A.2.2.1 i)
      by_cases z : i = A.2.2.2.1
      · rw [if_pos z, z]
        exact p3.cong (fun j hj => u1 _ (by omega))
      · rw [if_neg z]
        exact (hist i (by omega) (by omega)).cong (fun j hj => u1 _ (by omega))
    · show τ5.1 12 2 = nI (rmN A.2.2.2.1)
      rw [u2, pk_us]; unfold rmN; rw [if_pos (by omega)]
end HI
