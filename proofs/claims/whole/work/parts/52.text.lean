/-! a text: commands, where it is wrong, what it builds; the class reads it -/
abbrev xT : Type := Nat × (Nat → Nat)
def xV (X : xT) : Prop := X.1 ≤ 120 ∧ ∀ i, i < X.1 → X.2 i < 256
def tAt (X : xT) (i : Nat) : Nat := if i < X.1 then X.2 i else 0
def dg (c : Nat) : Nat := if c = 99 then 2 else if c = 102 then 1 else if c = 109 then 2 else if c = 119 then 6 else 0
def loC (c k : Nat) : Nat := if c = 119 then (if k = 3 then 49 else if k = 4 then 49 else 48) else 48
def hiC (c k b : Nat) : Nat := if c = 99 then (if k = 1 then 49 else if b = 48 then 57 else 51) else if c = 109 then 51 else if c = 119 then (if 2 < k then (if 4 < k then 57 else 54) else 55) else 55
def okd (X : xT) (i k : Nat) : Bool := decide (i + k < X.1) && decide (loC (tAt X i) k ≤ tAt X (i + k)) && decide (tAt X (i + k) ≤ hiC (tAt X i) k (tAt X (i + k - 1)))
def cmE (X : xT) (i : Nat) : Nat → Nat → Option Nat
  | 0, _ => none
  | d + 1, k => if okd X i k = true then cmE X i d (k + 1) else some (i + k)
def cmdE (X : xT) (i : Nat) : Option Nat := if dg (tAt X i) = 0 then some i else cmE X i (dg (tAt X i)) 1
def errF (X : xT) : Nat → Nat → Option Nat
  | 0, _ => none
  | f + 1, i => if i < X.1 then (match cmdE X i with
    | some e => some e
    | none => errF X f (i + (1 + dg (tAt X i)))) else none
def errX (X : xT) : Option Nat := if tAt X 0 = 77 then errF X 120 1 else some 0
noncomputable def obey (X : xT) (i : Nat) (s : pT × Nat) : pT × Nat :=
  let d := fun k => tAt X (i + k) - 48
  if tAt X i = 109 then (oTM s.1 (d 1) (d 2), if tM s.1 < 8 then s.2 else s.2 + 1)
  else if tAt X i = 119 then (oTW s.1 (d 1) (d 2) (d 3) (d 4) (10 * d 5 + d 6), if twB s.1 (d 1) (d 2) (d 3) (d 4) (10 * d 5 + d 6) = true then s.2 else s.2 + 1)
  else if tAt X i = 99 then (oTC s.1 (10 * d 1 + d 2), if 10 * d 1 + d 2 < tW s.1 then s.2 else s.2 + 1)
  else (oTF s.1 (d 1), if tfB s.1 (d 1) = true then s.2 else s.2 + 1)
noncomputable def ldF (X : xT) : Nat → Nat → pT × Nat → pT × Nat
  | 0, _, s => s
  | f + 1, i, s => if i < X.1 then ldF X f (i + (1 + dg (tAt X i))) (obey X i s) else s
noncomputable def ldX (X : xT) : pT × Nat := ldF X 120 1 (oNil, 0)
theorem dg_cases {c : Nat} (h : dg c ≠ 0) : c = 99 ∨ c = 102 ∨ c = 109 ∨ c = 119 := by
  unfold dg at h
  by_cases h1 : c = 99
  · exact Or.inl h1
  · rw [if_neg h1] at h
    by_cases h2 : c = 102
    · exact Or.inr (Or.inl h2)
    · rw [if_neg h2] at h
      by_cases h3 : c = 109
      · exact Or.inr (Or.inr (Or.inl h3))
      · rw [if_neg h3] at h
        by_cases h4 : c = 119
        · exact Or.inr (Or.inr (Or.inr h4))
        · rw [if_neg h4] at h; exact absurd rfl h
theorem dg_le (c : Nat) : dg c ≤ 6 := by
  unfold dg; split
  · decide
  · split
    · decide
    · split
      · decide
      · split <;> decide
theorem tAt_lt {X : xT} (hX : xV X) (i : Nat) : tAt X i < 256 := by
  unfold tAt; split
  · next h => exact hX.2 i h
  · decide
theorem cmE_none {X : xT} {i : Nat} : ∀ d k, cmE X i d k = none → ∀ j, k ≤ j → j < k + d → okd X i j = true
  | 0, k, _, j, h1, h2 => by omega
  | d + 1, k, h, j, h1, h2 => by
    rw [cmE] at h
    split at h
    · next e =>
      by_cases z : j = k
      · rw [z]; exact e
      · exact cmE_none d (k + 1) h j (by omega) (by omega)
    · cases h
theorem cmE_all {X : xT} {i : Nat} : ∀ d k, (∀ j, k ≤ j → j < k + d → okd X i j = true) → cmE X i d k = none
  | 0, _, _ => rfl
  | d + 1, k, h => by
    rw [cmE, if_pos (h k (Nat.le_refl _) (by omega))]
    exact cmE_all d (k + 1) (fun j h1 h2 => h j (by omega) (by omega))
theorem cmE_some {X : xT} {i j : Nat} : ∀ d k, k ≤ j → j < k + d → okd X i j = false → (∀ j', k ≤ j' → j' < j → okd X i j' = true) → cmE X i d k = some (i + j)
  | 0, k, h1, h2, _, _ => by omega
  | d + 1, k, h1, h2, h3, h4 => by
    rw [cmE]
    by_cases z : j = k
    · subst z; rw [if_neg (by rw [h3]; decide)]
    · rw [if_pos (h4 k (Nat.le_refl _) (by omega))]
      exact cmE_some d (k + 1) (by omega) (by omega) h3 (fun j' a b => h4 j' (by omega) b)
theorem okd_i {X : xT} {i k : Nat} (h : okd X i k = true) : i + k < X.1 ∧ loC (tAt X i) k ≤ tAt X (i + k) ∧ tAt X (i + k) ≤ hiC (tAt X i) k (tAt X (i + k - 1)) := by
  unfold okd at h
  rw [Bool.and_eq_true, Bool.and_eq_true, decide_eq_true_eq, decide_eq_true_eq, decide_eq_true_eq] at h
  exact ⟨h.1.1, h.1.2, h.2⟩
theorem loC_48 (c k : Nat) : 48 ≤ loC c k := by
  unfold loC; split
  · split
    · decide
    · split <;> decide
  · decide
theorem hiC_57 (c k b : Nat) : hiC c k b ≤ 57 := by
  unfold hiC; split
  · split
    · decide
    · split <;> decide
  · split
    · decide
    · split
      · split
        · split <;> decide
        · decide
      · decide
theorem okd_d {X : xT} {i k : Nat} (h : okd X i k = true) : 48 ≤ tAt X (i + k) ∧ tAt X (i + k) ≤ 57 := by
  obtain ⟨h1, h2, h3⟩ := okd_i h
  exact ⟨Nat.le_trans (loC_48 _ _) h2, Nat.le_trans h3 (hiC_57 _ _ _)⟩
/-- obeying keeps what holds of every state -/
theorem VT_obey {X : xT} {i : Nat} {s : pT × Nat} (hv : VT s.1) (hE : cmdE X i = none) : VT (obey X i s).1 := by
  have hdg : dg (tAt X i) ≠ 0 := fun z => by unfold cmdE at hE; rw [if_pos z] at hE; cases hE
  have hall : ∀ j, 1 ≤ j → j < 1 + dg (tAt X i) → okd X i j = true := by
    unfold cmdE at hE; rw [if_neg hdg] at hE; exact cmE_none _ _ hE
  unfold obey
  simp only []
  split
  · next h =>
    have e : dg (tAt X i) = 2 := by rw [h]; rfl
    have e3 : ∀ j, hiC 109 j (tAt X (i + j - 1)) = 51 := fun j => rfl
    have k1 := okd_i (hall 1 (by omega) (by omega))
    have k2 := okd_i (hall 2 (by omega) (by omega))
    rw [h, e3] at k1 k2
    exact VT_tm hv (by omega) (by omega)
  · split
    · next h =>
      have e : dg (tAt X i) = 6 := by rw [h]; rfl
      have k5 := okd_d (hall 5 (by omega) (by omega))
      have k6 := okd_d (hall 6 (by omega) (by omega))
      exact VT_tw hv (by omega)
    · split
      · exact VT_tc hv
      · exact VT_tf hv
theorem ifle (c : Prop) [Decidable c] (n : Nat) : (if c then n else n + 1) ≤ n + 1 := by split <;> omega
theorem obey_le {X : xT} {i : Nat} (s : pT × Nat) : (obey X i s).2 ≤ s.2 + 1 := by
  unfold obey
  simp only []
  split
  · exact ifle _ _
  · split
    · exact ifle _ _
    · split
      · exact ifle _ _
      · exact ifle _ _
/-- the class holds a text; the reference holds a text -/
def xCl (σ : gw_S) (X : xT) : Prop := σ.1 1 1 = nI X.1 ∧ ∀ i, i < X.1 → σ.1 2 i = nI (X.2 i)
def xRf (σ : gw_S) (X : xT) : Prop := σ.1 189 2 = nI X.1 ∧ ∀ i, i < X.1 → σ.1 190 i = nI (X.2 i)
def oX : Option Nat → Int32
  | none => -1
  | some m => nI m
theorem nk (n : Nat) (k : Nat) : (nI n = nI k) = (nI n = nI k) := rfl
section TX
variable {l : Launch} {G : gw_G} {σ : gw_S} {X : xT}
theorem k_X5_at {i : Nat} (h : xCl σ X) (hX : xV X) (hi : i < 2 ^ 31) : gw_M l G yX5_at cX5_at 2 (some .char) 0 [.ref (G.1 + 1), .int (nI i)] σ (fi (fun r τ => r = nI (tAt X i) ∧ τ = σ)) := by
  have h120 := hX.1
  refine gw_met (by decide) (Nat.le_of_ble_eq_true rfl) (fun x C hR hT => sg_X5_at_0 C hR hT _ σ ?_)
  have e : (if nI i < 0 then 0 else (if nI i < σ.1 1 1 then σ.1 2 (nI i).toNatClampNeg else 0 : Int32) : Int32) = nI (tAt X i) := by
    rw [if_neg (nI_pos hi), h.1, gif (nI_ltI hi (by omega)), nI_clamp hi]
    unfold tAt
    by_cases q : i < X.1
    · rw [if_pos q, if_pos q, h.2 i q]
    · rw [if_neg q, if_neg q]; rfl
  rw [e, h.1, nI_lt_iff hi (by omega)]
  refine ⟨⟨fun _ => trivial, fun _ => ⟨fun q => ⟨vp_in_nI (by omega) (by decide), trivial⟩, fun _ => trivial⟩⟩, ?_, rfl, rfl⟩
  have := tAt_lt hX i
  exact (pk_charN (by omega)).1
theorem k_X5_digit {i : Nat} (h : xCl σ X) (hX : xV X) (hi : i < 2 ^ 31) (h48 : 48 ≤ tAt X i) : gw_M l G yX5_digit cX5_digit 2 (some .int) 1 [.ref (G.1 + 1), .int (nI i)] σ (fi (fun r τ => r = nI (tAt X i - 48) ∧ τ = σ)) := by
  refine gw_met (by decide) (Nat.le_of_ble_eq_true rfl) (fun x C hR hT => sg_X5_digit_0 C hR hT _ σ ⟨_, k_X5_at h hX hi, ?_⟩)
  rintro r τ ⟨rfl, rfl⟩
  exact ⟨by rw [show (48 : Int32) = nI 48 from rfl, pk_sub h48], rfl⟩
theorem k_X5_digitsOf {c : Nat} (hc : c < 2 ^ 31) : gw_M l G yX5_digitsOf cX5_digitsOf 1 (some .int) 0 [.int (nI c)] σ (fi (fun r τ => r = nI (dg c) ∧ τ = σ)) := by
  refine gw_met (by decide) (Nat.le_of_ble_eq_true rfl) (fun x C hR hT => sg_X5_digitsOf_0 C hR hT _ σ ?_)
  rw [show (99 : Int32) = nI 99 from rfl, show (102 : Int32) = nI 102 from rfl, show (109 : Int32) = nI 109 from rfl, show (119 : Int32) = nI 119 from rfl, nI_eq_iff hc (by omega), nI_eq_iff hc (by omega), nI_eq_iff hc (by omega), nI_eq_iff hc (by omega)]
  unfold dg
  refine ⟨fun e => ⟨by rw [if_pos e]; rfl, rfl⟩, fun e => ⟨by subst e; rfl, rfl⟩, fun e => ⟨by subst e; rfl, rfl⟩, fun e => ⟨by subst e; rfl, rfl⟩, fun e1 e2 e3 e4 => ⟨by rw [if_neg e1, if_neg e2, if_neg e3, if_neg e4]; rfl, rfl⟩⟩
theorem lo_lt (c k : Nat) : loC c k < 65536 := by
  unfold loC; split
  · split
    · decide
    · split <;> decide
  · decide
theorem k_X5_lowest {c k : Nat} (hc : c < 2 ^ 31) (hk : k < 2 ^ 31) : gw_M l G yX5_lowest cX5_lowest 2 (some .char) 0 [.int (nI c), .int (nI k)] σ (fi (fun r τ => r = nI (loC c k) ∧ τ = σ)) := by
  refine gw_met (by decide) (Nat.le_of_ble_eq_true rfl) (fun x C hR hT => sg_X5_lowest_0 C hR hT _ _ σ ?_)
  have e : (if nI c = 119 then (if nI k = 3 then 49 else (if nI k = 4 then 49 else 48 : Int32) : Int32) else 48 : Int32) = nI (loC c k) := by
    rw [show (119 : Int32) = nI 119 from rfl, show (3 : Int32) = nI 3 from rfl, show (4 : Int32) = nI 4 from rfl, gif (nI_eq hc (by omega)), gif (nI_eq hk (by omega)), gif (nI_eq hk (by omega))]
    unfold loC
    split
    · split
      · rfl
      · split <;> rfl
    · rfl
  rw [e]
  exact ⟨(pk_charN (lo_lt c k)).1, rfl, rfl⟩
theorem k_X5_highest {c k b : Nat} (hc : c < 2 ^ 31) (hk : k < 2 ^ 31) (hb : b < 2 ^ 31) : gw_M l G yX5_highest cX5_highest 3 (some .char) 0 [.int (nI c), .int (nI k), .int (nI b)] σ (fi (fun r τ => r = nI (hiC c k b) ∧ τ = σ)) := by
  refine gw_met (by decide) (Nat.le_of_ble_eq_true rfl) (fun x C hR hT => sg_X5_highest_0 C hR hT _ _ _ σ ?_)
  have e1 : (if nI k = 1 then 49 else (if nI b = 48 then 57 else 51 : Int32) : Int32) = nI (if k = 1 then 49 else if b = 48 then 57 else 51) := by
    rw [show (1 : Int32) = nI 1 from rfl, show (48 : Int32) = nI 48 from rfl, gif (nI_eq hk (by omega)), gif (nI_eq hb (by omega))]
    split
    · rfl
    · split <;> rfl
  have e2 : (if 2 < nI k then (if 4 < nI k then 57 else 54 : Int32) else 55 : Int32) = nI (if 2 < k then (if 4 < k then 57 else 54) else 55) := by
    rw [show (2 : Int32) = nI 2 from rfl, show (4 : Int32) = nI 4 from rfl, gif (nI_ltI (a := 2) (by omega) hk), gif (nI_ltI (a := 4) (by omega) hk)]
    split
    · split <;> rfl
    · rfl
  have h1 := hiC_57 99 k b
  have h2 := hiC_57 119 k b
  rw [e1, e2, show (99 : Int32) = nI 99 from rfl, show (109 : Int32) = nI 109 from rfl, show (119 : Int32) = nI 119 from rfl, nI_eq_iff hc (by omega), nI_eq_iff hc (by omega), nI_eq_iff hc (by omega)]
  unfold hiC
  refine ⟨fun e => ⟨(pk_charN (Nat.lt_of_le_of_lt h1 (by decide))).1, by rw [if_pos e], rfl⟩, fun e => ⟨by subst e; rfl, rfl⟩, fun e => ⟨(pk_charN (Nat.lt_of_le_of_lt h2 (by decide))).1, by subst e; rfl, rfl⟩, fun f1 f2 f3 => ⟨by rw [if_neg f1, if_neg f2, if_neg f3]; rfl, rfl⟩⟩
theorem k_X5_errorOfCommand {i : Nat} (h : xCl σ X) (hX : xV X) (hi : i < X.1) : gw_M l G yX5_errorOfCommand cX5_errorOfCommand 4 (some .int) 1 [.ref (G.1 + 1), .int (nI i)] σ (fi (fun r τ => r = oX (cmdE X i) ∧ τ = σ)) := by
  have h120 := hX.1
  have hA := fun j => tAt_lt hX j
  have hdl := dg_le (tAt X i)
  refine gw_met (by decide) (Nat.le_of_ble_eq_true rfl) (fun x C hR hT => sg_X5_errorOfCommand_0 C hR hT _ σ ⟨_, k_X5_at h hX (by omega), ?_⟩)
  rintro r τ ⟨rfl, rfl⟩
  refine ⟨_, k_X5_digitsOf (by have := hA i; omega), ?_⟩
  rintro r τ' ⟨rfl, rfl⟩
  rw [show (0 : Int32) = nI 0 from rfl, nI_eq_iff (by omega) (by omega)]
  have key : ∀ d k, k + d = 1 + dg (tAt X i) → 1 ≤ k → i + k ≤ X.1 → cmE X i d k = cmE X i (dg (tAt X i)) 1 → PW x G 4 17 [(0, .ref (G.1 + 1)), (1, .int (nI i)), (2, .int (nI (dg (tAt X i)))), (3, .int (nI k))] [] τ' → True := fun _ _ _ _ _ _ _ => trivial
  have loop : dg (tAt X i) ≠ 0 → ∀ d k, k + d = 1 + dg (tAt X i) → 1 ≤ k → i + k ≤ X.1 → cmE X i d k = cmE X i (dg (tAt X i)) 1 → PW x G 4 17 [(0, .ref (G.1 + 1)), (1, .int (nI i)), (2, .int (nI (dg (tAt X i)))), (3, .int (nI k))] [] τ' := by
    intro hne d
    induction d with
    | zero =>
      intro k hk h1 hik hcm
      refine sg_X5_errorOfCommand_17 C hR hT _ _ _ τ' ⟨fun _ => ⟨?_, rfl⟩, fun q => absurd ?_ q⟩
      · unfold cmdE; rw [if_neg hne, ← hcm]; rfl
      · rw [nI_lt_iff (by omega) (by omega)]; omega
    | succ d ih =>
      intro k hk h1 hik hcm
      have hE : cmdE X i = if okd X i k = true then cmE X i d (k + 1) else some (i + k) := by
        unfold cmdE; rw [if_neg hne, ← hcm]; rfl
      refine sg_X5_errorOfCommand_17 C hR hT _ _ _ τ' ⟨fun q => ?_, fun _ => ?_⟩
      · rw [nI_lt_iff (by omega) (by omega)] at q; omega
      rw [nI_add]
      refine ⟨fun q => ⟨_, k_X5_at h hX (i := i + k) (by omega), ?_⟩, fun q => ⟨?_, rfl⟩⟩
      · rw [h.1, nI_lt_iff (by omega) (by omega)] at q
        have hb := hA (i + k)
        have hb2 := hA i
        have hb3 := hA (i + k - 1)
        have hlo := lo_lt (tAt X i) k
        have hhi := hiC_57 (tAt X i) k (tAt X (i + k - 1))
        rintro r τ ⟨rfl, rfl⟩
        refine ⟨_, k_X5_at h hX (i := i) (by omega), ?_⟩
        rintro r τ ⟨rfl, rfl⟩
        refine ⟨_, k_X5_lowest (by omega) (by omega), ?_⟩
        rintro r τ ⟨rfl, rfl⟩
        rw [nI_lt_iff (by omega) (by omega)]
        refine ⟨fun z => ⟨?_, rfl⟩, fun z => ⟨_, k_X5_at h hX (i := i + k) (by omega), ?_⟩⟩
        · rw [hE, if_neg (fun y => by have := (okd_i y).2.1; omega)]; rfl
        · rintro r τ ⟨rfl, rfl⟩
          refine ⟨_, k_X5_at h hX (i := i) (by omega), ?_⟩
          rintro r τ ⟨rfl, rfl⟩
          rw [show (1 : Int32) = nI 1 from rfl, pk_sub (by omega)]
          refine ⟨_, k_X5_at h hX (i := i + k - 1) (by omega), ?_⟩
          rintro r τ ⟨rfl, rfl⟩
          refine ⟨_, k_X5_highest (by omega) (by omega) (by omega), ?_⟩
          rintro r τ ⟨rfl, rfl⟩
          rw [nI_le_iff (by omega) (by omega), nI_add]
          refine ⟨fun y => ?_, fun y => ⟨?_, rfl⟩⟩
          · have ok : okd X i k = true := by unfold okd; simp [q, y]; omega
            refine ih (k + 1) (by omega) (by omega) (by omega) ?_
            rw [← hcm, cmE, if_pos ok]
          · rw [hE, if_neg (fun w => y (okd_i w).2.2)]; rfl
      · rw [h.1, nI_lt_iff (by omega) (by omega)] at q
        rw [hE, if_neg (fun w => q (okd_i w).1), h.1, show X.1 = i + k by omega]; rfl
  refine ⟨fun hne => loop hne (dg (tAt X i)) 1 (by omega) (by omega) (by omega) rfl, fun e => ⟨?_, rfl⟩⟩
  unfold cmdE; rw [if_pos e]; rfl
theorem k_X5_firstError (h : xCl σ X) (hX : xV X) : gw_M l G yX5_firstError cX5_firstError 3 (some .int) 2 [.ref (G.1 + 1)] σ (fi (fun r τ => r = oX (errX X) ∧ τ = σ)) := by
  have h120 := hX.1
  have hA := fun j => tAt_lt hX j
  refine gw_met (by decide) (Nat.le_of_ble_eq_true rfl) (fun x C hR hT => sg_X5_firstError_0 C hR hT σ ⟨_, k_X5_at h hX (i := 0) (by omega), ?_⟩)
  rintro r τ ⟨rfl, rfl⟩
  have hb0 := hA 0
  rw [show (77 : Int32) = nI 77 from rfl, nI_eq_iff (by omega) (by omega)]
  have loop : ∀ f i, X.1 ≤ i + f → i ≤ 127 → errF X f i = errF X 120 1 → tAt X 0 = 77 → PW x G 3 14 [(0, .ref (G.1 + 1)), (1, .int (nI i))] [] τ := by
    intro f
    induction f with
    | zero =>
      intro i hi hi7 he h77
      refine sg_X5_firstError_14 C hR hT _ τ ⟨fun _ => ⟨?_, rfl⟩, fun q => absurd ?_ q⟩
      · unfold errX; rw [if_pos h77, ← he]; rfl
      · rw [h.1, nI_le_iff (by omega) (by omega)]; omega
    | succ f ih =>
      intro i hi hi7 he h77
      refine sg_X5_firstError_14 C hR hT _ τ ⟨fun q => ⟨?_, rfl⟩, fun q => ?_⟩
      · rw [h.1, nI_le_iff (by omega) (by omega)] at q
        unfold errX; rw [if_pos h77, ← he, errF, if_neg (by omega)]; rfl
      · rw [h.1, nI_le_iff (by omega) (by omega)] at q
        have hE : errX X = match cmdE X i with
            | some e => some e
            | none => errF X f (i + (1 + dg (tAt X i))) := by
          unfold errX; rw [if_pos h77, ← he, errF, if_pos (by omega)]
        refine ⟨_, k_X5_errorOfCommand h hX (by omega), ?_⟩
        rintro r τ' ⟨rfl, rfl⟩
        cases hc : cmdE X i with
        | none =>
          rw [hc] at hE
          have hall : dg (tAt X i) ≠ 0 → i + dg (tAt X i) < X.1 := fun hne => by
            unfold cmdE at hc; rw [if_neg hne] at hc
            exact (okd_i (cmE_none _ _ hc (dg (tAt X i)) (by omega) (by omega))).1
          refine ⟨fun _ => ⟨_, k_X5_at h hX (by omega), ?_⟩, fun z => absurd rfl z⟩
          rintro r τ ⟨rfl, rfl⟩
          refine ⟨_, k_X5_digitsOf (by have := hA i; omega), ?_⟩
          rintro r τ ⟨rfl, rfl⟩
          have hdl := dg_le (tAt X i)
          rw [show (1 : Int32) = nI 1 from rfl, nI_add, nI_add]
          refine ih _ (by omega) (by omega) ?_ h77
          rw [← he, errF, if_pos (by omega), hc]
        | some e =>
          rw [hc] at hE
          have he31 : e < 2 ^ 31 := by
            have : ∀ d k, k + d ≤ 7 → cmE X i d k = some e → e ≤ i + 7 := by
              intro d
              induction d with
              | zero => intro k _ h; cases h
              | succ d ih2 =>
                intro k hk h
                rw [cmE] at h
                split at h
                · exact ih2 (k + 1) (by omega) h
                · cases h; omega
            unfold cmdE at hc
            split at hc
            · cases hc; omega
            · have hdl := dg_le (tAt X i)
              have := this _ _ (by omega) hc
              omega
          refine ⟨fun z => absurd z (nI_m1 he31), fun _ => ⟨by rw [hE], rfl⟩⟩
  refine ⟨fun e => loop 120 1 (by omega) (by omega) rfl e, fun e => ⟨?_, rfl⟩⟩
  unfold errX; rw [if_neg e]; rfl
end TX
