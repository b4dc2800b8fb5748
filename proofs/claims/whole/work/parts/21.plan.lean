/-! contracts of the plan's own methods: sums, work, changes -/
theorem gif {α : Type} {c d : Prop} [Decidable c] [Decidable d] (h : c ↔ d) (a b : α) : (if c then a else b) = (if d then a else b) := by
  by_cases q : c
  · rw [if_pos q, if_pos (h.mp q)]
  · rw [if_neg q, if_neg (fun z => q (h.mpr z))]
def bA (p : Nat → Bool) : Nat → Bool
  | 0 => true
  | n + 1 => bA p n && p n
theorem bA_iff {p : Nat → Bool} : ∀ n, bA p n = true ↔ ∀ i, i < n → p i = true
  | 0 => ⟨fun _ i h => absurd h (Nat.not_lt_zero i), fun _ => rfl⟩
  | n + 1 => by
    rw [bA, Bool.and_eq_true, bA_iff n]
    constructor
    · rintro ⟨h1, h2⟩ i hi
      rcases Nat.lt_or_ge i n with q | q
      · exact h1 i q
      · have e : i = n := by omega
        rw [e]; exact h2
    · intro h
      exact ⟨fun i hi => h i (by omega), h n (by omega)⟩
theorem bA_false {p : Nat → Bool} {n i : Nat} (hi : i < n) (h : p i = false) : bA p n = false := by
  cases e : bA p n with
  | false => rfl
  | true => have := (bA_iff n).mp e i hi; rw [h] at this; cases this
def cN (p : Nat → Bool) : Nat → Nat
  | 0 => 0
  | n + 1 => if p n then cN p n + 1 else cN p n
theorem cN_le (p : Nat → Bool) : ∀ n, cN p n ≤ n
  | 0 => Nat.le_refl _
  | n + 1 => by
    have := cN_le p n
    rw [cN]; split <;> omega
def canb (T : pT) (m w : Nat) : Bool := (!(decide (tO T w = m)) || decide (tV T w ≤ tH T w)) && decide (bh T m w ≤ 999)
def canB (T : pT) (m : Nat) : Bool := bA (canb T m) (tW T)
theorem canB_iff (T : pT) (m : Nat) : canB T m = true ↔ canW T m := by
  unfold canB canW
  rw [bA_iff]
  constructor
  · intro h w hw
    have := h w hw
    simp only [canb, Bool.and_eq_true, Bool.or_eq_true, Bool.not_eq_true', decide_eq_false_iff_not, decide_eq_true_eq] at this
    exact ⟨fun e => this.1.resolve_left (fun n => n e), this.2⟩
  · intro h w hw
    simp only [canb, Bool.and_eq_true, Bool.or_eq_true, Bool.not_eq_true', decide_eq_false_iff_not, decide_eq_true_eq]
    by_cases e : tO T w = m
    · exact ⟨Or.inr ((h w hw).1 e), (h w hw).2⟩
    · exact ⟨Or.inl e, (h w hw).2⟩
theorem mb_eq {T : pT} {w m : Nat} (hv : VT T) (hw : w < tW T) (hm : m < 2 ^ 31) (hc : tO T w = m → tV T w ≤ tH T w) : nI (tH T w) - (if nI (tO T w) = nI m then nI (tV T w) else 0) + (if nI (tF T w) = nI m then nI (tC T w) else 0) = nI (bh T m w) := by
  obtain ⟨h1, h2, h3, h4, h5, h6, h7⟩ := hv.2.2.2 w hw
  have h8 := hv.1
  have q1 : (nI (tO T w) = nI m) ↔ tO T w = m := nI_eq (by omega) hm
  have q2 : (nI (tF T w) = nI m) ↔ tF T w = m := nI_eq (by omega) hm
  unfold bh
  by_cases e1 : tO T w = m <;> by_cases e2 : tF T w = m
  · rw [if_pos (q1.mpr e1), if_pos (q2.mpr e2), if_pos e1, if_pos e2, pk_sub (hc e1), nI_add]
  · rw [if_pos (q1.mpr e1), if_neg (fun z => e2 (q2.mp z)), if_pos e1, if_neg e2, pk_sub (hc e1), ← nI_0, nI_add]
  · rw [if_neg (fun z => e1 (q1.mp z)), if_pos (q2.mpr e2), if_neg e1, if_pos e2, ← nI_0, pk_sub (Nat.zero_le _), nI_add]
  · rw [if_neg (fun z => e1 (q1.mp z)), if_neg (fun z => e2 (q2.mp z)), if_neg e1, if_neg e2, ← nI_0, pk_sub (Nat.zero_le _), nI_add]
theorem bh_le {T : pT} {w m : Nat} (hv : VT T) (hw : w < tW T) : bh T m w ≤ 1005 := by
  obtain ⟨h1, h2, h3, h4, h5, h6, h7⟩ := hv.2.2.2 w hw
  unfold bh
  split <;> split <;> omega
section PL
variable {l : Launch} {x : gw_X} {G : gw_G} {σ : gw_S} {b : Nat} {T : pT}
theorem k_X3_allMarks (hb : gw_plan b) (hp : RP σ b T) (hv : VT T) : gw_M l G yX3_allMarks cX3_allMarks 3 (some .int) 0 [.ref (G.1 + b)] σ (fi (fun r τ => r = nI (sN (tH T) (tW T)) ∧ τ = σ)) := by
  refine gw_met (by decide) (Nat.le_of_ble_eq_true rfl) (fun x C hR hT => sg_X3_allMarks_0 C hR hT b hb σ ?_)
  have key : ∀ n i, i + n = tW T → PW x G 3 4 [(0, .ref (G.1 + b)), (1, .int (nI (sN (tH T) i))), (2, .int (nI i))] [] σ := by
    have hw := hv.2.1
    intro n
    induction n with
    | zero =>
      intro i hi
      refine sg_X3_allMarks_4 C hR hT b hb _ _ σ ⟨fun _ => ⟨by rw [show i = tW T by omega], rfl⟩, fun q => absurd ?_ q⟩
      rw [hp.2.1, nI_le_iff (by omega) (by omega)]; omega
    | succ n ih =>
      intro i hi
      refine sg_X3_allMarks_4 C hR hT b hb _ _ σ ⟨fun q => ?_, fun _ => ⟨vp_in_nI (by omega) (by decide), ?_⟩⟩
      · rw [hp.2.1, nI_le_iff (by omega) (by omega)] at q; omega
      · rw [nI_clamp (by omega), (hp.2.2.2 i (by omega)).2.2.2.2, nI_add, nI_1]; exact ih (i + 1) (by omega)
  exact key (tW T) 0 (by omega)
theorem k_X3_allWorks (hb : gw_plan b) (hp : RP σ b T) (hv : VT T) : gw_M l G yX3_allWorks cX3_allWorks 3 (some .int) 0 [.ref (G.1 + b)] σ (fi (fun r τ => r = sI (tD T) (tM T) ∧ τ = σ)) := by
  refine gw_met (by decide) (Nat.le_of_ble_eq_true rfl) (fun x C hR hT => sg_X3_allWorks_0 C hR hT b hb σ ?_)
  have key : ∀ n i, i + n = tM T → PW x G 3 4 [(0, .ref (G.1 + b)), (1, .int (sI (tD T) i)), (2, .int (nI i))] [] σ := by
    have hw := hv.1
    intro n
    induction n with
    | zero =>
      intro i hi
      refine sg_X3_allWorks_4 C hR hT b hb _ _ σ ⟨fun _ => ⟨by rw [show i = tM T by omega], rfl⟩, fun q => absurd ?_ q⟩
      rw [hp.1, nI_le_iff (by omega) (by omega)]; omega
    | succ n ih =>
      intro i hi
      refine sg_X3_allWorks_4 C hR hT b hb _ _ σ ⟨fun q => ?_, fun _ => ⟨vp_in_nI (by omega) (by decide), ?_⟩⟩
      · rw [hp.1, nI_le_iff (by omega) (by omega)] at q; omega
      · rw [nI_clamp (by omega), (hp.2.2.1 i (by omega)).2.2, nI_1]; exact ih (i + 1) (by omega)
  exact key (tM T) 0 (by omega)
theorem k_X3_count {k n m : Nat} {f : Nat → Nat} (hk : gw_ia k 14) (hn : n ≤ 14) (hm : m < 2 ^ 31) (hf : ∀ w, w < n → σ.1 k w = nI (f w) ∧ f w < 2 ^ 31) : gw_M l G yX3_count cX3_count 5 (some .int) 0 [.ref (G.1 + k), .int (nI n), .int (nI m)] σ (fi (fun r τ => r = nI (cN (fun w => decide (f w = m)) n) ∧ τ = σ)) := by
  refine gw_met (by decide) (Nat.le_of_ble_eq_true rfl) (fun x C hR hT => sg_X3_count_0 C hR hT k _ _ hk σ ?_)
  have key : ∀ d i, i + d = n → PW x G 5 5 [(0, .ref (G.1 + k)), (1, .int (nI n)), (2, .int (nI m)), (3, .int (nI (cN (fun w => decide (f w = m)) i))), (4, .int (nI i))] [] σ := by
    intro d
    induction d with
    | zero =>
      intro i hi
      refine sg_X3_count_5 C hR hT k hk _ _ _ _ σ ⟨fun _ => ⟨by rw [show i = n by omega], rfl⟩, fun q => absurd ?_ q⟩
      rw [nI_le_iff (by omega) (by omega)]; omega
    | succ d ih =>
      intro i hi
      refine sg_X3_count_5 C hR hT k hk _ _ _ _ σ ⟨fun q => ?_, fun _ => ⟨fun q => ?_, fun _ => ⟨vp_in_nI (by omega) (by decide), ?_⟩⟩⟩
      · rw [nI_le_iff (by omega) (by omega)] at q; omega
      · rw [show (14 : Int32) = nI 14 from rfl, nI_le_iff (by omega) (by omega)] at q; omega
      · have := ih (i + 1) (by omega)
        rw [nI_clamp (by omega), (hf i (by omega)).1, nI_1 i]
        rw [cN] at this
        by_cases e : f i = m
        · rw [if_pos (by rw [e]), nI_1]
          simp only [e, decide_true, if_true] at this
          exact this
        · rw [if_neg (by rw [nI_eq_iff (hf i (by omega)).2 hm]; exact e)]
          simp only [e, decide_false, if_false, Bool.false_eq_true] at this
          exact this
  exact key n 0 (by omega)
theorem k_X3_canWork {m : Nat} (hb : gw_plan b) (hp : RP σ b T) (hv : VT T) (hm : m < 2 ^ 31) : gw_M l G yX3_canWork cX3_canWork 3 (some .boolean) 1 [.ref (G.1 + b), .int (nI m)] σ (fz (fun r τ => r = canB T m ∧ τ = σ)) := by
  refine gw_met (by decide) (Nat.le_of_ble_eq_true rfl) (fun x C hR hT => sg_X3_canWork_0 C hR hT b _ hb σ ?_)
  have key : ∀ n i, i + n = tW T → (∀ w, w < i → canb T m w = true) → PW x G 3 2 [(0, .ref (G.1 + b)), (1, .int (nI m)), (2, .int (nI i))] [] σ := by
    have hw := hv.2.1
    intro n
    induction n with
    | zero =>
      intro i hi ho
      refine sg_X3_canWork_2 C hR hT b hb _ _ σ ⟨fun _ => ⟨((bA_iff _).mpr (fun w hw => ho w (by omega))).symm, rfl⟩, fun q => absurd ?_ q⟩
      rw [hp.2.1, nI_le_iff (by omega) (by omega)]; omega
    | succ n ih =>
      intro i hi ho
      have hiT : i < tW T := by omega
      obtain ⟨r1, r2, r3, r4, r5⟩ := hp.2.2.2 i hiT
      obtain ⟨h1, h2, h3, h4, h5, h6, h7⟩ := hv.2.2.2 i hiT
      have h8 := hv.1
      have hbh := bh_le (m := m) hv hiT
      refine sg_X3_canWork_2 C hR hT b hb _ _ σ ⟨fun q => ?_, fun _ => ⟨vp_in_nI (by omega) (by decide), ?_⟩⟩
      · rw [hp.2.1, nI_le_iff (by omega) (by omega)] at q; omega
      · rw [nI_clamp (by omega), r1, r2, r3, r4, r5, nI_1, show (999 : Int32) = nI 999 from rfl]
        have step : canb T m i = true → PW x G 3 2 [(0, .ref (G.1 + b)), (1, .int (nI m)), (2, .int (nI (i + 1)))] [] σ := fun hc => ih (i + 1) (by omega) (fun w hw => by
          rcases Nat.lt_or_ge w i with q | q
          · exact ho w q
          · rw [show w = i by omega]; exact hc)
        have no : canb T m i = false → (false = canB T m ∧ σ = σ) := fun hc => ⟨(bA_false hiT hc).symm, rfl⟩
        refine ⟨fun e => ?_, fun e => ?_⟩
        · have e' : ¬ tO T i = m := fun z => e (by rw [z])
          rw [mb_eq hv hiT hm (fun z => absurd z e'), nI_le_iff (by omega) (by decide)]
          exact ⟨fun q => step (by simp [canb, e', q]), fun q => no (by simp [canb, e']; omega)⟩
        · have e' : tO T i = m := by rw [nI_eq_iff (by omega) hm] at e; exact e
          rw [nI_lt_iff (by omega) (by omega)]
          refine ⟨fun q => no (by simp [canb, e']; omega), fun q => ?_⟩
          rw [mb_eq hv hiT hm (fun _ => by omega), nI_le_iff (by omega) (by decide)]
          exact ⟨fun q2 => step (by simp [canb, q2]; omega), fun q2 => no (by simp [canb]; omega)⟩
  exact key (tW T) 0 (by omega) (fun w hw => absurd hw (Nat.not_lt_zero w))
def gI (T : pT) (m : Nat) : Int32 := sI (fun w => (if tF T w = m then nI (tC T w) else 0) - (if tO T w = m then nI (tV T w) else 0)) (tW T)
theorem k_X3_gain {m : Nat} (hb : gw_plan b) (hp : RP σ b T) (hv : VT T) (hm : m < 2 ^ 31) : gw_M l G yX3_gain cX3_gain 4 (some .int) 1 [.ref (G.1 + b), .int (nI m)] σ (fi (fun r τ => r = gI T m ∧ τ = σ)) := by
  refine gw_met (by decide) (Nat.le_of_ble_eq_true rfl) (fun x C hR hT => sg_X3_gain_0 C hR hT b _ hb σ ?_)
  have key : ∀ n i, i + n = tW T → PW x G 4 4 [(0, .ref (G.1 + b)), (1, .int (nI m)), (2, .int (sI (fun w => (if tF T w = m then nI (tC T w) else 0) - (if tO T w = m then nI (tV T w) else 0)) i)), (3, .int (nI i))] [] σ := by
    have hw := hv.2.1
    intro n
    induction n with
    | zero =>
      intro i hi
      refine sg_X3_gain_4 C hR hT b hb _ _ _ σ ⟨fun _ => ⟨by rw [show i = tW T by omega]; rfl, rfl⟩, fun q => absurd ?_ q⟩
      rw [hp.2.1, nI_le_iff (by omega) (by omega)]; omega
    | succ n ih =>
      intro i hi
      have hiT : i < tW T := by omega
      obtain ⟨r1, r2, r3, r4, r5⟩ := hp.2.2.2 i hiT
      obtain ⟨h1, h2, h3, h4, h5, h6, h7⟩ := hv.2.2.2 i hiT
      have h8 := hv.1
      refine sg_X3_gain_4 C hR hT b hb _ _ _ σ ⟨fun q => ?_, fun _ => ⟨vp_in_nI (by omega) (by decide), ?_⟩⟩
      · rw [hp.2.1, nI_le_iff (by omega) (by omega)] at q; omega
      · rw [nI_clamp (by omega), r1, r2, r3, r4, r5, nI_1]
        have := ih (i + 1) (by omega)
        rw [sI] at this
        have g1 : (if nI (tF T i) = nI m then nI (tC T i) else 0) = (if tF T i = m then nI (tC T i) else 0) := gif (nI_eq (by omega) hm) _ _
        have g2 : (if nI (tO T i) = nI m then nI (tV T i) else 0) = (if tO T i = m then nI (tV T i) else 0) := gif (nI_eq (by omega) hm) _ _
        rw [g1, g2]
        have e : ∀ a u c : Int32, a - u + c - a = c - u := fun a u c => by
          apply Int32.toBitVec_inj.mp
          simp only [Int32.toBitVec_sub, Int32.toBitVec_add]
          generalize a.toBitVec = A; generalize u.toBitVec = U; generalize c.toBitVec = D
          rw [BitVec.sub_eq_add_neg, BitVec.sub_eq_add_neg, BitVec.sub_eq_add_neg]
          rw [BitVec.add_assoc, BitVec.add_assoc, BitVec.add_comm A, BitVec.add_assoc, BitVec.add_assoc, BitVec.add_comm (-A) A, BitVec.add_right_neg, BitVec.add_zero, BitVec.add_comm]
        rw [e]
        exact this
  exact key (tW T) 0 (by omega)
theorem k_X3_newMarks {w v : Nat} (hb : gw_plan b) (hp : RP σ b T) (hv : VT T) (hw : w < tW T) : gw_M l G yX3_newMarks cX3_newMarks 4 (some .int) 0 [.ref (G.1 + b), .int (nI w), .int (nI v)] σ (fi (fun r τ => r = nI (tH T w) ∧ RP τ b (oPut T w v) ∧ SP b σ τ)) := by
  have h14 := hv.2.1
  refine gw_met (by decide) (Nat.le_of_ble_eq_true rfl) (fun x C hR hT => sg_X3_newMarks_0 C hR hT b _ _ hb σ ⟨vp_in_nI (by omega) (by decide), ?_⟩)
  rintro τ rfl
  rw [nI_clamp (by omega)]
  refine ⟨(hp.2.2.2 w hw).2.2.2.2, ⟨?_, ?_, fun m hm => ?_, fun k hk => ?_⟩, SP.u (by omega) (by omega)⟩
  · rw [gw_u_k _ _ _ (by omega)]; exact hp.1
  · rw [gw_u_k _ _ _ (by omega)]; exact hp.2.1
  · rw [gw_u_k _ _ _ (by omega), gw_u_k _ _ _ (by omega), gw_u_k _ _ _ (by omega)]; exact hp.2.2.1 m hm
  · obtain ⟨r1, r2, r3, r4, r5⟩ := hp.2.2.2 k hk
    rw [gw_u_k _ _ _ (by omega), gw_u_k _ _ _ (by omega), gw_u_k _ _ _ (by omega), gw_u_k _ _ _ (by omega)]
    refine ⟨r1, r2, r3, r4, ?_⟩
    show _ = nI (if k = w then v else tH T k)
    by_cases e : k = w
    · rw [if_pos e, e, gw_u_at]
    · rw [if_neg e, gw_u_j _ _ _ e]; exact r5
end PL
