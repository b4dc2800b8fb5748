/-! what hangs together: closing over the wires in both directions -/
def uS (T : pT) (n : Nat) : Nat → Nat
  | 0 => n
  | i + 1 => if (uS T n i).testBit (tF T i) = true ∨ (uS T n i).testBit (tO T i) = true then uS T n i ||| (2 ^ tF T i ||| 2 ^ tO T i) else uS T n i
def uP (T : pT) (n : Nat) : Nat → Nat
  | 0 => n
  | p + 1 => uS T (uP T n p) (tW T)
theorem bit_or2 (n a c i : Nat) : (n ||| (2 ^ a ||| 2 ^ c)).testBit i = (n.testBit i || (decide (a = i) || decide (c = i))) := by
  rw [Nat.testBit_or, Nat.testBit_or, Nat.testBit_two_pow, Nat.testBit_two_pow]
def clU (T : pT) (S : Nat → Bool) : Prop := ∀ w, w < tW T → S (tF T w) = S (tO T w)
def cn (T : pT) (a c : Nat) : Prop := ∀ S, clU T S → S a = S c
theorem cn.rf {T : pT} {a : Nat} : cn T a a := fun _ _ => rfl
theorem cn.sy {T : pT} {a c : Nat} (h : cn T a c) : cn T c a := fun S hS => (h S hS).symm
theorem cn.tr {T : pT} {a c d : Nat} (h : cn T a c) (h2 : cn T c d) : cn T a d := fun S hS => (h S hS).trans (h2 S hS)
theorem cn.w {T : pT} {w : Nat} (hw : w < tW T) : cn T (tF T w) (tO T w) := fun S hS => hS w hw
theorem uS_mono (T : pT) (n : Nat) : ∀ k j i, j ≤ k → (uS T n j).testBit i = true → (uS T n k).testBit i = true := by
  intro k
  induction k with
  | zero => intro j i hj h; rw [show j = 0 by omega] at h; exact h
  | succ k ih =>
    intro j i hj h
    by_cases e : j = k + 1
    · subst e; exact h
    · have := ih j i (by omega) h
      rw [uS]
      split
      · rw [bit_or2, this]; rfl
      · exact this
theorem uS_step (T : pT) (n : Nat) {w : Nat} (h : (uS T n w).testBit (tF T w) = true ∨ (uS T n w).testBit (tO T w) = true) : (uS T n (w + 1)).testBit (tF T w) = true ∧ (uS T n (w + 1)).testBit (tO T w) = true := by
  rw [uS, if_pos h, bit_or2, bit_or2]; simp
theorem uS_sound {T : pT} {n : Nat} {S : Nat → Bool} (hS : clU T S) (hn : ∀ i, n.testBit i = true → S i = true) : ∀ k, k ≤ tW T → ∀ i, (uS T n k).testBit i = true → S i = true := by
  intro k
  induction k with
  | zero => intro _; exact hn
  | succ k ih =>
    intro hk i hi
    have ih := ih (by omega)
    rw [uS] at hi
    split at hi
    · next q =>
      rw [bit_or2, Bool.or_eq_true, Bool.or_eq_true, decide_eq_true_eq, decide_eq_true_eq] at hi
      have hw := hS k (by omega)
      have hb : S (tF T k) = true ∧ S (tO T k) = true := by
        rcases q with q | q
        · have := ih _ q; exact ⟨this, by rw [← hw]; exact this⟩
        · have := ih _ q; exact ⟨by rw [hw]; exact this, this⟩
      rcases hi with h | h | h
      · exact ih i h
      · rw [← h]; exact hb.1
      · rw [← h]; exact hb.2
    · exact ih i hi
theorem uS_lt {T : pT} (hv : VT T) {n : Nat} (hn : n < 256) : ∀ k, k ≤ tW T → uS T n k < 256 := by
  intro k
  induction k with
  | zero => intro _; exact hn
  | succ k ih =>
    intro hk
    have h1 := ih (by omega)
    rw [uS]
    split
    · have h2 := (hv.2.2.2 k (by omega)).1
      have h3 := (hv.2.2.2 k (by omega)).2.1
      have h4 := hv.1
      exact Nat.or_lt_two_pow (n := 8) h1 (Nat.or_lt_two_pow (n := 8) (Nat.pow_lt_pow_right (by decide) (by omega)) (Nat.pow_lt_pow_right (by decide) (by omega)))
    · exact h1
theorem uS_M {T : pT} (hv : VT T) {n : Nat} (hn : ∀ i, n.testBit i = true → i < tM T) : ∀ k, k ≤ tW T → ∀ i, (uS T n k).testBit i = true → i < tM T := by
  intro k
  induction k with
  | zero => intro _; exact hn
  | succ k ih =>
    intro hk i hi
    rw [uS] at hi
    split at hi
    · rw [bit_or2, Bool.or_eq_true, Bool.or_eq_true, decide_eq_true_eq, decide_eq_true_eq] at hi
      rcases hi with h | h | h
      · exact ih (by omega) i h
      · rw [← h]; exact (hv.2.2.2 k (by omega)).1
      · rw [← h]; exact (hv.2.2.2 k (by omega)).2.1
    · exact ih (by omega) i hi
theorem uP_lt {T : pT} (hv : VT T) {n : Nat} (hn : n < 256) : ∀ p, uP T n p < 256
  | 0 => hn
  | p + 1 => uS_lt hv (uP_lt hv hn p) _ (Nat.le_refl _)
theorem uP_M {T : pT} (hv : VT T) {n : Nat} (hn : ∀ i, n.testBit i = true → i < tM T) : ∀ p i, (uP T n p).testBit i = true → i < tM T
  | 0 => hn
  | p + 1 => uS_M hv (uP_M hv hn p) _ (Nat.le_refl _)
theorem uP_sound {T : pT} {n : Nat} {S : Nat → Bool} (hS : clU T S) (hn : ∀ i, n.testBit i = true → S i = true) : ∀ p i, (uP T n p).testBit i = true → S i = true
  | 0 => hn
  | p + 1 => uS_sound hS (uP_sound hS hn p) _ (Nat.le_refl _)
theorem uP_mono {T : pT} {n i : Nat} (h : n.testBit i = true) : ∀ p, (uP T n p).testBit i = true
  | 0 => h
  | p + 1 => uS_mono T _ (tW T) 0 i (Nat.zero_le _) (uP_mono h p)
theorem cN_lt {p q : Nat → Bool} : ∀ n, (∀ i, i < n → p i = true → q i = true) → cN p n ≤ cN q n ∧ ((∃ i, i < n ∧ q i = true ∧ p i = false) → cN p n < cN q n)
  | 0, _ => ⟨Nat.le_refl _, fun ⟨i, h, _⟩ => absurd h (Nat.not_lt_zero i)⟩
  | n + 1, h => by
    obtain ⟨h1, h2⟩ := cN_lt n (fun i hi => h i (by omega))
    have h3 := h n (by omega)
    rw [cN, cN]
    constructor
    · cases e : p n
      · simp only [Bool.false_eq_true, if_false]; split <;> omega
      · rw [h3 e, if_pos rfl, if_pos rfl]; omega
    · rintro ⟨i, hi, hq, hp⟩
      by_cases e : i = n
      · subst e
        rw [hq, hp]; simp only [Bool.false_eq_true, if_false, if_true]; omega
      · have := h2 ⟨i, by omega, hq, hp⟩
        cases e : p n
        · simp only [Bool.false_eq_true, if_false]; split <;> omega
        · rw [h3 e, if_pos rfl, if_pos rfl]; omega
theorem cN_all {p : Nat → Bool} : ∀ n, n ≤ cN p n → ∀ i, i < n → p i = true
  | 0, _, i, hi => absurd hi (Nat.not_lt_zero i)
  | n + 1, h, i, hi => by
    have := cN_le p n
    rw [cN] at h
    cases e : p n
    · rw [e] at h; simp only [Bool.false_eq_true, if_false] at h; omega
    · rw [e] at h
      by_cases q : i = n
      · rw [q]; exact e
      · exact cN_all n (by simp only [if_true] at h; omega) i (by omega)
/-- a pass that adds nothing: it is closed -/
theorem uS_closed {T : pT} {n : Nat} (h : ∀ i, (uS T n (tW T)).testBit i = true → n.testBit i = true) : clU T n.testBit := by
  intro w hw
  have up : ∀ i, n.testBit i = true → (uS T n w).testBit i = true := fun i hi => uS_mono T n w 0 i (Nat.zero_le _) hi
  have dn : ∀ i, (uS T n (w + 1)).testBit i = true → n.testBit i = true := fun i hi => h i (uS_mono T n (tW T) (w + 1) i hw hi)
  cases e1 : n.testBit (tF T w) <;> cases e2 : n.testBit (tO T w)
  · rfl
  · have := dn _ (uS_step T n (Or.inr (up _ e2))).1; rw [this] at e1; cases e1
  · have := dn _ (uS_step T n (Or.inl (up _ e1))).2; rw [this] at e2; cases e2
  · rfl
theorem uS_fix {T : pT} {n : Nat} (h : clU T n.testBit) : ∀ i, (uS T n (tW T)).testBit i = n.testBit i := fun i => by
  cases e : n.testBit i
  · cases e2 : (uS T n (tW T)).testBit i
    · rfl
    · have := uS_sound h (fun i hi => hi) (tW T) (Nat.le_refl _) i e2
      rw [this] at e; cases e
  · exact uS_mono T n (tW T) 0 i (Nat.zero_le _) e
theorem uP_closed {T : pT} (hv : VT T) {n : Nat} (hn : ∀ i, n.testBit i = true → i < tM T) (h0 : ∃ i, n.testBit i = true) : clU T (uP T n (tM T - 1)).testBit := by
  have key : ∀ p, clU T (uP T n p).testBit ∨ p + 1 ≤ cN (uP T n p).testBit (tM T) := by
    intro p
    induction p with
    | zero =>
      right
      obtain ⟨i, hi⟩ := h0
      have := (cN_lt (p := fun _ => false) (q := n.testBit) (tM T) (fun _ _ h => by cases h)).2 ⟨i, hn i hi, hi, rfl⟩
      show 1 ≤ cN n.testBit (tM T)
      omega
    | succ p ih =>
      by_cases hc : ∀ i, (uS T (uP T n p) (tW T)).testBit i = true → (uP T n p).testBit i = true
      · left
        have h1 := uS_closed hc
        intro w hw
        show (uS T (uP T n p) (tW T)).testBit _ = (uS T (uP T n p) (tW T)).testBit _
        rw [uS_fix h1, uS_fix h1]; exact h1 w hw
      · right
        have hne : ∃ i, (uS T (uP T n p) (tW T)).testBit i = true ∧ (uP T n p).testBit i = false := by
          apply Classical.byContradiction
          intro hno
          refine hc (fun i hi => ?_)
          cases e : (uP T n p).testBit i
          · exact absurd ⟨i, hi, e⟩ hno
          · rfl
        obtain ⟨i, hi1, hi2⟩ := hne
        rcases ih with ih | ih
        · rw [uS_fix ih, hi2] at hi1; cases hi1
        · have := (cN_lt (p := (uP T n p).testBit) (q := (uP T n (p + 1)).testBit) (tM T) (fun j _ hj => uS_mono T _ (tW T) 0 j (Nat.zero_le _) hj)).2 ⟨i, uP_M hv hn (p + 1) i hi1, hi1, hi2⟩
          omega
  rcases key (tM T - 1) with h | h
  · exact h
  · intro w hw
    obtain ⟨h1, h2, _⟩ := hv.2.2.2 w hw
    have hall := cN_all (tM T) (by omega) (p := (uP T n (tM T - 1)).testBit)
    rw [hall _ h1, hall _ h2]
theorem uP_iff {T : pT} (hv : VT T) {m : Nat} (hm : m < tM T) (i : Nat) : (uP T (2 ^ m) (tM T - 1)).testBit i = true ↔ cn T m i := by
  have hb : ∀ i, (2 ^ m).testBit i = true → i = m := fun i hi => by rw [Nat.testBit_two_pow, decide_eq_true_eq] at hi; exact hi.symm
  have hmm : (2 ^ m).testBit m = true := by rw [Nat.testBit_two_pow]; simp
  have hcl := uP_closed hv (n := 2 ^ m) (fun i hi => by rw [hb i hi]; exact hm) ⟨m, hmm⟩
  constructor
  · intro h S hS
    cases e : S m
    · cases e2 : S i
      · rfl
      · have hS' : clU T (fun j => !(S j)) := fun w hw => by show (!(S _)) = !(S _); rw [hS w hw]
        have := uP_sound hS' (fun j hj => by rw [hb j hj]; show (!(S m)) = true; rw [e]; rfl) _ i h
        rw [e2] at this; cases this
    · exact (uP_sound hS (fun j hj => by rw [hb j hj]; exact e) _ i h).symm
  · intro h
    rw [← h _ hcl]; exact uP_mono hmm _
