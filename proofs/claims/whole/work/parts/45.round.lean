/-! a round: plan, how often each has worked, where the search begins, the most marks -/
abbrev qS : Type := pT × (Nat → Nat) × Nat × (Nat → Nat)
def qC (D : Nat → Nat) (s : qS) (m : Nat) : Bool := decide (s.2.1 m < D m) && canB s.1 m
def qI (r : Nat) (s : qS) (k : Nat) : Nat := if r = 2 then (s.2.2.1 + k) % tM s.1 else k
def qB (D : Nat → Nat) (r : Nat) (s : qS) : Nat → Option Nat
  | 0 => none
  | k + 1 => if qC D s (qI r s k) = true ∧ (∀ b, qB D r s k = some b → r = 1 ∧ gI s.1 (qI r s k) < gI s.1 b) then some (qI r s k) else qB D r s k
def qN (D : Nat → Nat) (r : Nat) (s : qS) : Option Nat := qB D r s (tM s.1)
def qW (s : qS) (m : Nat) : qS := (oWork s.1 m, uN s.2.1 m (s.2.1 m + 1), m + 1, fun w => if s.2.2.2 w < tH (oWork s.1 m) w then tH (oWork s.1 m) w else s.2.2.2 w)
def qT (D : Nat → Nat) (r : Nat) (s : qS) : Nat → qS
  | 0 => s
  | t + 1 => match qN D r (qT D r s t) with
    | none => qT D r s t
    | some m => qW (qT D r s t) m
def q0 (T : pT) : qS := (T, fun _ => 0, 0, tH T)
def oI : Option Nat → Int32
  | none => -1
  | some m => nI m
theorem qI_lt {r k : Nat} {s : qS} (hk : k < tM s.1) : qI r s k < tM s.1 := by
  unfold qI; split
  · exact Nat.mod_lt _ (by omega)
  · exact hk
theorem qB_some {D : Nat → Nat} {r : Nat} {s : qS} : ∀ k, k ≤ tM s.1 → ∀ b, qB D r s k = some b → b < tM s.1 ∧ qC D s b = true
  | 0, _, b, h => by cases h
  | k + 1, hk, b, h => by
    rw [qB] at h
    split at h
    · next e => cases h; exact ⟨qI_lt (by omega), e.1⟩
    · exact qB_some k (by omega) b h
theorem qB_stay {D : Nat → Nat} {r : Nat} {s : qS} (hr : r ≠ 1) {b : Nat} : ∀ j k, qB D r s k = some b → qB D r s (k + j) = some b
  | 0, k, h => h
  | j + 1, k, h => by
    have := qB_stay hr j k h
    rw [show k + (j + 1) = (k + j) + 1 by omega, qB, if_neg (fun z => hr (z.2 b this).1)]; exact this
def QI (T : pT) (D : Nat → Nat) (s : qS) (t : Nat) : Prop := VT s.1 ∧ tM s.1 = tM T ∧ tW s.1 = tW T ∧ (∀ m, m < tM T → s.2.1 m ≤ D m) ∧ sN s.2.1 (tM T) = t ∧ s.2.2.1 ≤ tM T ∧ (∀ w, w < tW T → s.2.2.2 w ≤ 999) ∧ (t = 0 → s.2.2.1 = 0) ∧ (0 < t → 0 < s.2.2.1)
theorem sN_u {f : Nat → Nat} {m : Nat} : ∀ n, (n ≤ m → sN (uN f m (f m + 1)) n = sN f n) ∧ (m < n → sN (uN f m (f m + 1)) n = sN f n + 1)
  | 0 => ⟨fun _ => rfl, fun h => absurd h (Nat.not_lt_zero m)⟩
  | n + 1 => by
    obtain ⟨h1, h2⟩ := sN_u (f := f) (m := m) n
    rw [sN, sN]
    constructor
    · intro h; rw [h1 (by omega), uN_ne _ _ (show n ≠ m by omega)]
    · intro h
      by_cases e : n = m
      · subst e; rw [h1 (by omega), uN_at]; omega
      · rw [h2 (by omega), uN_ne _ _ e]; omega
theorem QI_0 {T : pT} {D : Nat → Nat} (hv : VT T) : QI T D (q0 T) 0 := by
  have hz : ∀ n, sN (fun _ => 0) n = 0 := fun n => by
    induction n with
    | zero => rfl
    | succ n ih => rw [sN, ih]
  exact ⟨hv, rfl, rfl, fun _ _ => Nat.zero_le _, hz _, Nat.zero_le _, fun w hw => (hv.2.2.2 w hw).2.2.2.2.2.2, fun _ => rfl, fun h => absurd h (Nat.lt_irrefl 0)⟩
theorem QI_n {T : pT} {D : Nat → Nat} {s : qS} {t r m : Nat} (h : QI T D s t) (hn : qN D r s = some m) : m < tM T ∧ canW s.1 m ∧ QI T D (qW s m) (t + 1) ∧ s.2.1 m < D m := by
  obtain ⟨h1, h2, h3, h4, h5, h6, h7, h8, h9⟩ := h
  obtain ⟨a1, a2⟩ := qB_some (tM s.1) (Nat.le_refl _) m hn
  unfold qC at a2
  rw [Bool.and_eq_true, decide_eq_true_eq] at a2
  have hc := (canB_iff s.1 m).mp a2.2
  rw [h2] at a1
  refine ⟨a1, hc, ⟨VT_work h1 hc, h2, h3, fun j hj => ?_, ?_, a1, fun w hw => ?_, fun z => by omega, fun _ => Nat.succ_pos m⟩, a2.1⟩
  · show uN s.2.1 m (s.2.1 m + 1) j ≤ D j
    by_cases e : j = m
    · subst e; rw [uN_at]; exact a2.1
    · rw [uN_ne _ _ e]; exact h4 j hj
  · show sN (uN s.2.1 m (s.2.1 m + 1)) (tM T) = t + 1
    rw [(sN_u (tM T)).2 a1, h5]
  · show (if s.2.2.2 w < tH (oWork s.1 m) w then tH (oWork s.1 m) w else s.2.2.2 w) ≤ 999
    have := ((VT_work h1 hc).2.2.2 w (by show w < tW s.1; omega)).2.2.2.2.2.2
    have := h7 w hw
    split <;> omega
theorem sN_le2 {f g : Nat → Nat} : ∀ n, (∀ i, i < n → f i ≤ g i) → sN f n ≤ sN g n
  | 0, _ => Nat.le_refl _
  | n + 1, h => by
    have h1 := sN_le2 n (fun i hi => h i (by omega))
    have h2 := h n (by omega)
    rw [sN, sN]; omega
theorem sN_eq2 {f g : Nat → Nat} : ∀ n, (∀ i, i < n → f i ≤ g i) → (sN f n = sN g n ↔ ∀ i, i < n → f i = g i)
  | 0, _ => ⟨fun _ i hi => absurd hi (Nat.not_lt_zero i), fun _ => rfl⟩
  | n + 1, h => by
    have h0 := sN_le2 n (fun i hi => h i (by omega))
    have h1 := sN_eq2 n (fun i hi => h i (by omega))
    have h2 := h n (by omega)
    rw [sN, sN]
    constructor
    · intro e i hi
      by_cases z : i = n
      · subst z; omega
      · exact h1.mp (by omega) i (by omega)
    · intro e
      have := h1.mpr (fun i hi => e i (by omega))
      have := e n (by omega)
      omega
theorem QI_le {T : pT} {D : Nat → Nat} {s : qS} {t : Nat} (h : QI T D s t) : t ≤ sN D (tM T) := by
  rw [← h.2.2.2.2.1]; exact sN_le2 _ h.2.2.2.1
theorem qT_s {D : Nat → Nat} {r t m : Nat} {s : qS} (h : qN D r (qT D r s t) = some m) : qT D r s (t + 1) = qW (qT D r s t) m := by
  rw [qT, h]
/-- the length of a round -/
def qL (T : pT) (D : Nat → Nat) (r L : Nat) : Prop := qN D r (qT D r (q0 T) L) = none ∧ ∀ t, t < L → qN D r (qT D r (q0 T) t) ≠ none
theorem qL.one {T : pT} {D : Nat → Nat} {r L L' : Nat} (h : qL T D r L) (h' : qL T D r L') : L = L' := by
  rcases Nat.lt_trichotomy L L' with q | q | q
  · exact absurd h.1 (h'.2 L q)
  · exact q
  · exact absurd h'.1 (h.2 L' q)
theorem qL_QI {T : pT} {D : Nat → Nat} {r : Nat} (hv : VT T) : ∀ t, (∀ j, j < t → qN D r (qT D r (q0 T) j) ≠ none) → QI T D (qT D r (q0 T) t) t
  | 0, _ => QI_0 hv
  | t + 1, h => by
    have h1 := qL_QI hv t (fun j hj => h j (by omega))
    cases e : qN D r (qT D r (q0 T) t) with
    | none => exact absurd e (h t (by omega))
    | some m => rw [qT_s e]; exact (QI_n h1 e).2.2.1
theorem qL_ex {T : pT} {D : Nat → Nat} {r : Nat} (hv : VT T) : ∃ L, qL T D r L := by
  have key : ∀ n t, n + t = sN D (tM T) + 1 → (∀ j, j < t → qN D r (qT D r (q0 T) j) ≠ none) → ∃ L, qL T D r L := by
    intro n
    induction n with
    | zero =>
      intro t ht h
      have := QI_le (qL_QI hv t h)
      omega
    | succ n ih =>
      intro t ht h
      cases e : qN D r (qT D r (q0 T) t) with
      | none => exact ⟨t, e, h⟩
      | some m =>
        refine ih (t + 1) (by omega) (fun j hj => ?_)
        by_cases z : j = t
        · subst z; rw [e]; exact fun y => by cases y
        · exact h j (by omega)
  exact key (sN D (tM T) + 1) 0 (by omega) (fun j hj => absurd hj (Nat.not_lt_zero j))
/-- the works, the length, the end of a round, as numbers of the plan alone -/
noncomputable def rD (T : pT) : Nat → Nat := @dite _ (∃ d, DU T d) (Classical.propDecidable _) (fun h => Classical.choose h) (fun _ _ => 0)
theorem rD_ok {T : pT} (h : agB T = true) : DU T (rD T) := by
  have h' := agB_t.mp h
  unfold rD
  rw [dif_pos h']
  exact Classical.choose_spec h'
noncomputable def rL (T : pT) (r : Nat) : Nat := @dite _ (∃ L, qL T (rD T) r L) (Classical.propDecidable _) (fun h => Classical.choose h) (fun _ => 0)
theorem rL_ok {T : pT} (r : Nat) (hv : VT T) : qL T (rD T) r (rL T r) := by
  have h := qL_ex (D := rD T) (r := r) hv
  unfold rL
  rw [dif_pos h]
  exact Classical.choose_spec h
noncomputable def rQ (T : pT) (r t : Nat) : qS := qT (rD T) r (q0 T) t
noncomputable def rE (T : pT) (r : Nat) : qS := rQ T r (rL T r)
noncomputable def rC (T : pT) (r : Nat) : Bool := agB T && decide (rL T r = sN (rD T) (tM T))
theorem rQ_I {T : pT} {r t : Nat} (hv : VT T) (ht : t ≤ rL T r) : QI T (rD T) (rQ T r t) t := qL_QI hv t (fun j hj => (rL_ok r hv).2 j (by omega))
theorem rE_I {T : pT} {r : Nat} (hv : VT T) : QI T (rD T) (rE T r) (rL T r) := rQ_I hv (Nat.le_refl _)
theorem rL_480 {T : pT} {r : Nat} (hv : VT T) (ha : agB T = true) : rL T r ≤ 480 ∧ sN (rD T) (tM T) ≤ 480 := by
  have h1 := QI_le (rE_I (r := r) hv)
  have h2 := sN_le (tM T) (rD_ok ha).2.2
  have h3 := hv.1
  have h4 : tM T * 60 ≤ 8 * 60 := Nat.mul_le_mul_right 60 h3
  omega
