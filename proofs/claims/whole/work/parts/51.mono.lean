/-! more marks on one wire only help a round by the first rule -/
theorem PS_put {T : pT} {w n : Nat} {e : Nat → Nat} : PS (oPut T w n) e ↔ PS T e := Iff.rfl
theorem agB_put (T : pT) (w n : Nat) : agB (oPut T w n) = agB T := rfl
theorem rD_put (T : pT) (w n : Nat) : rD (oPut T w n) = rD T := rfl
/-- marks by counts of works -/
def HC (T : pT) (s : qS) : Prop := ∀ k, k < tW T → (tH s.1 k : Int) = tH T k + tC T k * s.2.1 (tF T k) - tV T k * s.2.1 (tO T k)
def SR0 (T : pT) (s : qS) : Prop := tF s.1 = tF T ∧ tO s.1 = tO T ∧ tC s.1 = tC T ∧ tV s.1 = tV T ∧ tW s.1 = tW T ∧ tM s.1 = tM T
theorem HC_W {T : pT} {s : qS} {m : Nat} (h : HC T s) (hs : SR0 T s) (hc : canW s.1 m) : HC T (qW s m) ∧ SR0 T (qW s m) := by
  obtain ⟨s1, s2, s3, s4, s5, s6⟩ := hs
  refine ⟨fun k hk => ?_, s1, s2, s3, s4, s5, s6⟩
  have hk' := h k hk
  obtain ⟨c1, c2⟩ := hc k (by rw [s5]; exact hk)
  show ((bh s.1 m k : Nat) : Int) = tH T k + tC T k * (uN s.2.1 m (s.2.1 m + 1) (tF T k) : Nat) - tV T k * (uN s.2.1 m (s.2.1 m + 1) (tO T k) : Nat)
  unfold bh
  rw [s2] at c1
  rw [s4] at c1
  rw [s1, s2, s3, s4]
  have e1 : (uN s.2.1 m (s.2.1 m + 1) (tF T k) : Nat) = s.2.1 (tF T k) + (if tF T k = m then 1 else 0) := by
    by_cases e : tF T k = m
    · rw [if_pos e, e, uN_at]
    · rw [if_neg e, uN_ne _ _ e, Nat.add_zero]
  have e2 : (uN s.2.1 m (s.2.1 m + 1) (tO T k) : Nat) = s.2.1 (tO T k) + (if tO T k = m then 1 else 0) := by
    by_cases e : tO T k = m
    · rw [if_pos e, e, uN_at]
    · rw [if_neg e, uN_ne _ _ e, Nat.add_zero]
  rw [e1, e2]
  have p1 : (tC T k : Int) * ((s.2.1 (tF T k) + (if tF T k = m then 1 else 0) : Nat) : Int) = tC T k * s.2.1 (tF T k) + (if tF T k = m then (tC T k : Int) else 0) := by
    split
    · rw [Int.natCast_add, Int.mul_add]; simp
    · simp
  have p2 : (tV T k : Int) * ((s.2.1 (tO T k) + (if tO T k = m then 1 else 0) : Nat) : Int) = tV T k * s.2.1 (tO T k) + (if tO T k = m then (tV T k : Int) else 0) := by
    split
    · rw [Int.natCast_add, Int.mul_add]; simp
    · simp
  rw [p1, p2]
  generalize (tC T k : Int) * (s.2.1 (tF T k) : Int) = A at *
  generalize (tV T k : Int) * (s.2.1 (tO T k) : Int) = B at *
  by_cases q1 : tO T k = m <;> by_cases q2 : tF T k = m
  · have := c1 q1
    rw [if_pos q1, if_pos q2, if_pos q1, if_pos q2]; omega
  · have := c1 q1
    rw [if_pos q1, if_neg q2, if_pos q1, if_neg q2]; omega
  · rw [if_neg q1, if_pos q2, if_neg q1, if_pos q2]; omega
  · rw [if_neg q1, if_neg q2, if_neg q1, if_neg q2]; omega
theorem HC_Q {T : pT} {r : Nat} (hv : VT T) : ∀ t, t ≤ rL T r → HC T (rQ T r t) ∧ SR0 T (rQ T r t)
  | 0, _ => ⟨fun k hk => by
      show (tH T k : Int) = tH T k + tC T k * ((0 : Nat) : Int) - tV T k * ((0 : Nat) : Int)
      simp, rfl, rfl, rfl, rfl, rfl, rfl⟩
  | t + 1, h => by
    obtain ⟨h1, h2⟩ := HC_Q (r := r) hv t (by omega)
    have hk := rK_ok (T := T) (r := r) (j := t) hv (by omega)
    obtain ⟨n1, n2, n3, n4⟩ := QI_n (rQ_I (T := T) (r := r) (t := t) hv (by omega)) hk
    rw [show rQ T r (t + 1) = qW (rQ T r t) (rK T r t) from qT_s hk]
    exact HC_W h1 h2 n2
theorem qB_none {D : Nat → Nat} {s : qS} : ∀ k, qB D 0 s k = none → ∀ j, j < k → qC D s j = false
  | 0, _, j, hj => absurd hj (Nat.not_lt_zero j)
  | k + 1, h, j, hj => by
    rw [qB] at h
    split at h
    · cases h
    · next hn =>
      have hi : qI 0 s k = k := by unfold qI; rw [if_neg (by decide)]
      by_cases e : j = k
      · subst e
        cases q : qC D s j
        · rfl
        · exact absurd ⟨by rw [hi]; exact q, fun b hb => by rw [h] at hb; cases hb⟩ hn
      · exact qB_none k h j (by omega)
theorem rC_mono {T : pT} {w n n' : Nat} (hv : VT T) (hn : n ≤ n') (hn' : n' ≤ 99) (hC : rC (oPut T w n) 0 = true) : rC (oPut T w n') 0 = true := by
  have v1 : VT (oPut T w n) := VT_put hv (by omega)
  have v2 : VT (oPut T w n') := VT_put hv hn'
  unfold rC at hC ⊢
  rw [Bool.and_eq_true, decide_eq_true_eq] at hC ⊢
  obtain ⟨ha, hL⟩ := hC
  refine ⟨ha, ?_⟩
  have hDU : DU T (rD T) := rD_ok (T := T) ha
  have I1 : ∀ t, t ≤ rL (oPut T w n) 0 → QI (oPut T w n) (rD T) (rQ (oPut T w n) 0 t) t := fun t ht => rQ_I (r := 0) v1 ht
  have I2 : QI (oPut T w n') (rD T) (rE (oPut T w n') 0) (rL (oPut T w n') 0) := rE_I v2
  have key := (sN_eq2 (tM T) I2.2.2.2.1).mpr
  have e5 : sN (rE (oPut T w n') 0).2.1 (tM T) = rL (oPut T w n') 0 := I2.2.2.2.2.1
  rw [e5] at key
  refine key ?_
  apply Classical.byContradiction
  intro hno
  -- some step of the first round goes beyond what the second one did
  have hex : ∃ t, t ≤ rL (oPut T w n) 0 ∧ ¬ ∀ m, m < tM T → (rQ (oPut T w n) 0 t).2.1 m ≤ (rE (oPut T w n') 0).2.1 m := by
    refine ⟨rL (oPut T w n) 0, Nat.le_refl _, fun hall => hno (fun m hm => ?_)⟩
    have h1 := I1 _ (Nat.le_refl _)
    have h2 := (sN_eq2 (tM T) h1.2.2.2.1).mp (by
      have h5 : sN (rQ (oPut T w n) 0 (rL (oPut T w n) 0)).2.1 (tM T) = rL (oPut T w n) 0 := h1.2.2.2.2.1
      rw [h5]; exact hL) m hm
    have h3 := hall m hm
    have h4 := I2.2.2.2.1 m hm
    omega
  obtain ⟨t0, ⟨ht0, hb0⟩, hmin⟩ := pk_least _ hex
  have hpos : 0 < t0 := Nat.pos_of_ne_zero (fun z => hb0 (fun m hm => by rw [z]; exact Nat.zero_le _))
  obtain ⟨t, rfl⟩ : ∃ t, t0 = t + 1 := ⟨t0 - 1, by omega⟩
  have hle : ∀ m, m < tM T → (rQ (oPut T w n) 0 t).2.1 m ≤ (rE (oPut T w n') 0).2.1 m := by
    apply Classical.byContradiction
    intro z
    exact hmin t (by omega) ⟨by omega, z⟩
  have hk := rK_ok (T := oPut T w n) (r := 0) (j := t) v1 (by omega)
  have hI := I1 t (by omega)
  obtain ⟨n1, n2, n3, n4⟩ := QI_n hI hk
  have hnx : rQ (oPut T w n) 0 (t + 1) = qW (rQ (oPut T w n) 0 t) (rK (oPut T w n) 0 t) := qT_s hk
  rw [hnx] at hb0
  have na : rK (oPut T w n) 0 t < tM T := n1
  have hHC1 := HC_Q (r := 0) v1 t (by omega)
  have hHC2 := HC_Q (r := 0) v2 (rL (oPut T w n') 0) (Nat.le_refl _)
  have n4' : (rQ (oPut T w n) 0 t).2.1 (rK (oPut T w n) 0 t) < rD T (rK (oPut T w n) 0 t) := n4
  have hnone := qB_none _ (rL_ok 0 v2).1
  have IE := I2.2.1
  have VE := I2.1
  change HC (oPut T w n') (rE (oPut T w n') 0) ∧ SR0 (oPut T w n') (rE (oPut T w n') 0) at hHC2
  change ∀ j, j < tM (rE (oPut T w n') 0).1 → qC (rD T) (rE (oPut T w n') 0) j = false at hnone
  generalize rK (oPut T w n) 0 t = a at *
  generalize rQ (oPut T w n) 0 t = s at *
  generalize rE (oPut T w n') 0 = e at *
  have heq : s.2.1 a = e.2.1 a := by
    apply Classical.byContradiction
    intro z
    refine hb0 (fun m hm => ?_)
    show uN s.2.1 a (s.2.1 a + 1) m ≤ e.2.1 m
    by_cases y : m = a
    · subst y; rw [uN_at]; have := hle m hm; omega
    · rw [uN_ne _ _ y]; exact hle m hm
  have hcan : canW e.1 a := by
    intro k hk'
    obtain ⟨⟨h1, g1, g2, g3, g4, g5, g6⟩, ⟨h2, f1, f2, f3, f4, f5, f6⟩⟩ := And.intro hHC1 hHC2
    have hk : k < tW T := by rw [f5] at hk'; exact hk'
    obtain ⟨q1, q2, q3, q4, q5, q6, q7⟩ := hv.2.2.2 k hk
    have x1 := h1 k hk
    have x2 := h2 k hk
    change (tH s.1 k : Int) = ((if k = w then n else tH T k : Nat) : Int) + tC T k * s.2.1 (tF T k) - tV T k * s.2.1 (tO T k) at x1
    change (tH e.1 k : Int) = ((if k = w then n' else tH T k : Nat) : Int) + tC T k * e.2.1 (tF T k) - tV T k * e.2.1 (tO T k) at x2
    obtain ⟨y1, y2⟩ := n2 k (by rw [g5]; exact hk)
    have eO : tO s.1 = tO T := g2
    have eF : tF s.1 = tF T := g1
    have eC : tC s.1 = tC T := g3
    have eV : tV s.1 = tV T := g4
    have eO' : tO e.1 = tO T := f2
    have eF' : tF e.1 = tF T := f1
    have eC' : tC e.1 = tC T := f3
    have eV' : tV e.1 = tV T := f4
    unfold bh at y2 ⊢
    rw [eO, eV] at y1
    rw [eO, eV, eF, eC] at y2
    rw [eO', eV', eF', eC']
    have hH := (VE.2.2.2 k hk').2.2.2.2.2.2
    have hf := hle _ q1
    have ho := hle _ q2
    have m1 : tC T k * s.2.1 (tF T k) ≤ tC T k * e.2.1 (tF T k) := Nat.mul_le_mul_left _ hf
    have m2 : tV T k * s.2.1 (tO T k) ≤ tV T k * e.2.1 (tO T k) := Nat.mul_le_mul_left _ ho
    have w1 : (if k = w then n else tH T k) ≤ (if k = w then n' else tH T k) := by split <;> omega
    have cast1 : (tC T k : Int) * (s.2.1 (tF T k) : Int) = ((tC T k * s.2.1 (tF T k) : Nat) : Int) := by simp
    have cast2 : (tV T k : Int) * (s.2.1 (tO T k) : Int) = ((tV T k * s.2.1 (tO T k) : Nat) : Int) := by simp
    have cast3 : (tC T k : Int) * (e.2.1 (tF T k) : Int) = ((tC T k * e.2.1 (tF T k) : Nat) : Int) := by simp
    have cast4 : (tV T k : Int) * (e.2.1 (tO T k) : Int) = ((tV T k * e.2.1 (tO T k) : Nat) : Int) := by simp
    rw [cast1, cast2] at x1
    rw [cast3, cast4] at x2
    have sameO : tO T k = a → tV T k * s.2.1 (tO T k) = tV T k * e.2.1 (tO T k) := fun z => by rw [z, heq]
    have sameF : tF T k = a → tC T k * s.2.1 (tF T k) = tC T k * e.2.1 (tF T k) := fun z => by rw [z, heq]
    have bound : tF T k = a → tC T k * e.2.1 (tF T k) + tC T k ≤ 6 * 60 := fun z => by
      have : tC T k * e.2.1 (tF T k) + tC T k = tC T k * (e.2.1 (tF T k) + 1) := by rw [Nat.mul_add, Nat.mul_one]
      rw [this]
      have h60 := hDU.2.2 a na
      exact Nat.mul_le_mul q4 (by rw [z]; omega)
    generalize tC T k * s.2.1 (tF T k) = A at *
    generalize tV T k * s.2.1 (tO T k) = B at *
    generalize tC T k * e.2.1 (tF T k) = A' at *
    generalize tV T k * e.2.1 (tO T k) = B' at *
    refine ⟨fun z => ?_, ?_⟩
    · have := y1 z
      have := sameO z
      omega
    · by_cases zf : tF T k = a
      · have b1 := bound zf
        have b2 := sameF zf
        rw [if_pos zf] at y2 ⊢
        by_cases zw : k = w
        · rw [if_pos zw] at x2
          split <;> omega
        · rw [if_neg zw] at x1 x2
          by_cases zo : tO T k = a
          · have := sameO zo
            have := y1 zo
            rw [if_pos zo] at y2 ⊢
            omega
          · rw [if_neg zo] at y2 ⊢
            omega
      · rw [if_neg zf]; omega
  have hc : qC (rD T) e a = true := by
    unfold qC
    rw [Bool.and_eq_true, decide_eq_true_eq]
    exact ⟨by omega, (canB_iff _ _).mpr hcan⟩
  have := hnone a (by rw [IE]; exact na)
  rw [hc] at this; cases this
/-- the fewest marks with which a round is complete -/
theorem fw_ex (T : pT) (w : Nat) : ∃ r : Int32, (∃ n, n ≤ 99 ∧ rC (oPut T w n) 0 = true ∧ (∀ j, j < n → rC (oPut T w j) 0 = false) ∧ r = nI n) ∨ ((∀ n, n ≤ 99 → rC (oPut T w n) 0 = false) ∧ r = -1) := by
  by_cases h : ∃ n, n ≤ 99 ∧ rC (oPut T w n) 0 = true
  · obtain ⟨n, ⟨h1, h2⟩, h3⟩ := pk_least _ h
    refine ⟨nI n, Or.inl ⟨n, h1, h2, fun j hj => ?_, rfl⟩⟩
    cases q : rC (oPut T w j) 0
    · rfl
    · exact absurd ⟨by omega, q⟩ (h3 j hj)
  · refine ⟨-1, Or.inr ⟨fun n hn => ?_, rfl⟩⟩
    cases q : rC (oPut T w n) 0
    · rfl
    · exact absurd ⟨n, hn, q⟩ h
noncomputable def fwI (T : pT) (w : Nat) : Int32 := Classical.choose (fw_ex T w)
theorem fwI_n {T : pT} {w n : Nat} (hn : n ≤ 99) (h1 : rC (oPut T w n) 0 = true) (h2 : ∀ j, j < n → rC (oPut T w j) 0 = false) : fwI T w = nI n := by
  rcases Classical.choose_spec (fw_ex T w) with ⟨k, a1, a2, a3, a4⟩ | ⟨a1, a2⟩
  · have : k = n := by
      rcases Nat.lt_trichotomy k n with q | q | q
      · have := h2 k q; rw [a2] at this; cases this
      · exact q
      · have := a3 n q; rw [h1] at this; cases this
    rw [← this]; exact a4
  · have := a1 n hn; rw [h1] at this; cases this
theorem fwI_no {T : pT} {w : Nat} (h : ∀ n, n ≤ 99 → rC (oPut T w n) 0 = false) : fwI T w = -1 := by
  rcases Classical.choose_spec (fw_ex T w) with ⟨k, a1, a2, a3, a4⟩ | ⟨a1, a2⟩
  · have := h k a1; rw [a2] at this; cases this
  · exact a2
