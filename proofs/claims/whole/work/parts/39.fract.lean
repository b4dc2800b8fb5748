/-! the reference's fractions: pure part -/
def c8 (p : Nat → Nat) : Nat := cN (fun m => decide (p m ≠ 0)) 8
def LI (T : pT) (p ov un rt : Nat → Nat) : Prop := ∀ m, m < tM T → p m ≠ 0 → rt (p m) < tM T ∧ p (rt (p m)) = p m ∧ cn T (rt (p m)) m ∧ 0 < ov m ∧ 0 < un m ∧ ov m ≤ 6 ^ (c8 p - 1) ∧ un m ∣ 60 ^ (c8 p - 1) ∧ ∀ e, PS T e → e m * un m = ov m * e (rt (p m))
theorem c8_le (p : Nat → Nat) : c8 p ≤ 8 := cN_le _ 8
theorem dv60 {v : Nat} (h1 : 1 ≤ v) (h6 : v ≤ 6) : v ∣ 60 := by
  have : v = 1 ∨ v = 2 ∨ v = 3 ∨ v = 4 ∨ v = 5 ∨ v = 6 := by omega
  rcases this with h | h | h | h | h | h <;> subst h <;> decide
def uN (f : Nat → Nat) (k v : Nat) : Nat → Nat := fun i => if i = k then v else f i
theorem uN_at (f : Nat → Nat) (k v : Nat) : uN f k v k = v := if_pos rfl
theorem uN_ne (f : Nat → Nat) {k i : Nat} (v : Nat) (h : i ≠ k) : uN f k v i = f i := if_neg h
theorem c8_u {p : Nat → Nat} {b q : Nat} (hb : b < 8) (h0 : p b = 0) (hq : q ≠ 0) : c8 p < c8 (uN p b q) := by
  refine (cN_lt 8 (fun i hi h => ?_)).2 ⟨b, hb, by simp [uN_at, hq], by simp [h0]⟩
  by_cases e : i = b
  · subst e; simp [uN_at, hq]
  · rw [uN_ne _ _ e]; exact h
theorem c8_pos {p : Nat → Nat} {a : Nat} (ha : a < 8) (h : p a ≠ 0) : 1 ≤ c8 p :=
  (cN_lt (p := fun _ => false) 8 (fun _ _ h => by cases h)).2 ⟨a, ha, by simp [h], rfl⟩ |> fun h => Nat.lt_of_le_of_lt (Nat.zero_le _) h
theorem LI_spread {T : pT} {p ov un rt : Nat → Nat} {a b co va q : Nat} (hv : VT T) (h : LI T p ov un rt) (ha : a < tM T) (hb : b < tM T) (hpa : p a = q) (hq : q ≠ 0) (hpb : p b = 0) (hcn : cn T a b) (h1 : 1 ≤ co) (h2 : co ≤ 6) (h3 : 1 ≤ va) (h4 : va ≤ 6) (hE : ∀ e, PS T e → e a * co = e b * va) : LI T (uN p b q) (uN ov b (ov a * co / Nat.gcd (ov a * co) (un a * va))) (uN un b (un a * va / Nat.gcd (ov a * co) (un a * va))) rt := by
  have h8 := hv.1
  have hlt := c8_u (p := p) (b := b) (q := q) (by omega) hpb hq
  have hp1 := c8_pos (p := p) (a := a) (by omega) (by rw [hpa]; exact hq)
  obtain ⟨a1, a2, a3, a4, a5, a6, a7, a8⟩ := h a ha (by rw [hpa]; exact hq)
  rw [hpa] at a1 a2 a3 a8
  intro m hm hpm
  by_cases e : m = b
  · subst e
    rw [uN_at, uN_at, uN_at]
    have hx : 0 < ov a * co := Nat.mul_pos a4 h1
    have hy : 0 < un a * va := Nat.mul_pos a5 h3
    have hg := Nat.gcd_pos_of_pos_left (un a * va) hx
    have dx := Nat.gcd_dvd_left (ov a * co) (un a * va)
    have dy := Nat.gcd_dvd_right (ov a * co) (un a * va)
    have e1 := Nat.div_mul_cancel dx
    have e2 := Nat.div_mul_cancel dy
    have p6 : 6 ^ (c8 p - 1) * 6 ≤ 6 ^ (c8 (uN p m q) - 1) := by
      rw [← Nat.pow_succ]; exact Nat.pow_le_pow_right (by decide) (by omega)
    have p60 : 60 ^ (c8 p - 1) * 60 ∣ 60 ^ (c8 (uN p m q) - 1) := by
      rw [← Nat.pow_succ]; exact Nat.pow_dvd_pow 60 (by omega)
    refine ⟨a1, ?_, a3.tr hcn, Nat.div_pos (Nat.le_of_dvd hx dx) hg, Nat.div_pos (Nat.le_of_dvd hy dy) hg, ?_, ?_, fun e hPS => ?_⟩
    · by_cases e0 : rt q = m
      · rw [e0, uN_at]
      · rw [uN_ne _ _ e0]; exact a2
    · exact Nat.le_trans (Nat.div_le_self _ _) (Nat.le_trans (Nat.mul_le_mul a6 h2) p6)
    · exact Nat.dvd_trans (Nat.div_dvd_of_dvd dy) (Nat.dvd_trans (Nat.mul_dvd_mul a7 (dv60 h3 h4)) p60)
    · apply Nat.eq_of_mul_eq_mul_right hg
      have k1 := hE e hPS
      have k2 := a8 e hPS
      rw [Nat.mul_assoc, e2]
      calc e m * (un a * va) = (e m * va) * un a := by ac_rfl
        _ = (e a * co) * un a := by rw [k1]
        _ = (e a * un a) * co := by ac_rfl
        _ = (ov a * co) * e (rt q) := by rw [k2]; ac_rfl
        _ = (ov a * co / Nat.gcd (ov a * co) (un a * va) * Nat.gcd (ov a * co) (un a * va)) * e (rt q) := by rw [e1]
        _ = _ := by ac_rfl
  · rw [uN_ne _ _ e] at hpm ⊢
    obtain ⟨m1, m2, m3, m4, m5, m6, m7, m8⟩ := h m hm hpm
    rw [uN_ne _ _ e, uN_ne _ _ e]
    refine ⟨m1, ?_, m3, m4, m5, Nat.le_trans m6 (Nat.pow_le_pow_right (by decide) (by omega)), Nat.dvd_trans m7 (Nat.pow_dvd_pow 60 (by omega)), m8⟩
    by_cases e0 : rt (p m) = b
    · exfalso
      rw [e0, hpb] at m2; exact hpm m2.symm
    · rw [uN_ne _ _ e0]; exact m2
theorem LI_root {T : pT} {p ov un rt : Nat → Nat} {f q : Nat} (hv : VT T) (h : LI T p ov un rt) (hf : f < tM T) (h0 : p f = 0) (hq : q ≠ 0) (hno : ∀ m, m < tM T → p m ≠ q) : LI T (uN p f q) (uN ov f 1) (uN un f 1) (uN rt q f) := by
  have h8 := hv.1
  have hlt := c8_u (p := p) (b := f) (q := q) (by omega) h0 hq
  intro m hm hpm
  by_cases e : m = f
  · subst e
    rw [uN_at, uN_at, uN_at, uN_at, uN_at]
    exact ⟨hf, rfl, cn.rf, by decide, by decide, Nat.pow_pos (by decide), Nat.one_dvd _, fun e _ => by rw [Nat.mul_one, Nat.one_mul]⟩
  · rw [uN_ne _ _ e] at hpm ⊢
    obtain ⟨m1, m2, m3, m4, m5, m6, m7, m8⟩ := h m hm hpm
    rw [uN_ne _ _ e, uN_ne _ _ e, uN_ne rt _ (hno m hm)]
    refine ⟨m1, ?_, m3, m4, m5, Nat.le_trans m6 (Nat.pow_le_pow_right (by decide) (by omega)), Nat.dvd_trans m7 (Nat.pow_dvd_pow 60 (by omega)), m8⟩
    by_cases e0 : rt (p m) = f
    · exfalso
      rw [e0, h0] at m2; exact hpm m2.symm
    · rw [uN_ne _ _ e0]; exact m2
/-- the folds of a part -/
def alF (p un : Nat → Nat) (q : Nat) : Nat → Nat
  | 0 => 1
  | i + 1 => if p i = q then alF p un q i / Nat.gcd (alF p un q i) (un i) * un i else alF p un q i
def yF (ov un : Nat → Nat) (A m : Nat) : Nat := ov m * (A / un m)
def shF (p y : Nat → Nat) (q : Nat) : Nat → Nat
  | 0 => 0
  | i + 1 => if p i = q then Nat.gcd (y i) (shF p y q i) else shF p y q i
def dF (p ov un : Nat → Nat) (M m : Nat) : Nat := yF ov un (alF p un (p m) M) m / shF p (yF ov un (alF p un (p m) M)) (p m) M
theorem alF_ok {p un : Nat → Nat} {q N : Nat} : ∀ i, (∀ m, m < i → p m = q → un m ∣ N ∧ 0 < un m) → 0 < N → alF p un q i ∣ N ∧ 0 < alF p un q i ∧ ∀ m, m < i → p m = q → un m ∣ alF p un q i
  | 0, _, hN => ⟨Nat.one_dvd _, Nat.zero_lt_one, fun m hm => absurd hm (Nat.not_lt_zero m)⟩
  | i + 1, h, hN => by
    obtain ⟨h1, h2, h3⟩ := alF_ok i (fun m hm => h m (by omega)) hN
    rw [alF]
    by_cases e : p i = q
    · rw [if_pos e]
      obtain ⟨u1, u2⟩ := h i (by omega) e
      have eL : alF p un q i / Nat.gcd (alF p un q i) (un i) * un i = Nat.lcm (alF p un q i) (un i) := by
        unfold Nat.lcm
        rw [Nat.mul_comm (alF p un q i) (un i), Nat.mul_div_assoc _ (Nat.gcd_dvd_left _ _), Nat.mul_comm]
      rw [eL]
      refine ⟨Nat.lcm_dvd h1 u1, Nat.lcm_pos h2 u2, fun m hm hp => ?_⟩
      by_cases em : m = i
      · subst em; exact Nat.dvd_lcm_right _ _
      · exact Nat.dvd_trans (h3 m (by omega) hp) (Nat.dvd_lcm_left _ _)
    · rw [if_neg e]
      refine ⟨h1, h2, fun m hm hp => ?_⟩
      by_cases em : m = i
      · subst em; exact absurd hp e
      · exact h3 m (by omega) hp
theorem shF_ok {p y : Nat → Nat} {q : Nat} : ∀ i, (∀ m, m < i → p m = q → shF p y q i ∣ y m) ∧ ∀ z, (∀ m, m < i → p m = q → z ∣ y m) → z ∣ shF p y q i
  | 0 => ⟨fun m hm => absurd hm (Nat.not_lt_zero m), fun z _ => Nat.dvd_zero _⟩
  | i + 1 => by
    obtain ⟨h1, h2⟩ := shF_ok (p := p) (y := y) (q := q) i
    rw [shF]
    by_cases e : p i = q
    · rw [if_pos e]
      refine ⟨fun m hm hp => ?_, fun z hz => Nat.dvd_gcd (hz i (by omega) e) (h2 z (fun m hm hp => hz m (by omega) hp))⟩
      by_cases em : m = i
      · subst em; exact Nat.gcd_dvd_left _ _
      · exact Nat.dvd_trans (Nat.gcd_dvd_right _ _) (h1 m (by omega) hp)
    · rw [if_neg e]
      refine ⟨fun m hm hp => ?_, fun z hz => h2 z (fun m hm hp => hz m (by omega) hp)⟩
      by_cases em : m = i
      · subst em; exact absurd hp e
      · exact h1 m (by omega) hp
/-- all modules have a part, wires lie in parts, fractions agree: the works -/
def FA (T : pT) (p ov un rt : Nat → Nat) : Prop := LI T p ov un rt ∧ (∀ m, m < tM T → p m ≠ 0) ∧ ∀ w, w < tW T → p (tF T w) = p (tO T w)
theorem FA.li {T : pT} {p ov un rt : Nat → Nat} (h : FA T p ov un rt) : LI T p ov un rt := h.1
theorem FA.nz {T : pT} {p ov un rt : Nat → Nat} (h : FA T p ov un rt) : ∀ m, m < tM T → p m ≠ 0 := h.2.1
theorem FA.cl {T : pT} {p ov un rt : Nat → Nat} (h : FA T p ov un rt) : ∀ w, w < tW T → p (tF T w) = p (tO T w) := h.2.2
theorem FA.b {T : pT} {p ov un rt : Nat → Nat} (h : FA T p ov un rt) {m : Nat} (hm : m < tM T) : 0 < ov m ∧ 0 < un m ∧ ov m ≤ 6 ^ 7 ∧ un m ∣ 60 ^ 7 := by
  obtain ⟨m1, m2, m3, m4, m5, m6, m7, m8⟩ := h.li m hm (h.nz m hm)
  have := c8_le p
  exact ⟨m4, m5, Nat.le_trans m6 (Nat.pow_le_pow_right (by decide) (by omega)), Nat.dvd_trans m7 (Nat.pow_dvd_pow 60 (by omega))⟩
theorem FA.A {T : pT} {p ov un rt : Nat → Nat} (h : FA T p ov un rt) (q i : Nat) (hi : i ≤ tM T) : alF p un q i ∣ 60 ^ 7 ∧ 0 < alF p un q i ∧ ∀ m, m < i → p m = q → un m ∣ alF p un q i :=
  alF_ok i (fun m hm hp => ⟨(h.b (m := m) (by omega)).2.2.2, (h.b (m := m) (by omega)).2.1⟩) (Nat.pow_pos (by decide))
theorem FA.no {T : pT} {p ov un rt : Nat → Nat} (hv : VT T) (h : FA T p ov un rt) {w : Nat} (hw : w < tW T) (hn : ov (tF T w) * tC T w * un (tO T w) ≠ ov (tO T w) * tV T w * un (tF T w)) : ¬ ∃ d, DU T d := by
  rintro ⟨d, hd⟩
  obtain ⟨q1, q2, _⟩ := hv.2.2.2 w hw
  obtain ⟨a1, a2, a3, a4, a5, a6, a7, a8⟩ := h.li _ q1 (h.nz _ q1)
  obtain ⟨b1, b2, b3, b4, b5, b6, b7, b8⟩ := h.li _ q2 (h.nz _ q2)
  have ea := a8 d hd.1
  have eb := b8 d hd.1
  rw [← h.cl w hw] at eb
  have h0 := hd.1.1 _ a1
  have ew := hd.1.2 w hw
  refine hn (Nat.eq_of_mul_eq_mul_right h0 ?_)
  generalize d (rt (p (tF T w))) = z at ea eb
  calc ov (tF T w) * tC T w * un (tO T w) * z = (ov (tF T w) * z) * tC T w * un (tO T w) := by ac_rfl
    _ = (d (tF T w) * tC T w) * un (tF T w) * un (tO T w) := by rw [← ea]; ac_rfl
    _ = (d (tO T w) * un (tO T w)) * tV T w * un (tF T w) := by rw [ew]; ac_rfl
    _ = _ := by rw [eb]; ac_rfl
theorem FA.y {T : pT} {p ov un rt : Nat → Nat} (h : FA T p ov un rt) {m : Nat} (hm : m < tM T) {A : Nat} (hA : A ∣ 60 ^ 7) (h0 : 0 < A) (hd : un m ∣ A) : 0 < yF ov un A m ∧ yF ov un A m ≤ 6 ^ 7 * 60 ^ 7 := by
  obtain ⟨b1, b2, b3, b4⟩ := h.b hm
  have hle := Nat.le_of_dvd (Nat.pow_pos (by decide)) hA
  exact ⟨Nat.mul_pos b1 (Nat.div_pos (Nat.le_of_dvd h0 hd) b2), Nat.mul_le_mul b3 (Nat.le_trans (Nat.div_le_self _ _) hle)⟩
theorem FA.d {T : pT} {p ov un rt : Nat → Nat} (hv : VT T) (h : FA T p ov un rt) (hx : ∀ w, w < tW T → ov (tF T w) * tC T w * un (tO T w) = ov (tO T w) * tV T w * un (tF T w)) : PS T (dF p ov un (tM T)) ∧ ∀ e, PS T e → ∀ m, m < tM T → ∃ k, e m = k * dF p ov un (tM T) m := by
  have hs : ∀ m, m < tM T → ∃ A s, A = alF p un (p m) (tM T) ∧ s = shF p (yF ov un A) (p m) (tM T) ∧ 0 < s ∧ 0 < A ∧ (∀ j, j < tM T → p j = p m → un j ∣ A ∧ dF p ov un (tM T) j * s = yF ov un A j ∧ 0 < yF ov un A j) ∧ ∀ z, (∀ j, j < tM T → p j = p m → z ∣ yF ov un A j) → z ∣ s := by
    intro m hm
    obtain ⟨A1, A2, A3⟩ := h.A (p m) (tM T) (Nat.le_refl _)
    obtain ⟨s1, s2⟩ := shF_ok (p := p) (y := yF ov un (alF p un (p m) (tM T))) (q := p m) (tM T)
    have y0 : ∀ j, j < tM T → p j = p m → 0 < yF ov un (alF p un (p m) (tM T)) j := fun j hj e => (h.y hj A1 A2 (A3 j hj e)).1
    refine ⟨_, _, rfl, rfl, Nat.pos_of_dvd_of_pos (s1 m hm rfl) (y0 m hm rfl), A2, fun j hj e => ⟨A3 j hj e, ?_, y0 j hj e⟩, s2⟩
    unfold dF
    rw [e]
    exact Nat.div_mul_cancel (s1 j hj e)
  have wires : ∀ w, w < tW T → dF p ov un (tM T) (tF T w) * tC T w = dF p ov un (tM T) (tO T w) * tV T w := by
    intro w hw
    obtain ⟨q1, q2, _⟩ := hv.2.2.2 w hw
    obtain ⟨A, s, hA, hS, s0, A0, hj, _⟩ := hs _ q1
    obtain ⟨d1, e1, _⟩ := hj _ q1 rfl
    obtain ⟨d2, e2, _⟩ := hj _ q2 (h.cl w hw).symm
    obtain ⟨_, u1, _⟩ := h.b q1
    obtain ⟨_, u2, _⟩ := h.b q2
    have f1 := Nat.div_mul_cancel d1
    have f2 := Nat.div_mul_cancel d2
    unfold yF at e1 e2
    clear hA hS
    generalize A / un (tF T w) = g1 at *
    generalize A / un (tO T w) = g2 at *
    apply Nat.eq_of_mul_eq_mul_right s0
    apply Nat.eq_of_mul_eq_mul_right u1
    apply Nat.eq_of_mul_eq_mul_right u2
    calc dF p ov un (tM T) (tF T w) * tC T w * s * un (tF T w) * un (tO T w) = (dF p ov un (tM T) (tF T w) * s) * tC T w * un (tF T w) * un (tO T w) := by ac_rfl
      _ = (g1 * un (tF T w)) * (ov (tF T w) * tC T w * un (tO T w)) := by rw [e1]; ac_rfl
      _ = (g2 * un (tO T w)) * (ov (tO T w) * tV T w * un (tF T w)) := by rw [f1, f2, hx w hw]
      _ = (ov (tO T w) * g2) * tV T w * un (tF T w) * un (tO T w) := by ac_rfl
      _ = _ := by rw [← e2]; ac_rfl
  refine ⟨⟨fun m hm => ?_, wires⟩, fun e hE m hm => ?_⟩
  · obtain ⟨A, s, rfl, rfl, s0, A0, hj, _⟩ := hs _ hm
    obtain ⟨_, e1, e2⟩ := hj m hm rfl
    rw [← e1] at e2
    exact Nat.pos_of_mul_pos_right e2
  · obtain ⟨A, s, hA, hS, s0, A0, hj, hz⟩ := hs _ hm
    have key : ∀ j, j < tM T → p j = p m → e m * dF p ov un (tM T) j = dF p ov un (tM T) m * e j := by
      intro j hjm ej
      obtain ⟨d1, e1, y1⟩ := hj m hm rfl
      obtain ⟨d2, e2, y2⟩ := hj j hjm ej
      have k1 := (h.li m hm (h.nz m hm)).2.2.2.2.2.2.2 e hE
      have k2 := (h.li j hjm (h.nz j hjm)).2.2.2.2.2.2.2 e hE
      have r0 := hE.1 _ (h.li m hm (h.nz m hm)).1
      rw [ej] at k2
      have f1 := Nat.div_mul_cancel d1
      have f2 := Nat.div_mul_cancel d2
      unfold yF at e1 e2
      generalize e (rt (p m)) = z at *
      generalize A / un m = g1 at *
      generalize A / un j = g2 at *
      apply Nat.eq_of_mul_eq_mul_right s0
      apply Nat.eq_of_mul_eq_mul_right A0
      calc e m * dF p ov un (tM T) j * s * A = e m * (dF p ov un (tM T) j * s) * (g1 * un m) := by rw [f1]; ac_rfl
        _ = (e m * un m) * (ov j * g2) * g1 := by rw [e2]; ac_rfl
        _ = (ov m * g1) * (ov j * z) * g2 := by rw [k1]; ac_rfl
        _ = (dF p ov un (tM T) m * s) * e j * (g2 * un j) := by rw [e1, ← k2]; ac_rfl
        _ = _ := by rw [f2]; ac_rfl
    obtain ⟨g, hg⟩ : ∃ g, g = Nat.gcd (dF p ov un (tM T) m) (e m) := ⟨_, rfl⟩
    have dpos : 0 < dF p ov un (tM T) m := by
      obtain ⟨_, e1, e2⟩ := hj m hm rfl
      rw [← e1] at e2
      exact Nat.pos_of_mul_pos_right e2
    have gpos : 0 < g := by rw [hg]; exact Nat.gcd_pos_of_pos_left _ dpos
    obtain ⟨u, hu⟩ : g ∣ dF p ov un (tM T) m := by rw [hg]; exact Nat.gcd_dvd_left _ _
    obtain ⟨v, hv'⟩ : g ∣ e m := by rw [hg]; exact Nat.gcd_dvd_right _ _
    have hco : Nat.gcd u v = 1 := by
      have : g * Nat.gcd u v = g * 1 := by rw [← Nat.gcd_mul_left, ← hu, ← hv', ← hg, Nat.mul_one]
      exact Nat.eq_of_mul_eq_mul_left gpos this
    have hus : u * s ∣ s := hz _ (fun j hjm ej => by
      obtain ⟨_, e1, _⟩ := hj j hjm ej
      have k := key j hjm ej
      rw [hu, hv'] at k
      have k' : v * dF p ov un (tM T) j = u * e j := Nat.eq_of_mul_eq_mul_left gpos (by rw [← Nat.mul_assoc, k, Nat.mul_assoc])
      have hd : u ∣ dF p ov un (tM T) j := Nat.Coprime.dvd_of_dvd_mul_left hco ⟨e j, k'⟩
      rw [← e1]
      exact Nat.mul_dvd_mul_right hd s)
    have hu1 : u = 1 := by
      have := Nat.le_of_dvd s0 hus
      have h0 : u ≠ 0 := fun z => by rw [z, Nat.mul_zero] at hu; omega
      have : u * s ≤ 1 * s := by rw [Nat.one_mul]; exact this
      have := Nat.le_of_mul_le_mul_right this s0
      omega
    refine ⟨v, ?_⟩
    rw [hu, hv', hu1, Nat.mul_one, Nat.mul_comm]
theorem FA.agree {T : pT} {p ov un rt : Nat → Nat} (hv : VT T) (h : FA T p ov un rt) (hx : ∀ w, w < tW T → ov (tF T w) * tC T w * un (tO T w) = ov (tO T w) * tV T w * un (tF T w)) : ((∃ d, DU T d) ↔ ∀ m, m < tM T → dF p ov un (tM T) m ≤ 60) ∧ ∀ d, DU T d → ∀ m, m < tM T → dF p ov un (tM T) m = d m := by
  obtain ⟨h1, h2⟩ := h.d hv hx
  have same : ∀ d, DU T d → ∀ m, m < tM T → dF p ov un (tM T) m = d m := fun d hd m hm => by
    obtain ⟨k, hk⟩ := hd.2.1 _ h1 m hm
    obtain ⟨k', hk'⟩ := h2 d hd.1 m hm
    exact Nat.dvd_antisymm ⟨k', by rw [hk', Nat.mul_comm]⟩ ⟨k, by rw [hk, Nat.mul_comm]⟩
  refine ⟨⟨fun ⟨d, hd⟩ m hm => by rw [same d hd m hm]; exact hd.2.2 m hm, fun hle => ⟨_, h1, h2, hle⟩⟩, same⟩
