/-! the fewest marks between modules -/
def IsB (T : pT) (a c : Nat) (r : Int32) : Prop := (∃ d, d < FAR ∧ (∃ l, l ≠ [] ∧ wl T 999 a l c ∧ wsum T l = d) ∧ (∀ l, l ≠ [] → wl T 999 a l c → d ≤ wsum T l) ∧ r = nI d) ∨ (¬ Rp T 999 a c ∧ r = -1)
theorem IsB.one {T : pT} {a c : Nat} {r r' : Int32} (h : IsB T a c r) (h' : IsB T a c r') : r = r' := by
  rcases h with ⟨d, hd, ⟨l, n1, w1, s1⟩, m1, rfl⟩ | ⟨hn, rfl⟩
  · rcases h' with ⟨d', hd', ⟨l', n1', w1', s1'⟩, m1', rfl⟩ | ⟨hn, rfl⟩
    · have e1 := m1 l' n1' w1'
      have e2 := m1' l n1 w1
      rw [show d = d' by omega]
    · exact absurd ⟨l, n1, w1⟩ hn
  · rcases h' with ⟨d', hd', ⟨l', n1', w1', s1'⟩, m1', rfl⟩ | ⟨hn', rfl⟩
    · exact absurd ⟨l', n1', w1'⟩ hn
    · rfl
noncomputable def btw (T : pT) (a c : Nat) : Int32 := @dite _ (∃ r, IsB T a c r) (Classical.propDecidable _) (fun h => Classical.choose h) (fun _ => 0)
theorem btw_of {T : pT} {a c : Nat} {r : Int32} (h : IsB T a c r) : r = btw T a c := by
  have hex : ∃ r, IsB T a c r := ⟨r, h⟩
  unfold btw
  rw [dif_pos hex]
  exact h.one (Classical.choose_spec hex)
theorem nI_m1 {d : Nat} (h : d < 2 ^ 31) : ¬ nI d = -1 := by
  intro e
  have h1 := nI_toInt h
  rw [e] at h1
  have h2 : (-1 : Int32).toInt = -1 := by decide
  omega
def NR (g : Nat → Int32) (R : Nat → Nat) : Prop := ∀ v, v < 8 → R v ≤ FAR ∧ g v = if R v < FAR then nI (R v) else -1
def mR (R : Nat → Nat) (m d : Nat) : Nat → Nat := fun v => if v = m then (if R m ≤ d then R m else d) else R v
theorem mR_at (R : Nat → Nat) (m d : Nat) : mR R m d m = if R m ≤ d then R m else d := by unfold mR; rw [if_pos rfl]
theorem mR_ne (R : Nat → Nat) {m v : Nat} (d : Nat) (h : ¬ v = m) : mR R m d v = R v := by unfold mR; rw [if_neg h]
theorem mR_le (R : Nat → Nat) (m d v : Nat) : mR R m d v ≤ R v := by
  by_cases e : v = m
  · subst e; rw [mR_at]; split <;> omega
  · rw [mR_ne R d e]; exact Nat.le_refl _
theorem mR_le2 (R : Nat → Nat) (m d : Nat) : mR R m d m ≤ d := by rw [mR_at]; split <;> omega
section NE
variable {l : Launch} {G : gw_G} {σ : gw_S} {b : Nat} {T : pT}
theorem k_X6_shorten {m d : Nat} {R : Nat → Nat} (hm : m < 8) (hd : d < FAR) (hN : NR (σ.1 170) R) : gw_M l G yX6_shorten cX6_shorten 3 none 0 [.ref (G.1 + 169), .int (nI m), .int (nI d)] σ (fv (fun τ => ∃ g, τ = gw_r σ 170 g ∧ NR g (mR R m d))) := by
  have hF : FAR = 1000000 := rfl
  refine gw_met (by decide) (Nat.le_of_ble_eq_true rfl) (fun x C hR hT => sg_X6_shorten_0 C hR hT _ _ σ ⟨vp_in_nI hm (by decide), ?_⟩)
  rw [nI_clamp (by omega)]
  obtain ⟨n1, n2⟩ := hN m hm
  have put : ¬ R m ≤ d → ∀ τ, τ = gw_u σ 170 m (nI d) → ∃ g, τ = gw_r σ 170 g ∧ NR g (mR R m d) := by
    rintro hc τ rfl
    refine ⟨_, rfl, fun v hv => ?_⟩
    by_cases e : v = m
    · subst e
      rw [mR_at, if_neg hc, pk_us, if_pos hd]; exact ⟨by omega, rfl⟩
    · rw [mR_ne R d e, pk_un e]; exact hN v hv
  refine ⟨fun q τ => put ?_ τ, fun q => ⟨fun q2 => ?_, fun q2 τ => put ?_ τ⟩⟩
  · rw [n2] at q
    by_cases h : R m < FAR
    · rw [if_pos h] at q; exact absurd q (nI_m1 (by omega))
    · omega
  · refine ⟨σ.1 170, (gw_r_self σ 170).symm, fun v hv => ?_⟩
    rw [n2] at q q2
    by_cases h : R m < FAR
    · rw [if_pos h, nI_le_iff (by omega) (by omega)] at q2
      by_cases e : v = m
      · subst e; rw [mR_at, if_pos q2]; exact hN v hv
      · rw [mR_ne R d e]; exact hN v hv
    · rw [if_neg h] at q; exact absurd rfl q
  · rw [n2] at q q2
    by_cases h : R m < FAR
    · rw [if_pos h, nI_le_iff (by omega) (by omega)] at q2; omega
    · rw [if_neg h] at q; exact absurd rfl q
/-- what is known of the marks found so far -/
def SN (T : pT) (a : Nat) (R : Nat → Nat) (cnt : Nat) : Prop := ∀ v, v < 8 → R v < FAR → R v ≤ 999 * cnt ∧ ∃ l, l ≠ [] ∧ wl T 999 a l v ∧ wsum T l = R v
def CN (T : pT) (a : Nat) (R : Nat → Nat) (p : Nat) : Prop := ∀ l v, l ≠ [] → l.length ≤ p → wl T 999 a l v → R v ≤ wsum T l
theorem SN_min {T : pT} {a m d cnt : Nat} {R : Nat → Nat} (h : SN T a R cnt) (hd : d ≤ 999 * (cnt + 1)) (hl : ∃ l, l ≠ [] ∧ wl T 999 a l m ∧ wsum T l = d) : SN T a (mR R m d) (cnt + 1) := by
  intro v hv hlt
  by_cases e : v = m
  · subst e
    rw [mR_at] at hlt ⊢
    by_cases q : R v ≤ d
    · rw [if_pos q] at hlt ⊢
      obtain ⟨h1, h2⟩ := h v hv hlt
      exact ⟨by omega, h2⟩
    · rw [if_neg q] at hlt ⊢
      exact ⟨hd, hl⟩
  · rw [mR_ne R d e] at hlt ⊢
    obtain ⟨h1, h2⟩ := h v hv hlt
    exact ⟨by omega, h2⟩
theorem SN_up {T : pT} {a cnt : Nat} {R : Nat → Nat} (h : SN T a R cnt) : SN T a R (cnt + 1) := fun v hv hl => by
  obtain ⟨h1, h2⟩ := h v hv hl
  exact ⟨by omega, h2⟩
theorem k_X6_fewestMarks {a c : Nat} (hb : gw_plan b) (hb7 : b ≠ 170 ∧ (b + 9 ≤ 170 ∨ 170 < b)) (hp : RP σ b T) (hv : VT T) (ha : a < tM T) (hc : c < tM T) : gw_M l G yX6_fewestMarks cX6_fewestMarks 6 (some .int) 1 [.ref (G.1 + 169), .ref (G.1 + b), .int (nI a), .int (nI c)] σ (fi (fun r τ => r = btw T a c ∧ ∃ g, τ = gw_r σ 170 g)) := by
  have h8 := hv.1
  have h14 := hv.2.1
  have hF : FAR = 1000000 := rfl
  have hne : ∀ i, i < 9 → b + i ≠ 170 := fun i hi => by omega
  have hne0 : b ≠ 170 := hb7.1
  refine gw_met (by decide) (Nat.le_of_ble_eq_true rfl) (fun x C hR hT => sg_X6_fewestMarks_0 C hR hT b _ _ hb σ ?_)
  have inner : ∀ p, p < 8 → 1 ≤ p → ∀ R0, CN T a R0 p → (∀ R g, NR g R → SN T a R (1 + p * 14) → CN T a R (p + 1) → PW x G 6 74 [(0, .ref (G.1 + 169)), (1, .ref (G.1 + b)), (2, .int (nI a)), (3, .int (nI c)), (4, .int (nI (p + 1)))] [] (gw_r σ 170 g)) →
      ∀ d i, i + d = tW T → ∀ R g, NR g R → SN T a R (1 + (p - 1) * 14 + i) → (∀ v, v < 8 → R v ≤ R0 v) → (∀ w, w < i → R (tO T w) ≤ R0 (tF T w) + tH T w) → PW x G 6 86 [(0, .ref (G.1 + 169)), (1, .ref (G.1 + b)), (2, .int (nI a)), (3, .int (nI c)), (4, .int (nI p)), (5, .int (nI i))] [] (gw_r σ 170 g) := by
    intro p hp8 hp1 R0 hC0 hcont d
    induction d with
    | zero =>
      intro i hi R g hN hS hL hA
      refine sg_X6_fewestMarks_86 C hR hT b hb _ _ _ _ _ ⟨fun _ => ?_, fun q => absurd ?_ q⟩
      · rw [nI_1]
        refine hcont R g hN ?_ ?_
        · intro v hv' hl
          obtain ⟨h1, h2⟩ := hS v hv' hl
          exact ⟨by omega, h2⟩
        · intro l v hl hlen hw
          rcases List.eq_nil_or_concat l with rfl | ⟨l', w, rfl⟩
          · exact absurd rfl hl
          · rw [List.concat_eq_append] at hw hlen ⊢
            obtain ⟨z, w1, w2⟩ := wl_split hw
            obtain ⟨q1, q2, q3, q4⟩ := w2
            have q4 : tO T w = v := q4
            have hA' := hA w (by omega)
            rw [q3, q4] at hA'
            have hvT := (hv.2.2.2 w q1).2.1
            by_cases hl' : l' = []
            · have h1 := hC0 (l' ++ [w]) v (by simp) (by rw [hl']; simpa using hp1) hw
              exact Nat.le_trans (hL v (by omega)) h1
            · have h1 := hC0 l' z hl' (by simp at hlen; omega) w1
              rw [wsum_app]
              simp only [wsum]; omega
      · rw [gw_r_ne _ _ hne0, hp.2.1, nI_le_iff (by omega) (by omega)]; omega
    | succ d ih =>
      intro i hi R g hN hS hL hA
      have hiT : i < tW T := by omega
      obtain ⟨r1, r2, r3, r4, r5⟩ := hp.2.2.2 i hiT
      obtain ⟨h1, h2, h3, h4, h5, h6, h7⟩ := hv.2.2.2 i hiT
      obtain ⟨n1, n2⟩ := hN (tF T i) (by omega)
      refine sg_X6_fewestMarks_86 C hR hT b hb _ _ _ _ _ ⟨fun q => ?_, fun _ => ?_⟩
      · rw [gw_r_ne _ _ hne0, hp.2.1, nI_le_iff (by omega) (by omega)] at q; omega
      · rw [nI_clamp (by omega), gw_r_ne _ _ (hne 4 (by omega)), gw_r_ne _ _ (hne 5 (by omega)), gw_r_ne _ _ (hne 8 (by omega)), r1, r2, r5, nI_clamp (by omega), gw_r_at, n2, nI_1]
        refine ⟨vp_in_nI (by omega) (by decide), vp_in_nI (by omega) (by decide), fun q => ?_, fun q => ?_⟩
        · have hnf : ¬ R (tF T i) < FAR := by
            intro h
            rw [if_pos h] at q
            exact nI_m1 (by omega) q
          refine ih (i + 1) (by omega) R g hN (SN_up hS) hL (fun w hw => ?_)
          by_cases e : w = i
          · subst e
            have k1 := hL (tF T w) (by omega)
            have k2 := (hN (tO T w) (by omega)).1
            omega
          · exact hA w (by omega)
        · have hlt : R (tF T i) < FAR := by
            by_cases h : R (tF T i) < FAR
            · exact h
            · rw [if_neg h] at q; exact absurd rfl q
          obtain ⟨s1, lf, s2, s3, s4⟩ := hS (tF T i) (by omega) hlt
          rw [if_pos hlt, nI_add]
          have hsm : R (tF T i) + tH T i < FAR := by omega
          refine ⟨_, k_X6_shorten (R := R) (m := tO T i) (d := R (tF T i) + tH T i) (by omega) hsm (by rw [gw_r_at]; exact hN), ?_⟩
          rintro τ ⟨g', rfl, hN'⟩
          rw [gw_r_r]
          refine ih (i + 1) (by omega) _ g' hN' ?_ (fun v hv' => ?_) (fun w hw => ?_)
          · refine SN_min (cnt := 1 + (p - 1) * 14 + i) hS (by omega) ⟨lf ++ [i], by simp, wl_app s3 ⟨hiT, h7, rfl, rfl⟩, by rw [wsum_app, s4]; simp [wsum]⟩
          · exact Nat.le_trans (mR_le _ _ _ v) (hL v hv')
          · have k1 := hL (tF T i) (by omega)
            by_cases e : w = i
            · subst e
              have := mR_le2 R (tO T w) (R (tF T w) + tH T w)
              omega
            · exact Nat.le_trans (mR_le _ _ _ _) (hA w (by omega))
  have outer : ∀ d p, p + d = tM T → 1 ≤ p → ∀ R g, NR g R → SN T a R (1 + (p - 1) * 14) → CN T a R p → PW x G 6 74 [(0, .ref (G.1 + 169)), (1, .ref (G.1 + b)), (2, .int (nI a)), (3, .int (nI c)), (4, .int (nI p))] [] (gw_r σ 170 g) := by
    intro d
    induction d with
    | zero =>
      intro p hpd hp1 R g hN hS hC
      refine sg_X6_fewestMarks_74 C hR hT b hb _ _ _ _ ⟨fun _ => ⟨vp_in_nI (by omega) (by decide), ?_⟩, fun q => absurd ?_ q⟩
      · rw [nI_clamp (by omega), gw_r_at]
        refine ⟨btw_of ?_, g, rfl⟩
        obtain ⟨n1, n2⟩ := hN c (by omega)
        have hmin : ∀ l, l ≠ [] → wl T 999 a l c → R c ≤ wsum T l := by
          intro l hl hw
          obtain ⟨l', q1, q2, q3, q4⟩ := Rp_short hv hl hw
          exact Nat.le_trans (hC l' c q1 (by omega) q2) q4
        by_cases h : R c < FAR
        · rw [n2, if_pos h]
          exact Or.inl ⟨R c, h, (hS c (by omega) h).2, hmin, rfl⟩
        · rw [n2, if_neg h]
          refine Or.inr ⟨?_, rfl⟩
          rintro ⟨l, hl, hw⟩
          obtain ⟨l', q1, q2, q3, q4⟩ := Rp_short hv hl hw
          have e1 := hmin l' q1 q2
          have e2 := wsum_le q2
          have e3 : l'.length * 999 ≤ 8 * 999 := Nat.mul_le_mul_right 999 (Nat.le_trans q3 h8)
          omega
      · rw [gw_r_ne _ _ hne0, hp.1, nI_le_iff (by omega) (by omega)]; omega
    | succ d ih =>
      intro p hpd hp1 R g hN hS hC
      refine sg_X6_fewestMarks_74 C hR hT b hb _ _ _ _ ⟨fun q => ?_, fun _ => ?_⟩
      · rw [gw_r_ne _ _ hne0, hp.1, nI_le_iff (by omega) (by omega)] at q; omega
      · exact inner p (by omega) hp1 R hC (fun R' g' k1 k2 k3 => ih (p + 1) (by omega) (by omega) R' g' k1 (by rw [Nat.add_sub_cancel]; exact k2) k3) (tW T) 0 (by omega) R g hN hS (fun _ _ => Nat.le_refl _) (fun w hw => absurd hw (Nat.not_lt_zero _))
  have first : ∀ d i, i + d = tW T → ∀ R g, NR g R → SN T a R 1 → (∀ w, w < i → tF T w = a → R (tO T w) ≤ tH T w) → PW x G 6 27 [(0, .ref (G.1 + 169)), (1, .ref (G.1 + b)), (2, .int (nI a)), (3, .int (nI c)), (4, .int (nI i))] [] (gw_r σ 170 g) := by
    intro d
    induction d with
    | zero =>
      intro i hi R g hN hS hA
      refine sg_X6_fewestMarks_27 C hR hT b hb _ _ _ _ ⟨fun _ => ?_, fun q => absurd ?_ q⟩
      · refine outer (tM T - 1) 1 (by omega) (Nat.le_refl _) R g hN hS (fun l v hl hlen hw => ?_)
        cases l with
        | nil => exact absurd rfl hl
        | cons w l =>
          cases l with
          | nil =>
            obtain ⟨q1, q2, q3, q4⟩ := hw
            have q4 : tO T w = v := q4
            have := hA w (by omega) q3
            rw [q4] at this
            simp only [wsum]; omega
          | cons w2 l => simp at hlen
      · rw [gw_r_ne _ _ hne0, hp.2.1, nI_le_iff (by omega) (by omega)]; omega
    | succ d ih =>
      intro i hi R g hN hS hA
      have hiT : i < tW T := by omega
      obtain ⟨r1, r2, r3, r4, r5⟩ := hp.2.2.2 i hiT
      obtain ⟨h1, h2, h3, h4, h5, h6, h7⟩ := hv.2.2.2 i hiT
      refine sg_X6_fewestMarks_27 C hR hT b hb _ _ _ _ ⟨fun q => ?_, fun _ => ?_⟩
      · rw [gw_r_ne _ _ hne0, hp.2.1, nI_le_iff (by omega) (by omega)] at q; omega
      · rw [nI_clamp (by omega), gw_r_ne _ _ (hne 4 (by omega)), gw_r_ne _ _ (hne 5 (by omega)), gw_r_ne _ _ (hne 8 (by omega)), r1, r2, r5, nI_1]
        refine ⟨vp_in_nI (by omega) (by decide), fun q => ?_, fun q => ?_⟩
        · rw [nI_eq_iff (by omega) (by omega)] at q
          refine ih (i + 1) (by omega) R g hN hS (fun w hw e => ?_)
          by_cases ew : w = i
          · subst ew; exact absurd e q
          · exact hA w (by omega) e
        · rw [nI_eq_iff (by omega) (by omega)] at q
          refine ⟨_, k_X6_shorten (R := R) (m := tO T i) (d := tH T i) (by omega) (by omega) (by rw [gw_r_at]; exact hN), ?_⟩
          rintro τ ⟨g', rfl, hN'⟩
          rw [gw_r_r]
          refine ih (i + 1) (by omega) _ g' hN' (fun v hv' hl => ?_) (fun w hw e => ?_)
          · have hS0 := SN_min (m := tO T i) (d := tH T i) hS (by omega) ⟨[i], by simp, ⟨hiT, h7, q, rfl⟩, by simp [wsum]⟩ v hv' hl
            refine ⟨?_, hS0.2⟩
            by_cases e : v = tO T i
            · subst e
              have := mR_le2 R (tO T i) (tH T i)
              omega
            · rw [mR_ne R _ e] at hl ⊢; exact (hS v hv' hl).1
          · by_cases ew : w = i
            · subst ew; exact mR_le2 _ _ _
            · exact Nat.le_trans (mR_le _ _ _ _) (hA w (by omega) e)
  have ini : ∀ d i, i + d = 8 → ∀ g, (∀ j, j < i → g j = -1) → PW x G 6 3 [(0, .ref (G.1 + 169)), (1, .ref (G.1 + b)), (2, .int (nI a)), (3, .int (nI c)), (4, .int (nI i))] [] (gw_r σ 170 g) := by
    intro d
    induction d with
    | zero =>
      intro i hi g hg
      refine sg_X6_fewestMarks_3 C hR hT b hb _ _ _ _ ⟨fun _ => ?_, fun q => absurd ?_ q⟩
      · exact first (tW T) 0 (by omega) (fun _ => FAR) g (fun v hv' => ⟨Nat.le_refl _, by rw [if_neg (Nat.lt_irrefl _)]; exact hg v (by omega)⟩) (fun v _ h => absurd h (Nat.lt_irrefl _)) (fun w hw => absurd hw (Nat.not_lt_zero _))
      · rw [show (8 : Int32) = nI 8 from rfl, nI_le_iff (by decide) (by omega)]; omega
    | succ d ih =>
      intro i hi g hg
      refine sg_X6_fewestMarks_3 C hR hT b hb _ _ _ _ ⟨fun q => ?_, fun _ => ⟨vp_in_nI (by omega) (by decide), ?_⟩⟩
      · rw [show (8 : Int32) = nI 8 from rfl, nI_le_iff (by decide) (by omega)] at q; omega
      · rintro τ rfl
        rw [nI_clamp (by omega), gw_u_r, nI_1]
        refine ih (i + 1) (by omega) _ (fun j hj => ?_)
        by_cases e : j = i
        · subst e; rw [pk_us]
        · rw [pk_un e]; exact hg j (by omega)
  have := ini 8 0 (by omega) (σ.1 170) (fun j hj => absurd hj (Nat.not_lt_zero _))
  rw [gw_r_self] at this
  exact this
end NE
/-- the reference's answer is that one -/
theorem FW_btw {T : pT} (hv : VT T) {R : Nat → Nat → Nat} (hS : SD T 999 R) (hC : CP T 999 R 8) {a c : Nat} (ha : a < 8) (hc : c < 8) : (if R a c < FAR then nI (R a c) else -1) = btw T a c := by
  refine btw_of ?_
  have key := FW_lt hv hS hC ha hc
  by_cases h : R a c < FAR
  · rw [if_pos h]
    exact Or.inl ⟨R a c, h, (hS a c ha hc).2 h, fun l hl hw => hC a c l ha hc hl hw (vat_lt8 hv hw hl), rfl⟩
  · rw [if_neg h]
    exact Or.inr ⟨fun z => h (key.mpr z), rfl⟩
