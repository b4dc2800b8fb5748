/-! the reference's parts -/
/-- the reference stands in one part (number K, from its first module f) -/
def JP (T : pT) (σ τ : gw_S) (rt : Nat → Nat) (K f : Nat) (p ov un : Nat → Nat) : Prop := SX [198, 199, 200] [15] σ τ ∧ PF τ p ∧ OF τ p ov un ∧ LI T p ov un rt ∧ τ.1 189 15 = nI K ∧ (∀ j, j < 8 → p j ≤ K + 1) ∧ (∀ w, w < tW T → ∀ q, q ≠ 0 → q ≤ K → (p (tF T w) = q ↔ p (tO T w) = q)) ∧ p f = K + 1 ∧ rt (K + 1) = f ∧ (∀ j, j < tM T → p j ≠ 0 → p j = K + 1 ∨ ∃ a, a < f ∧ cn T a j) ∧ ∀ j, j < tM T → (∃ a, a < f ∧ cn T a j) → p j ≠ 0
def cdw (T : pT) (p : Nat → Nat) (K w : Nat) : Prop := (p (tF T w) = K + 1 → p (tO T w) ≠ 0) ∧ (p (tO T w) = K + 1 → p (tF T w) ≠ 0)
theorem JP_step {T : pT} (hv : VT T) {σ τ τ' : gw_S} {rt : Nat → Nat} {K f b : Nat} {p ov un ov' un' : Nat → Nat} (h : JP T σ τ rt K f p ov un) (hS : SX [198, 199, 200] [] τ τ') (hP : PF τ' (uN p b (K + 1))) (hO : OF τ' (uN p b (K + 1)) ov' un') (hL : LI T (uN p b (K + 1)) ov' un' rt) (hb : b < tM T) (h0 : p b = 0) : JP T σ τ' rt K f (uN p b (K + 1)) ov' un' := by
  obtain ⟨j1, j2, j3, j4, j5, j6, j7, j8, j9, j10, j11⟩ := h
  refine ⟨j1.tr (hS.mono (fun _ h => h) (fun _ h => by cases h)), hP, hO, hL, by rw [hS.2.2 15 (by decide)]; exact j5, fun j hj => ?_, fun w hw q hq hqK => ?_, ?_, j9, fun j hj hpj => ?_, fun j hj hc => ?_⟩
  · by_cases e : j = b
    · rw [e, uN_at]; omega
    · rw [uN_ne _ _ e]; exact j6 j hj
  · have := j7 w hw q hq hqK
    by_cases e1 : tF T w = b <;> by_cases e2 : tO T w = b
    · rw [e1, e2]
    · rw [e1, uN_at, uN_ne _ _ e2]; rw [e1, h0] at this; omega
    · rw [e2, uN_at, uN_ne _ _ e1]; rw [e2, h0] at this; omega
    · rw [uN_ne _ _ e1, uN_ne _ _ e2]; exact this
  · rw [uN_ne _ _ (fun z => by rw [z, h0] at j8; omega)]; exact j8
  · by_cases e : j = b
    · rw [e, uN_at]; exact Or.inl rfl
    · rw [uN_ne _ _ e] at hpj ⊢; exact j10 j hj hpj
  · by_cases e : j = b
    · rw [e, uN_at]; omega
    · rw [uN_ne _ _ e]; exact j11 j hj hc
/-- between parts -/
def KP (T : pT) (σ τ : gw_S) (rt : Nat → Nat) (K f : Nat) (p ov un : Nat → Nat) : Prop := SX [198, 199, 200] [15] σ τ ∧ PF τ p ∧ OF τ p ov un ∧ LI T p ov un rt ∧ τ.1 189 15 = nI K ∧ K = cN (rtB T) f ∧ (∀ j, j < 8 → p j ≤ K) ∧ (∀ w, w < tW T → p (tF T w) = p (tO T w)) ∧ ∀ j, j < tM T → (p j ≠ 0 ↔ ∃ a, a < f ∧ cn T a j)
theorem JP_end {T : pT} (hv : VT T) {σ τ : gw_S} {rt : Nat → Nat} {K f : Nat} {p ov un : Nat → Nat} (h : JP T σ τ rt K f p ov un) (hf : f < tM T) (hK : K = cN (rtB T) f) (hr : rtB T f = true) (hc : ∀ w, w < tW T → cdw T p K w) : KP T σ (gw_u τ 189 15 (nI (K + 1))) rt (K + 1) (f + 1) p ov un := by
  have h8 := hv.1
  obtain ⟨j1, j2, j3, j4, j5, j6, j7, j8, j9, j10, j11⟩ := h
  have hcl : ∀ w, w < tW T → p (tF T w) = p (tO T w) := by
    intro w hw
    obtain ⟨q1, q2, _⟩ := hv.2.2.2 w hw
    have a1 := j6 _ (Nat.lt_of_lt_of_le q1 h8)
    have a2 := j6 _ (Nat.lt_of_lt_of_le q2 h8)
    obtain ⟨c1, c2⟩ := hc w hw
    have d1 := j7 w hw (p (tF T w))
    have d2 := j7 w hw (p (tO T w))
    by_cases e1 : p (tF T w) = K + 1
    · by_cases e2 : p (tO T w) = K + 1
      · rw [e1, e2]
      · exact (d2 (c1 e1) (by omega)).mpr rfl
    · by_cases e0 : p (tF T w) = 0
      · by_cases e2 : p (tO T w) = K + 1
        · exact absurd e0 (c2 e2)
        · by_cases e3 : p (tO T w) = 0
          · rw [e0, e3]
          · exact (d2 e3 (by omega)).mpr rfl
      · exact ((d1 e0 (by omega)).mp rfl).symm
  refine ⟨j1.tr (SX.f (by decide)), fun j hj => ?_, fun j hj hpj => ?_, j4, gw_u_at _ _ _ _, ?_, fun j hj => j6 j hj, hcl, fun j hj => ⟨fun hpj => ?_, ?_⟩⟩
  · rw [gw_u_k _ _ _ (by decide)]; exact j2 j hj
  · rw [gw_u_l]; exact j3 j hj hpj
  · rw [cN, hr, if_pos rfl, hK]
  · rcases j10 j hj hpj with h | ⟨a, ha, hac⟩
    · have := (j4 j hj hpj).2.2.1
      rw [h, j9] at this
      exact ⟨f, by omega, this⟩
    · exact ⟨a, by omega, hac⟩
  · rintro ⟨a, ha, hac⟩
    by_cases e : a = f
    · subst e
      have := hac (fun i => decide (p i = K + 1)) (fun w hw => by show decide _ = decide _; rw [hcl w hw])
      simp only [j8, decide_true] at this
      have := decide_eq_true_eq.mp this.symm
      omega
    · exact j11 j hj ⟨a, by omega, hac⟩
section RF
variable {l : Launch} {G : gw_G} {σ : gw_S} {T : pT}
theorem k_X8_layParts {k : Nat} (hk : gw_ia k 96) (hp : RR (σ.1 k) T) (hv : VT T) : gw_M l G yX8_layParts cX8_layParts 5 none 3 [.ref (G.1 + 189), .ref (G.1 + k)] σ (fv (fun τ => ∃ rt p ov un, KP T σ τ rt (cN (rtB T) (tM T)) (tM T) p ov un)) := by
  have h8 := hv.1
  have h14 := hv.2.1
  obtain ⟨hne, hn9⟩ := ia_ne hk
  have hne' : k ∉ [198, 199, 200] := fun h => hne (List.mem_cons_of_mem _ h)
  refine gw_met (by decide) (Nat.le_of_ble_eq_true rfl) (fun x C hR hT => sg_X8_layParts_0 C hR hT k hk σ ?_)
  rintro τ rfl
  have row : ∀ τ : gw_S, SX [198, 199, 200] [15] σ τ → τ.1 k = σ.1 k := fun τ h => h.1 k hne' hn9
  have body : ∀ d f, f + d = tM T → ∀ τ rt K p ov un, KP T σ τ rt K f p ov un → PW x G 5 28 [(0, .ref (G.1 + 189)), (1, .ref (G.1 + k)), (2, .int (nI f))] [] τ := by
    intro d
    induction d with
    | zero =>
      intro f hf τ rt K p ov un hQ
      refine sg_X8_layParts_28 C hR hT k hk _ _ ⟨fun _ => ?_, fun q => absurd ?_ q⟩
      · have e : f = tM T := by omega
        subst e
        have hK := hQ.2.2.2.2.2.1
        subst hK
        exact ⟨rt, p, ov, un, hQ⟩
      · rw [gc0, row τ hQ.1, hp.1, nI_le_iff (by omega) (by omega)]; omega
    | succ d ih =>
      intro f hf τ rt K p ov un hQ
      have hQ' := hQ
      obtain ⟨k1, k2, k3, k4, k5, k6, k7, k8, k9⟩ := hQ
      have hK8 := cN_le (rtB T) f
      refine sg_X8_layParts_28 C hR hT k hk _ _ ⟨fun q => ?_, fun _ => ⟨vp_in_nI (by omega) (by decide), ?_⟩⟩
      · rw [gc0, row τ k1, hp.1, nI_le_iff (by omega) (by omega)] at q; omega
      · rw [nI_clamp (by omega), (k2 f (by omega)).2, sh_m1 _ (by have := (k2 f (by omega)).1; omega), nI_1]
        refine ⟨fun hpf => ih (f + 1) (by omega) τ rt K p ov un ?_, fun hpf => ?_⟩
        · obtain ⟨a, ha, hac⟩ := (k9 f (by omega)).mp hpf
          have hr : rtB T f = false := by
            cases e : rtB T f
            · rfl
            · exact absurd hac (rtB_iff.mp e a ha)
          refine ⟨k1, k2, k3, k4, k5, ?_, k7, k8, fun j hj => ?_⟩
          · rw [cN, hr]; simp only [Bool.false_eq_true, if_false]; exact k6
          · rw [k9 j hj]
            constructor
            · rintro ⟨a', h1, h2⟩; exact ⟨a', by omega, h2⟩
            · rintro ⟨a', h1, h2⟩
              by_cases e : a' = f
              · subst e; exact ⟨a, ha, hac.tr h2⟩
              · exact ⟨a', by omega, h2⟩
        · have hr : rtB T f = true := rtB_iff.mpr (fun j hj hc => (k9 f (by omega)).mpr ⟨j, hj, hc⟩ hpf)
          rintro τ2 rfl τ3 rfl τ4 rfl
          rw [k5]
          have J0 : JP T σ (gw_ul (gw_ul (gw_u τ 198 f (nI K)) 199 f 1) 200 f 1) (uN rt (K + 1) f) K f (uN p f (K + 1)) (uN ov f 1) (uN un f 1) := by
            refine ⟨((k1.tr (SX.u (by decide) (by decide))).tr (SX.l (by decide))).tr (SX.l (by decide)), fun j hj => ?_, fun j hj hpj => ?_, LI_root hv k4 (by omega) hpf (by omega) (fun m hm => by have := k7 m (by omega); omega), ?_, fun j hj => ?_, fun w hw q hq hqK => ?_, uN_at _ _ _, uN_at _ _ _, fun j hj hpj => ?_, fun j hj hc => ?_⟩
            · rw [gw_ul_i, gw_ul_i]
              by_cases e : j = f
              · subst e; rw [uN_at, gw_u_at, nI_pred]; exact ⟨by omega, rfl⟩
              · rw [uN_ne _ _ e, gw_u_j _ _ _ e]; exact k2 j hj
            · by_cases e : j = f
              · subst e
                rw [gw_ul_k _ _ _ (by decide), gw_ul_at, gw_ul_at, uN_at, uN_at]; exact ⟨rfl, rfl⟩
              · rw [uN_ne _ _ e] at hpj
                rw [uN_ne _ _ e, uN_ne _ _ e, gw_ul_k _ _ _ (by decide), gw_ul_j _ _ _ e, gw_ul_j _ _ _ e, gw_u_l, gw_ul_k _ _ _ (by decide), gw_u_l]
                exact k3 j hj hpj
            · rw [gw_ul_i, gw_ul_i, gw_u_k _ _ _ (by decide)]; exact k5
            · by_cases e : j = f
              · rw [e, uN_at]; omega
              · rw [uN_ne _ _ e]; have := k7 j hj; omega
            · have := k8 w hw
              by_cases e1 : tF T w = f <;> by_cases e2 : tO T w = f
              · rw [e1, e2]
              · rw [e1, uN_at, uN_ne _ _ e2]; rw [e1, hpf] at this; omega
              · rw [e2, uN_at, uN_ne _ _ e1]; rw [e2, hpf] at this; omega
              · rw [uN_ne _ _ e1, uN_ne _ _ e2, this]
            · by_cases e : j = f
              · rw [e, uN_at]; exact Or.inl rfl
              · rw [uN_ne _ _ e] at hpj; exact Or.inr ((k9 j hj).mp hpj)
            · by_cases e : j = f
              · rw [e, uN_at]; omega
              · rw [uN_ne _ _ e]; exact (k9 j hj).mpr hc
          have fin : ∀ τ p ov un, JP T σ τ (uN rt (K + 1) f) K f p ov un → (∀ w, w < tW T → cdw T p K w) → PW x G 5 71 [(0, .ref (G.1 + 189)), (1, .ref (G.1 + k)), (2, .int (nI f)), (3, .int (gz false))] [] τ := by
            intro τ p ov un hJ hc
            refine sg_X8_layParts_71 C hR hT k hk _ _ _ ⟨fun _ => ?_, fun q => absurd rfl q⟩
            rintro τ1 rfl
            rw [hJ.2.2.2.2.1, nI_1, nI_1]
            exact ih (f + 1) (by omega) _ _ _ _ _ _ (JP_end hv hJ (by omega) k6 hr hc)
          have inner : ∀ c0, (∀ τ p ov un, JP T σ τ (uN rt (K + 1) f) K f p ov un → c0 < c8 p → PW x G 5 80 [(0, .ref (G.1 + 189)), (1, .ref (G.1 + k)), (2, .int (nI f)), (3, .int (gz false)), (4, .int (nI 0))] [] τ) → ∀ d j, j + d = tW T → ∀ τ p ov un (v3 : Bool), JP T σ τ (uN rt (K + 1) f) K f p ov un → c0 ≤ c8 p → (v3 = true → c0 < c8 p) → (v3 = false → ∀ w, w < j → cdw T p K w) → PW x G 5 80 [(0, .ref (G.1 + 189)), (1, .ref (G.1 + k)), (2, .int (nI f)), (3, .int (gz v3)), (4, .int (nI j))] [] τ := by
            intro c0 next d
            induction d with
            | zero =>
              intro j hj τ p ov un v3 hJ hc0 ht hf'
              refine sg_X8_layParts_80 C hR hT k hk _ _ _ _ ⟨fun _ => ?_, fun q => absurd ?_ q⟩
              · cases v3
                · exact fin τ p ov un hJ (fun w hw => hf' rfl w (by omega))
                · refine sg_X8_layParts_71 C hR hT k hk _ _ _ ⟨fun q => absurd q (by decide), fun _ => next τ p ov un hJ (ht rfl)⟩
              · rw [gc1, row τ hJ.1, hp.2.1, nI_le_iff (by omega) (by omega)]; omega
            | succ d ih2 =>
              intro j hj τ p ov un v3 hJ hc0 ht hf'
              refine sg_X8_layParts_80 C hR hT k hk _ _ _ _ ⟨fun q => ?_, fun _ => ?_⟩
              · rw [gc1, row τ hJ.1, hp.2.1, nI_le_iff (by omega) (by omega)] at q; omega
              · rw [hJ.2.2.2.2.1]
                refine ⟨_, k_X8_spread (w := j) (K := K) hk (by rw [row τ hJ.1]; exact hp) hv (by omega) (by omega) hJ.2.1 hJ.2.2.1 hJ.2.2.2.1, ?_⟩
                rintro r τ2 ⟨hS, p', ov', un', hP', hO', hL', hr'⟩
                rw [nI_1]
                rcases hr' with ⟨rfl, b, hb, hb0, rfl⟩ | ⟨rfl, rfl, hcw⟩
                · have hlt := c8_u (p := p) (b := b) (q := K + 1) (by omega) hb0 (by omega)
                  exact ih2 (j + 1) (by omega) τ2 _ ov' un' true (JP_step hv hJ hS hP' hO' hL' hb hb0) (by omega) (fun _ => by omega) (fun z => by cases z)
                · have hJ2 : JP T σ τ2 (uN rt (K + 1) f) K f p' ov' un' := by
                    obtain ⟨j1, j2, j3, j4, j5, j6⟩ := hJ
                    exact ⟨j1.tr (hS.mono (fun _ h => h) (fun _ h => by cases h)), hP', hO', hL', by rw [hS.2.2 15 (by decide)]; exact j5, j6⟩
                  have := ih2 (j + 1) (by omega) τ2 p' ov' un' v3 hJ2 hc0 ht (fun z w hw => by
                    by_cases e : w = j
                    · subst e; exact hcw
                    · exact hf' z w (by omega))
                  cases v3 <;> exact this
          have pass : ∀ n τ p ov un, JP T σ τ (uN rt (K + 1) f) K f p ov un → 8 - c8 p ≤ n → PW x G 5 80 [(0, .ref (G.1 + 189)), (1, .ref (G.1 + k)), (2, .int (nI f)), (3, .int (gz false)), (4, .int (nI 0))] [] τ := by
            intro n
            induction n with
            | zero =>
              intro τ p ov un hJ hc
              refine inner (c8 p) (fun τ' p' ov' un' _ hlt => ?_) (tW T) 0 (by omega) τ p ov un false hJ (Nat.le_refl _) (fun z => by cases z) (fun _ w hw => absurd hw (Nat.not_lt_zero w))
              have := c8_le p'
              have := c8_le p
              have := Nat.le_zero.mp hc
              omega
            | succ n ihn =>
              intro τ p ov un hJ hc
              refine inner (c8 p) (fun τ' p' ov' un' hJ' hlt => ihn τ' p' ov' un' hJ' (by omega)) (tW T) 0 (by omega) τ p ov un false hJ (Nat.le_refl _) (fun z => by cases z) (fun _ w hw => absurd hw (Nat.not_lt_zero w))
          refine sg_X8_layParts_71 C hR hT k hk _ _ _ ⟨fun q => absurd q (by decide), fun _ => pass 8 _ _ _ _ J0 (by omega)⟩
  have zero : ∀ d j, j + d = 8 → ∀ g : Nat → Int32, (∀ i, i < j → g i = -1) → PW x G 5 7 [(0, .ref (G.1 + 189)), (1, .ref (G.1 + k)), (2, .int (nI j))] [] (gw_r (gw_u σ 189 15 0) 198 g) := by
    intro d
    induction d with
    | zero =>
      intro j hj g hg
      refine sg_X8_layParts_7 C hR hT k hk _ _ ⟨fun _ => body (tM T) 0 (by omega) _ (fun _ => 0) 0 (fun _ => 0) (fun _ => 0) (fun _ => 0) ⟨(SX.f (by decide)).tr (SX.r (by decide) (by decide)), fun i hi => ⟨Nat.zero_le _, ?_⟩, fun i hi h => absurd rfl h, fun m hm h => absurd rfl h, ?_, rfl, fun _ _ => Nat.le_refl 0, fun _ _ => rfl, fun i hi => ⟨fun h => absurd rfl h, fun ⟨a, ha, _⟩ => absurd ha (Nat.not_lt_zero a)⟩⟩, fun q => absurd ?_ q⟩
      · rw [gw_r_at, hg i (by omega)]; show (-1 : Int32) = nI 0 - 1; decide
      · rw [gw_r_ne _ _ (by decide), gw_u_at]; rfl
      · rw [show (8 : Int32) = nI 8 from rfl, nI_le_iff (by omega) (by omega)]; omega
    | succ d ih =>
      intro j hj g hg
      refine sg_X8_layParts_7 C hR hT k hk _ _ ⟨fun q => ?_, fun _ => ⟨vp_in_nI (by omega) (by decide), ?_⟩⟩
      · rw [show (8 : Int32) = nI 8 from rfl, nI_le_iff (by omega) (by omega)] at q; omega
      · rintro τ rfl
        rw [nI_clamp (by omega), gw_u_r, nI_1]
        refine ih (j + 1) (by omega) _ (fun i hi => ?_)
        by_cases e : i = j
        · rw [e, pk_us]
        · rw [pk_un e]; exact hg i (by omega)
  have := zero 8 0 (by omega) (σ.1 198) (fun i hi => absurd hi (Nat.not_lt_zero i))
  have e : gw_r (gw_u σ 189 15 0) 198 (σ.1 198) = gw_u σ 189 15 0 := by
    have := gw_r_self (gw_u σ 189 15 0) 198
    rw [gw_u_k _ _ _ (show 198 ≠ 189 by decide)] at this; exact this
  rw [e] at this
  exact this
end RF
