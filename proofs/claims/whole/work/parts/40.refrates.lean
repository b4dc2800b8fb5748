/-! the reference's rates: divisor, fractions, parts -/
theorem sh_eq : ∀ v, v < 9 → ∀ c, c < 9 → (nI v - 1 = nI c) = (v = c + 1) := by
  have : ∀ v, v < 9 → ∀ c, c < 9 → ((nI v - 1 = nI c) ↔ (v = c + 1)) := by decide +kernel
  exact fun v hv c hc => propext (this v hv c hc)
theorem sh_m1 : ∀ v, v < 9 → (nI v - 1 = -1) = (v = 0) := by
  have : ∀ v, v < 9 → ((nI v - 1 = -1) ↔ (v = 0)) := by decide +kernel
  exact fun v hv => propext (this v hv)
def PF (τ : gw_S) (p : Nat → Nat) : Prop := ∀ k, k < 8 → p k ≤ 8 ∧ τ.1 198 k = nI (p k) - 1
def OF (τ : gw_S) (p ov un : Nat → Nat) : Prop := ∀ k, k < 8 → p k ≠ 0 → τ.2 199 k = lN (ov k) ∧ τ.2 200 k = lN (un k)
theorem ia_ne {k : Nat} (hk : gw_ia k 96) : k ∉ [197, 198, 199, 200] ∧ k ≠ 189 := by
  refine ⟨fun h => ?_, fun h => ?_⟩
  · simp only [List.mem_cons, List.not_mem_nil, or_false] at h
    rcases h with h | h | h | h <;> subst h <;> exact absurd hk.2 (by decide)
  · subst h; exact absurd hk.2 (by decide)
section RF
variable {l : Launch} {G : gw_G} {σ : gw_S} {T : pT}
theorem k_X8_divisor {a b : Nat} (ha : a < 2 ^ 63) (hb : b < 2 ^ 63) : gw_M l G yX8_divisor cX8_divisor 10 (some .long) 0 [.long (lN a), .long (lN b)] σ (fl (fun r τ => r = lN (Nat.gcd a b) ∧ τ = σ)) := by
  refine gw_met (by decide) (Nat.le_of_ble_eq_true rfl) (fun x C hR hT => sg_X8_divisor_0 C hR hT _ _ σ ?_)
  have key : ∀ n a' b', b' ≤ n → a' < 2 ^ 63 → b' < 2 ^ 63 → Nat.gcd a' b' = Nat.gcd a b → PW x G 10 6 [(0, .long (lN a)), (2, .long (lN b)), (4, .long (lN a')), (6, .long (lN b'))] [] σ := by
    intro n
    induction n with
    | zero =>
      intro a' b' h1 h2 h3 h4
      have h0 : b' = 0 := Nat.le_zero.mp h1
      refine sg_X8_divisor_6 C hR hT _ _ _ _ σ ⟨fun _ => ⟨?_, rfl⟩, fun q => absurd ?_ q⟩
      · rw [← h4, show b' = 0 by omega, Nat.gcd_zero_right]
      · rw [lg_cmp_le, show (0 : Int64) = lN 0 from rfl, pk_lLE h3 (by omega)]; omega
    | succ n ih =>
      intro a' b' h1 h2 h3 h4
      refine sg_X8_divisor_6 C hR hT _ _ _ _ σ ⟨fun q => ⟨?_, rfl⟩, fun q => ?_⟩
      · rw [lg_cmp_le, show (0 : Int64) = lN 0 from rfl, pk_lLE h3 (by omega)] at q
        rw [← h4, show b' = 0 by omega, Nat.gcd_zero_right]
      · rw [lg_cmp_le, show (0 : Int64) = lN 0 from rfl, pk_lLE h3 (by omega)] at q
        have hm : a' % b' < b' := Nat.mod_lt _ (by omega)
        rw [pk_lRem h2 (by omega) h3, show (0 : Int64) = lN 0 from rfl, pk_lEQ h3 (by omega)]
        refine ⟨by omega, ih b' (a' % b') (by omega) h3 (by omega) ?_⟩
        rw [← h4, Nat.gcd_comm b', Nat.gcd_comm a', Nat.gcd_rec b' a']
  exact key b a b (Nat.le_refl _) ha hb rfl
theorem k_X8_setWorks {m u v : Nat} (hm : m < 8) (hu : 0 < u) (hu' : u < 2 ^ 63) (hv : v < 2 ^ 63) : gw_M l G yX8_setWorks cX8_setWorks 8 none 1 [.ref (G.1 + 189), .int (nI m), .long (lN u), .long (lN v)] σ (fv (fun τ => τ = gw_ul (gw_ul σ 199 m (lN (u / Nat.gcd u v))) 200 m (lN (v / Nat.gcd u v)))) := by
  refine gw_met (by decide) (Nat.le_of_ble_eq_true rfl) (fun x C hR hT => sg_X8_setWorks_0 C hR hT _ _ _ σ ⟨_, k_X8_divisor hu' hv, ?_⟩)
  rintro r τ ⟨rfl, rfl⟩
  have hg := Nat.gcd_pos_of_pos_left v hu
  have hg2 := Nat.le_of_dvd hu (Nat.gcd_dvd_left u v)
  refine ⟨?_, vp_in_nI (by omega) (by decide), ?_⟩
  · rw [show (0 : Int64) = lN 0 from rfl, pk_lEQ (by omega) (by omega)]; omega
  · rintro τ6 rfl τ7 rfl
    rw [nI_clamp (by omega), pk_lDiv hu' hg (by omega), pk_lDiv hv hg (by omega)]
theorem ovb {c v : Nat} (hc : c ≤ 8) (h : v ≤ 6 ^ (c - 1)) : v ≤ 6 ^ 7 := Nat.le_trans h (Nat.pow_le_pow_right (by decide) (by omega))
theorem unb {c v : Nat} (hc : c ≤ 8) (h : v ∣ 60 ^ (c - 1)) : v ≤ 60 ^ 7 := Nat.le_of_dvd (Nat.pow_pos (by decide)) (Nat.dvd_trans h (Nat.pow_dvd_pow 60 (by omega)))
theorem k_X8_spread {k w K : Nat} {p ov un rt : Nat → Nat} (hk : gw_ia k 96) (hp : RR (σ.1 k) T) (hv : VT T) (hw : w < tW T) (hK : K < 8) (hP : PF σ p) (hO : OF σ p ov un) (hL : LI T p ov un rt) : gw_M l G yX8_spread cX8_spread 6 (some .boolean) 2 [.ref (G.1 + 189), .ref (G.1 + k), .int (nI w), .int (nI K)] σ (fz (fun q τ => SX [198, 199, 200] [] σ τ ∧ ∃ p' ov' un', PF τ p' ∧ OF τ p' ov' un' ∧ LI T p' ov' un' rt ∧ ((q = true ∧ ∃ b, b < tM T ∧ p b = 0 ∧ p' = uN p b (K + 1)) ∨ (q = false ∧ p' = p ∧ (p (tF T w) = K + 1 → p (tO T w) ≠ 0) ∧ (p (tO T w) = K + 1 → p (tF T w) ≠ 0))))) := by
  have h8 := hv.1
  have h14 := hv.2.1
  obtain ⟨q1, q2, q3, q4, q5, q6, q7⟩ := hv.2.2.2 w hw
  obtain ⟨r1, r2, r3, r4, r5⟩ := hp.2.2.2 w hw
  have hk8 : k ≠ 198 := fun z => (ia_ne hk).1 (by rw [z]; decide)
  refine gw_met (by decide) (Nat.le_of_ble_eq_true rfl) (fun x C hR hT => sg_X8_spread_0 C hR hT k _ _ hk σ ⟨wv0 (by omega), wv1 (by omega), ?_⟩)
  have f1 : σ.1 k (26 + 5 * w + 0) = nI (tF T w) := r1
  have pa := (hP _ (Nat.lt_of_lt_of_le q1 h8)).1
  have pb := (hP _ (Nat.lt_of_lt_of_le q2 h8)).1
  rw [wc0 (by omega), wc1 (by omega), wc2 (by omega), wc3 (by omega), f1, r2, nI_clamp (by omega), nI_clamp (by omega), (hP _ (Nat.lt_of_lt_of_le q1 h8)).2, (hP _ (Nat.lt_of_lt_of_le q2 h8)).2, sh_eq _ (by omega) _ (by omega), sh_eq _ (by omega) _ (by omega), sh_m1 _ (by omega), sh_m1 _ (by omega)]
  have no : (p (tF T w) = K + 1 → p (tO T w) ≠ 0) → (p (tO T w) = K + 1 → p (tF T w) ≠ 0) → (SX [198, 199, 200] [] σ σ ∧ ∃ p' ov' un', PF σ p' ∧ OF σ p' ov' un' ∧ LI T p' ov' un' rt ∧ ((false = true ∧ ∃ b, b < tM T ∧ p b = 0 ∧ p' = uN p b (K + 1)) ∨ (false = false ∧ p' = p ∧ (p (tF T w) = K + 1 → p (tO T w) ≠ 0) ∧ (p (tO T w) = K + 1 → p (tF T w) ≠ 0)))) := fun h1 h2 => ⟨SX.rf, p, ov, un, hP, hO, hL, Or.inr ⟨rfl, rfl, h1, h2⟩⟩
  have go : ∀ a b co va, a < tM T → b < tM T → p a = K + 1 → p b = 0 → cn T a b → 1 ≤ co → co ≤ 6 → 1 ≤ va → va ≤ 6 → (∀ e, PS T e → e a * co = e b * va) → ∃ Φ' : gw_S → Prop, gw_M x.2.1 G yX8_setWorks cX8_setWorks 8 none 1 [.ref (G.1 + 189), .int (nI b), .long (lN (ov a * co)), .long (lN (un a * va))] (gw_u σ 198 b (nI K)) (fv Φ') ∧ ∀ τ, Φ' τ → (SX [198, 199, 200] [] σ τ ∧ ∃ p' ov' un', PF τ p' ∧ OF τ p' ov' un' ∧ LI T p' ov' un' rt ∧ ((true = true ∧ ∃ b, b < tM T ∧ p b = 0 ∧ p' = uN p b (K + 1)) ∨ (true = false ∧ p' = p ∧ (p (tF T w) = K + 1 → p (tO T w) ≠ 0) ∧ (p (tO T w) = K + 1 → p (tF T w) ≠ 0)))) := by
    intro a b co va ha hb hpa hpb hcn h1 h2 h3 h4 hE
    obtain ⟨a1, a2, a3, a4, a5, a6, a7, a8⟩ := hL a ha (by omega)
    have b1 := ovb (c8_le p) a6
    have b2 := unb (c8_le p) a7
    have b3 : ov a * co ≤ 6 ^ 7 * 6 := Nat.mul_le_mul b1 h2
    have b4 : un a * va ≤ 60 ^ 7 * 6 := Nat.mul_le_mul b2 h4
    refine ⟨_, k_X8_setWorks (by omega) (Nat.mul_pos a4 h1) (by omega) (by omega), ?_⟩
    rintro τ rfl
    have hne : ∀ j, p j ≠ 0 → j ≠ b := fun j h z => h (by rw [z]; exact hpb)
    refine ⟨((SX.u (by decide) (by decide)).tr (SX.l (by decide))).tr (SX.l (by decide)), uN p b (K + 1), _, _, fun j hj => ?_, fun j hj hpj => ?_, LI_spread hv hL ha hb hpa (by omega) hpb hcn h1 h2 h3 h4 hE, Or.inl ⟨rfl, b, hb, hpb, rfl⟩⟩
    · rw [gw_ul_i, gw_ul_i]
      by_cases e : j = b
      · subst e; rw [uN_at, gw_u_at, nI_pred]; exact ⟨by omega, rfl⟩
      · rw [uN_ne _ _ e, gw_u_j _ _ _ e]; exact hP j hj
    · by_cases e : j = b
      · subst e
        rw [gw_ul_k _ _ _ (by decide), gw_ul_at, gw_ul_at, uN_at, uN_at]; exact ⟨rfl, rfl⟩
      · rw [uN_ne _ _ e] at hpj
        rw [uN_ne _ _ e, uN_ne _ _ e, gw_ul_k _ _ _ (by decide), gw_ul_j _ _ _ e, gw_ul_j _ _ _ e, gw_u_l, gw_ul_k _ _ _ (by decide), gw_u_l]
        exact hO j hj hpj
  have bk : (p (tO T w) = K + 1) → p (tF T w) = 0 → ∀ τ5 : gw_S, τ5 = gw_u σ 198 (tF T w) (nI K) → (vp_in ((26 + (5 * nI w)) + 3) 96 ∧ (vp_in ((26 + (5 * nI w)) + 2) 96 ∧ (∃ Φ8 : gw_S → Prop, gw_M x.2.1 G yX8_setWorks cX8_setWorks 8 none 1 [.ref (G.1 + 189), .int (nI (tF T w)), .long ((τ5.2 199 (tO T w)) * ((τ5.1 k (26 + 5 * w + 3)).toInt64)), .long ((τ5.2 200 (tO T w)) * ((τ5.1 k (26 + 5 * w + 2)).toInt64))] τ5 (fv Φ8) ∧ ∀ (τ9 : gw_S), Φ8 τ9 → (SX [198, 199, 200] [] σ τ9 ∧ ∃ p' ov' un', PF τ9 p' ∧ OF τ9 p' ov' un' ∧ LI T p' ov' un' rt ∧ ((true = true ∧ ∃ b, b < tM T ∧ p b = 0 ∧ p' = uN p b (K + 1)) ∨ (true = false ∧ p' = p ∧ (p (tF T w) = K + 1 → p (tO T w) ≠ 0) ∧ (p (tO T w) = K + 1 → p (tF T w) ≠ 0))))))) := by
    rintro h1 h2 τ5 rfl
    refine ⟨wv3 (by omega), wv2 (by omega), ?_⟩
    have ho := hO _ (Nat.lt_of_lt_of_le q2 h8) (by omega)
    rw [gw_u_l, gw_u_k _ _ _ hk8, ho.1, ho.2, r3, r4, nI_l (by omega), nI_l (by omega), lN_mul, lN_mul]
    exact go _ _ _ _ q2 q1 h1 h2 (cn.w hw).sy q5 q6 q3 q4 (fun e hE => (hE.2 w hw).symm)
  refine ⟨vp_in_nI (by omega) (by decide), fun hA => ⟨vp_in_nI (by omega) (by decide), fun hB => no (fun z => absurd z hA) (fun z => absurd z hB), fun hB => ⟨fun hA0 => no (fun z => absurd z hA) (fun _ => hA0), fun hA0 => bk hB hA0⟩⟩, fun hA => ⟨vp_in_nI (by omega) (by decide), fun hB0 => ⟨fun hB => no (fun _ => hB0) (fun z => absurd z hB), fun hB => ⟨fun hA0 => no (fun _ => hB0) (fun _ => hA0), fun hA0 => bk hB hA0⟩⟩, fun hB0 => ?_⟩⟩
  rintro τ5 rfl
  refine ⟨wv2 (by omega), wv3 (by omega), ?_⟩
  have ho := hO _ (Nat.lt_of_lt_of_le q1 h8) (by omega)
  rw [gw_u_l, gw_u_k _ _ _ hk8, ho.1, ho.2, r3, r4, nI_l (by omega), nI_l (by omega), lN_mul, lN_mul]
  exact go _ _ _ _ q1 q2 hA hB0 (cn.w hw) q3 q4 q5 q6 (fun e hE => hE.2 w hw)
end RF
