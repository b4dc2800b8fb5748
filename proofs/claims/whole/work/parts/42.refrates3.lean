/-! the reference's works of a round -/
theorem alF_cong {p p' un : Nat → Nat} {q : Nat} : ∀ i, (∀ m, m < i → p m = p' m) → alF p un q i = alF p' un q i
  | 0, _ => rfl
  | i + 1, h => by rw [alF, alF, h i (by omega), alF_cong i (fun m hm => h m (by omega))]
section RF
variable {l : Launch} {G : gw_G} {σ : gw_S} {T : pT}
theorem k_X8_layWorks {k : Nat} (hk : gw_ia k 96) (hp : RR (σ.1 k) T) (hv : VT T) : gw_M l G yX8_layWorks cX8_layWorks 11 (some .boolean) 4 [.ref (G.1 + 189), .ref (G.1 + k)] σ (fz (fun r τ => r = agB T ∧ SX [197, 198, 199, 200] [15] σ τ ∧ τ.1 189 15 = nI (cN (rtB T) (tM T)) ∧ ∀ d, DU T d → ∀ m, m < tM T → τ.1 197 m = nI (d m))) := by
  have h8 := hv.1
  have h14 := hv.2.1
  obtain ⟨hne, hn9⟩ := ia_ne hk
  refine gw_met (by decide) (Nat.le_of_ble_eq_true rfl) (fun x C hR hT => sg_X8_layWorks_0 C hR hT k hk σ ⟨_, k_X8_layParts hk hp hv, ?_⟩)
  rintro τ ⟨rt, p, ov, un, k1, k2, k3, k4, k5, -, k7, k8, k9⟩
  have hK8 := cN_le (rtB T) (tM T)
  generalize hKe : cN (rtB T) (tM T) = K at *
  have F : FA T p ov un rt := ⟨k4, fun m hm => (k9 m hm).mpr ⟨m, hm, cn.rf⟩, k8⟩
  have k1' : SX [197, 198, 199, 200] [15] σ τ := k1.mono (fun _ h => List.mem_cons_of_mem _ h) (fun _ h => h)
  have hrow : τ.1 k = σ.1 k := k1'.1 k hne hn9
  have part : ∀ m, m < tM T → τ.1 198 m = nI (p m) - 1 ∧ p m ≤ 8 := fun m hm => ⟨(k2 m (by omega)).2, (k2 m (by omega)).1⟩
  have frac : ∀ m, m < tM T → τ.2 199 m = lN (ov m) ∧ τ.2 200 m = lN (un m) := fun m hm => k3 m (by omega) (F.nz m hm)
  -- the last loop: works
  have works : (∀ w, w < tW T → ov (tF T w) * tC T w * un (tO T w) = ov (tO T w) * tV T w * un (tF T w)) → PW x G 11 93 [(0, .ref (G.1 + 189)), (1, .ref (G.1 + k)), (2, .int (gz true)), (3, .int 0)] [] τ := by
    intro hx
    obtain ⟨ag1, ag2⟩ := F.agree hv hx
    have main : ∀ d q, q + d = K → ∀ (g : Nat → Int32) (v2 : Bool), (v2 = true ↔ ∀ m, m < tM T → p m ≤ q → dF p ov un (tM T) m ≤ 60) → (∀ m, m < tM T → p m ≤ q → g m = nI (if dF p ov un (tM T) m ≤ 60 then dF p ov un (tM T) m else 0)) → PW x G 11 93 [(0, .ref (G.1 + 189)), (1, .ref (G.1 + k)), (2, .int (gz v2)), (3, .int (nI q))] [] (gw_r τ 197 g) := by
      intro d
      induction d with
      | zero =>
        intro q hq g v2 hv2 hg
        refine sg_X8_layWorks_93 C hR hT k hk _ _ _ ⟨fun _ => ⟨?_, k1'.tr (SX.r (by decide) (by decide)), by rw [gw_r_ne _ _ (by decide)]; exact k5, fun dd hdd m hm => ?_⟩, fun z => absurd ?_ z⟩
        · have hall : ∀ m, m < tM T → p m ≤ q := fun m hm => by have := k7 m (by omega); omega
          have e : v2 = true ↔ agB T = true := by
            rw [hv2, agB_t, ag1]
            exact ⟨fun h m hm => h m hm (hall m hm), fun h m hm _ => h m hm⟩
          cases v2 <;> cases h : agB T
          · rfl
          · rw [h] at e; simp at e
          · rw [h] at e; simp at e
          · rfl
        · have := k7 m (by omega)
          rw [gw_r_at, hg m hm (by omega), ag2 dd hdd m hm, if_pos (hdd.2.2 m hm)]
        · rw [gw_r_ne _ _ (by decide), k5, nI_le_iff (by omega) (by omega)]; omega
      | succ d ih =>
        intro q hq g v2 hv2 hg
        refine sg_X8_layWorks_93 C hR hT k hk _ _ _ ⟨fun z => ?_, fun _ => ?_⟩
        · rw [gw_r_ne _ _ (by decide), k5, nI_le_iff (by omega) (by omega)] at z; omega
        · obtain ⟨A1, A2, A3⟩ := F.A (q + 1) (tM T) (Nat.le_refl _)
          obtain ⟨s1, s2⟩ := shF_ok (p := p) (y := yF ov un (alF p un (q + 1) (tM T))) (q := q + 1) (tM T)
          have Ale : alF p un (q + 1) (tM T) ≤ 60 ^ 7 := Nat.le_of_dvd (Nat.pow_pos (by decide)) A1
          have yb : ∀ m, m < tM T → p m = q + 1 → 0 < yF ov un (alF p un (q + 1) (tM T)) m ∧ yF ov un (alF p un (q + 1) (tM T)) m ≤ 6 ^ 7 * 60 ^ 7 := fun m hm e => F.y hm A1 A2 (A3 m hm e)
          have uu : ∀ m, m < tM T → 0 < un m ∧ un m ≤ 60 ^ 7 := fun m hm => ⟨(F.b hm).2.1, Nat.le_of_dvd (Nat.pow_pos (by decide)) (F.b hm).2.2.2⟩
          have hN : (6 : Nat) ^ 7 * 60 ^ 7 < 2 ^ 63 := by decide
          have yv : ∀ m, m < tM T → p m = q + 1 → ∀ z : gw_S, z.2 = τ.2 → (z.2 199 m) * ((lN (alF p un (q + 1) (tM T))) / (z.2 200 m)) = lN (yF ov un (alF p un (q + 1) (tM T)) m) := fun m hm e z hz => by
            rw [hz, (frac m hm).1, (frac m hm).2, pk_lDiv (by omega) (uu m hm).1 (by have := (uu m hm).2; omega), lN_mul]; rfl
          have dv : ∀ m, m < tM T → p m = q + 1 → yF ov un (alF p un (q + 1) (tM T)) m / shF p (yF ov un (alF p un (q + 1) (tM T))) (q + 1) (tM T) = dF p ov un (tM T) m := fun m hm e => by
            unfold dF; rw [e]
          have shb : ∀ i, i ≤ tM T → shF p (yF ov un (alF p un (q + 1) (tM T))) (q + 1) i ≤ 6 ^ 7 * 60 ^ 7 := by
            intro i
            induction i with
            | zero => intro _; exact Nat.zero_le _
            | succ i ihh =>
              intro hi
              rw [shF]
              split
              · next e => exact Nat.le_trans (Nat.le_of_dvd (yb i (by omega) e).1 (Nat.gcd_dvd_left _ _)) (yb i (by omega) e).2
              · exact ihh (by omega)
          have third : ∀ d m, m + d = tM T → ∀ (g' : Nat → Int32) (v2' : Bool), (v2' = true ↔ ∀ j, j < tM T → (p j ≤ q ∨ (p j = q + 1 ∧ j < m)) → dF p ov un (tM T) j ≤ 60) → (∀ j, j < tM T → (p j ≤ q ∨ (p j = q + 1 ∧ j < m)) → g' j = nI (if dF p ov un (tM T) j ≤ 60 then dF p ov un (tM T) j else 0)) → PW x G 11 226 [(0, .ref (G.1 + 189)), (1, .ref (G.1 + k)), (2, .int (gz v2')), (3, .int (nI q)), (4, .long (lN (alF p un (q + 1) (tM T)))), (6, .long (lN (shF p (yF ov un (alF p un (q + 1) (tM T))) (q + 1) (tM T)))), (8, .int (nI m))] [] (gw_r τ 197 g') := by
            intro d
            induction d with
            | zero =>
              intro m hm g' v2' hv2' hg'
              refine sg_X8_layWorks_226 C hR hT k hk _ _ _ _ _ _ ⟨fun _ => ?_, fun z => absurd ?_ z⟩
              · rw [nI_1]
                refine ih (q + 1) (by omega) g' v2' (hv2'.trans ⟨fun h j hj hpj => h j hj ?_, fun h j hj hpj => h j hj (by omega)⟩) (fun j hj hpj => hg' j hj ?_) <;> omega
              · rw [gc0, gw_r_ne _ _ (fun z => hne (by rw [z]; decide)), hrow, hp.1, nI_le_iff (by omega) (by omega)]; omega
            | succ d ih3 =>
              intro m hm g' v2' hv2' hg'
              refine sg_X8_layWorks_226 C hR hT k hk _ _ _ _ _ _ ⟨fun z => ?_, fun _ => ⟨vp_in_nI (by omega) (by decide), ?_⟩⟩
              · rw [gc0, gw_r_ne _ _ (fun z => hne (by rw [z]; decide)), hrow, hp.1, nI_le_iff (by omega) (by omega)] at z; omega
              · have hmT : m < tM T := by omega
                rw [nI_clamp (by omega), gw_r_ne _ _ (by decide), (part m hmT).1, sh_eq _ (by have := (part m hmT).2; omega) _ (by omega), nI_1]
                refine ⟨fun e => ih3 (m + 1) (by omega) g' v2' (hv2'.trans ⟨fun h j hj hpj => h j hj ?_, fun h j hj hpj => h j hj (by omega)⟩) (fun j hj hpj => hg' j hj ?_), fun e => ?_⟩
                · rcases hpj with h1 | ⟨h1, h2⟩
                  · exact Or.inl h1
                  · exact Or.inr ⟨h1, by by_cases z : j = m; · subst z; exact absurd h1 e
                                         · omega⟩
                · rcases hpj with h1 | ⟨h1, h2⟩
                  · exact Or.inl h1
                  · exact Or.inr ⟨h1, by by_cases z : j = m; · subst z; exact absurd h1 e
                                         · omega⟩
                · have spos := Nat.pos_of_dvd_of_pos (s1 m hmT e) (yb m hmT e).1
                  have sle := shb (tM T) (Nat.le_refl _)
                  have hyb := yb m hmT e
                  have hu := uu m hmT
                  rw [yv m hmT e _ (gw_r_l _ _ _), pk_lDiv (by omega) spos (by omega), dv m hmT e, gw_r_l, (frac m hmT).2]
                  have hdle : dF p ov un (tM T) m < 2 ^ 63 := by rw [← dv m hmT e]; exact Nat.lt_of_le_of_lt (Nat.div_le_self _ _) (by omega)
                  have hcmp : (0 < lg_cmp (lN (dF p ov un (tM T) m)) 60) = (60 < dF p ov un (tM T) m) := by
                    rw [propext (lg_cmp_gt _ _), show (60 : Int64) = lN 60 from rfl, propext (pk_lLT (by omega) hdle)]
                  refine ⟨by rw [show (0 : Int64) = lN 0 from rfl, pk_lEQ (by omega) (by omega)]; omega, by rw [show (0 : Int64) = lN 0 from rfl, pk_lEQ (by omega) (by omega)]; omega, ?_⟩
                  rintro τ4 rfl
                  rw [gw_u_r, lN_i]
                  have eg : (if v2' = false then false else (if 0 < lg_cmp (lN (dF p ov un (tM T) m)) 60 then false else true : Bool) : Bool) = (v2' && decide (dF p ov un (tM T) m ≤ 60)) := by
                    cases v2'
                    · rfl
                    · rw [if_neg (by decide), Bool.true_and]
                      by_cases z : dF p ov un (tM T) m ≤ 60
                      · rw [if_neg (by rw [hcmp]; omega)]; simp [z]
                      · rw [if_pos (by rw [hcmp]; omega)]; simp [z]
                  have ev : (if 0 < lg_cmp (lN (dF p ov un (tM T) m)) 60 then 0 else nI (dF p ov un (tM T) m) : Int32) = nI (if dF p ov un (tM T) m ≤ 60 then dF p ov un (tM T) m else 0) := by
                    by_cases z : dF p ov un (tM T) m ≤ 60
                    · rw [if_neg (by rw [hcmp]; omega), if_pos z]
                    · rw [if_pos (by rw [hcmp]; omega), if_neg z]; rfl
                  rw [eg, ev]
                  refine ih3 (m + 1) (by omega) _ _ ?_ (fun j hj hpj => ?_)
                  · rw [Bool.and_eq_true, hv2', decide_eq_true_eq]
                    constructor
                    · rintro ⟨h1, h2⟩ j hj hpj
                      by_cases z : j = m
                      · rw [z]; exact h2
                      · exact h1 j hj (by omega)
                    · intro h
                      exact ⟨fun j hj hpj => h j hj (by omega), h m hmT (by omega)⟩
                  · by_cases z : j = m
                    · rw [z, pk_us]
                    · rw [pk_un z]; exact hg' j hj (by omega)
          have second : ∀ d m, m + d = tM T → PW x G 11 168 [(0, .ref (G.1 + 189)), (1, .ref (G.1 + k)), (2, .int (gz v2)), (3, .int (nI q)), (4, .long (lN (alF p un (q + 1) (tM T)))), (6, .long (lN (shF p (yF ov un (alF p un (q + 1) (tM T))) (q + 1) m))), (8, .int (nI m))] [] (gw_r τ 197 g) := by
            intro d
            induction d with
            | zero =>
              intro m hm
              refine sg_X8_layWorks_168 C hR hT k hk _ _ _ _ _ _ ⟨fun _ => ?_, fun z => absurd ?_ z⟩
              · rw [show m = tM T by omega]
                refine third (tM T) 0 (by omega) g v2 (hv2.trans ⟨fun h j hj hpj => h j hj (by omega), fun h j hj hpj => h j hj (by omega)⟩) (fun j hj hpj => hg j hj (by omega))
              · rw [gc0, gw_r_ne _ _ (fun z => hne (by rw [z]; decide)), hrow, hp.1, nI_le_iff (by omega) (by omega)]; omega
            | succ d ih2 =>
              intro m hm
              have hmT : m < tM T := by omega
              refine sg_X8_layWorks_168 C hR hT k hk _ _ _ _ _ _ ⟨fun z => ?_, fun _ => ⟨vp_in_nI (by omega) (by decide), ?_⟩⟩
              · rw [gc0, gw_r_ne _ _ (fun z => hne (by rw [z]; decide)), hrow, hp.1, nI_le_iff (by omega) (by omega)] at z; omega
              · have := ih2 (m + 1) (by omega)
                have hu := uu m hmT
                have sb := shb m (by omega)
                rw [nI_clamp (by omega), gw_r_ne _ _ (by decide), (part m hmT).1, sh_eq _ (by have := (part m hmT).2; omega) _ (by omega), nI_1]
                rw [shF] at this
                refine ⟨fun e => by rw [if_neg e] at this; exact this, fun e => ?_⟩
                rw [if_pos e] at this
                have hyb := yb m hmT e
                rw [yv m hmT e _ (gw_r_l _ _ _)]
                refine ⟨by rw [gw_r_l, (frac m hmT).2, show (0 : Int64) = lN 0 from rfl, pk_lEQ (by omega) (by omega)]; omega, _, k_X8_divisor (by omega) (by omega), ?_⟩
                rintro r τ4 ⟨rfl, rfl⟩
                exact this
          have first : ∀ d m, m + d = tM T → PW x G 11 110 [(0, .ref (G.1 + 189)), (1, .ref (G.1 + k)), (2, .int (gz v2)), (3, .int (nI q)), (4, .long (lN (alF p un (q + 1) m))), (6, .long 0), (8, .int (nI m))] [] (gw_r τ 197 g) := by
            intro d
            induction d with
            | zero =>
              intro m hm
              refine sg_X8_layWorks_110 C hR hT k hk _ _ _ _ _ _ ⟨fun _ => ?_, fun z => absurd ?_ z⟩
              · rw [show m = tM T by omega]; exact second (tM T) 0 (by omega)
              · rw [gc0, gw_r_ne _ _ (fun z => hne (by rw [z]; decide)), hrow, hp.1, nI_le_iff (by omega) (by omega)]; omega
            | succ d ih1 =>
              intro m hm
              have hmT : m < tM T := by omega
              refine sg_X8_layWorks_110 C hR hT k hk _ _ _ _ _ _ ⟨fun z => ?_, fun _ => ⟨vp_in_nI (by omega) (by decide), ?_⟩⟩
              · rw [gc0, gw_r_ne _ _ (fun z => hne (by rw [z]; decide)), hrow, hp.1, nI_le_iff (by omega) (by omega)] at z; omega
              · have := ih1 (m + 1) (by omega)
                have hu := uu m hmT
                obtain ⟨B1, B2, -⟩ := F.A (q + 1) m (by omega)
                have Ble := Nat.le_of_dvd (Nat.pow_pos (by decide)) B1
                rw [nI_clamp (by omega), gw_r_ne _ _ (by decide), (part m hmT).1, sh_eq _ (by have := (part m hmT).2; omega) _ (by omega), nI_1]
                rw [alF] at this
                refine ⟨fun e => by rw [if_neg e] at this; exact this, fun e => ?_⟩
                rw [if_pos e] at this
                rw [gw_r_l, (frac m hmT).2]
                refine ⟨_, k_X8_divisor (by omega) (by omega), ?_⟩
                rintro r τ4 ⟨rfl, rfl⟩
                have gp := Nat.gcd_pos_of_pos_left (un m) B2
                have gl := Nat.le_of_dvd B2 (Nat.gcd_dvd_left (alF p un (q + 1) m) (un m))
                rw [gw_r_l, (frac m hmT).2, pk_lDiv (by omega) gp (by omega), lN_mul]
                exact ⟨by rw [show (0 : Int64) = lN 0 from rfl, pk_lEQ (by omega) (by omega)]; omega, this⟩
          exact first (tM T) 0 (by omega)
    have := main K 0 (by omega) (τ.1 197) true ⟨fun _ m hm h => absurd (Nat.le_zero.mp h) (F.nz m hm), fun _ => rfl⟩ (fun m hm h => absurd (Nat.le_zero.mp h) (F.nz m hm))
    rw [gw_r_self] at this
    exact this
  have check : ∀ d i, i + d = tW T → (∀ w, w < i → ov (tF T w) * tC T w * un (tO T w) = ov (tO T w) * tV T w * un (tF T w)) → PW x G 11 7 [(0, .ref (G.1 + 189)), (1, .ref (G.1 + k)), (2, .int (nI i))] [] τ := by
    intro d
    induction d with
    | zero =>
      intro i hi hx
      refine sg_X8_layWorks_7 C hR hT k hk _ _ ⟨fun _ => works (fun w hw => hx w (by omega)), fun z => absurd ?_ z⟩
      rw [gc1, hrow, hp.2.1, nI_le_iff (by omega) (by omega)]; omega
    | succ d ih =>
      intro i hi hx
      have hiT : i < tW T := by omega
      obtain ⟨r1, r2, r3, r4, r5⟩ := hp.2.2.2 i hiT
      obtain ⟨q1, q2, q3, q4, q5, q6, q7⟩ := hv.2.2.2 i hiT
      have f1 : σ.1 k (26 + 5 * i + 0) = nI (tF T i) := r1
      refine sg_X8_layWorks_7 C hR hT k hk _ _ ⟨fun z => ?_, fun _ => ⟨wv0 (by omega), wv1 (by omega), ?_⟩⟩
      · rw [gc1, hrow, hp.2.1, nI_le_iff (by omega) (by omega)] at z; omega
      · have ba := F.b q1
        have bb := F.b q2
        have ua := Nat.le_of_dvd (Nat.pow_pos (by decide)) ba.2.2.2
        have ub := Nat.le_of_dvd (Nat.pow_pos (by decide)) bb.2.2.2
        have m1 : ov (tF T i) * tC T i * un (tO T i) ≤ 6 ^ 7 * 6 * 60 ^ 7 := Nat.mul_le_mul (Nat.mul_le_mul ba.2.2.1 q4) ub
        have m2 : ov (tO T i) * tV T i * un (tF T i) ≤ 6 ^ 7 * 6 * 60 ^ 7 := Nat.mul_le_mul (Nat.mul_le_mul bb.2.2.1 q6) ua
        have hN : (6 : Nat) ^ 7 * 6 * 60 ^ 7 < 2 ^ 63 := by decide
        rw [wc0 (by omega), wc1 (by omega), wc2 (by omega), wc3 (by omega), hrow, f1, r2, r3, r4, nI_clamp (by omega), nI_clamp (by omega), (frac _ q1).1, (frac _ q1).2, (frac _ q2).1, (frac _ q2).2, nI_l (by omega), nI_l (by omega), lN_mul, lN_mul, lN_mul, lN_mul, propext (lg_cmp_eq _ _), propext (pk_lEQ (Nat.lt_of_le_of_lt m1 hN) (Nat.lt_of_le_of_lt m2 hN)), nI_1]
        refine ⟨vp_in_nI (by omega) (by decide), wv2 (by omega), vp_in_nI (by omega) (by decide), wv3 (by omega), fun e => ih (i + 1) (by omega) (fun w hw => ?_), fun e => ⟨(agB_f.mpr (F.no hv hiT e)).symm, k1', k5, fun d hd => absurd ⟨d, hd⟩ (F.no hv hiT e)⟩⟩
        by_cases ew : w = i
        · subst ew; exact e
        · exact hx w (by omega)
  exact check (tW T) 0 (by omega) (fun w hw => absurd hw (Nat.not_lt_zero w))
theorem k_X8_dueTogether {D : Nat → Nat} (hp : RR (σ.1 192) T) (hv : VT T) (hD : ∀ i, i < tM T → σ.1 197 i = nI (D i)) : gw_M l G yX8_dueTogether cX8_dueTogether 3 (some .int) 0 [.ref (G.1 + 189)] σ (fi (fun q τ => q = nI (sN D (tM T)) ∧ τ = σ)) := by
  have h8 := hv.1
  refine gw_met (by decide) (Nat.le_of_ble_eq_true rfl) (fun x C hR hT => sg_X8_dueTogether_0 C hR hT σ ?_)
  have key : ∀ n i, i + n = tM T → PW x G 3 4 [(0, .ref (G.1 + 189)), (1, .int (nI (sN D i))), (2, .int (nI i))] [] σ := by
    intro n
    induction n with
    | zero =>
      intro i hi
      refine sg_X8_dueTogether_4 C hR hT _ _ σ ⟨fun _ => ⟨by rw [show i = tM T by omega], rfl⟩, fun q => absurd ?_ q⟩
      rw [gc0, hp.1, nI_le_iff (by omega) (by omega)]; omega
    | succ n ih =>
      intro i hi
      refine sg_X8_dueTogether_4 C hR hT _ _ σ ⟨fun q => ?_, fun _ => ⟨vp_in_nI (by omega) (by decide), ?_⟩⟩
      · rw [gc0, hp.1, nI_le_iff (by omega) (by omega)] at q; omega
      · rw [nI_clamp (by omega), hD i (by omega), nI_add, nI_1]; exact ih (i + 1) (by omega)
  exact key (tM T) 0 (by omega)
end RF
