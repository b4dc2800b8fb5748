/-! the reference's calls: scripts, simulations, slots -/
section RC
variable {l : Launch} {G : gw_G} {σ : gw_S} {A : aS}
theorem k_X8_tenTo {n : Nat} (hn : n < 2 ^ 31) : gw_M l G yX8_tenTo cX8_tenTo 4 (some .long) 0 [.int (nI n)] σ (fl (fun r τ => r = lN (10 ^ n) ∧ τ = σ)) := by
  refine gw_met (by decide) (Nat.le_of_ble_eq_true rfl) (fun x C hR hT => sg_X8_tenTo_0 C hR hT _ σ ?_)
  have key : ∀ d k, k + d = n → PW x G 4 4 [(0, .int (nI n)), (1, .long (lN (10 ^ k))), (3, .int (nI k))] [] σ := by
    intro d
    induction d with
    | zero =>
      intro k hk
      refine sg_X8_tenTo_4 C hR hT _ _ _ σ ⟨fun _ => ⟨by rw [show k = n by omega], rfl⟩, fun q => absurd ?_ q⟩
      rw [nI_le_iff (by omega) (by omega)]; omega
    | succ d ih =>
      intro k hk
      refine sg_X8_tenTo_4 C hR hT _ _ _ σ ⟨fun q => ?_, fun _ => ?_⟩
      · rw [nI_le_iff (by omega) (by omega)] at q; omega
      · have := ih (k + 1) (by omega)
        rw [nI_1, show (10 : Int64) = lN 10 from rfl, lN_mul, ← Nat.pow_succ]
        exact this
  have := key n 0 (by omega)
  rw [Nat.pow_zero] at this
  exact this
theorem pw6 (k : Nat) : 10 ^ (6 * k) = 1000000 ^ k := Nat.pow_mul 10 6 k
theorem pw6_lt {k : Nat} (hk : k ≤ 3) : 1000000 ^ k < 2 ^ 63 := by
  rcases (show k = 0 ∨ k = 1 ∨ k = 2 ∨ k = 3 by omega) with h | h | h | h <;> (rw [h]; decide)
theorem g_runScript (h : MI σ A) (hv : VA A) (n : Int32) (v : Int64) : gw_M l G yX8_runScript cX8_runScript 6 (some .int) 7 [.ref (G.1 + 189), .int n, .long v] σ (fi (mA [2] (anScript A n v) σ)) := by
  refine gw_met (by decide) (Nat.le_of_ble_eq_true rfl) (fun x C hR hT => sg_X8_runScript_0 C hR hT _ _ σ ?_)
  have er : (if lg_cmp n.toInt64 1 < 0 then false else (if 0 < lg_cmp n.toInt64 3 then false else true : Bool) : Bool) = decide (rgI 1 3 n = 0) := rg_ref n (lo := 1) (hi := 3) (by decide) (by decide)
  rw [er, ifd]
  refine ⟨fun y => ?_, fun y => ?_⟩
  · have hF : anScript A n v = (2, 0, A) := by unfold anScript; rw [if_neg (of_decide_eq_false y)]
    exact rfE 1 rfl (by decide) (fun z τ4 h4 => absurd z (by decide)) (fun z τ4 h4 => mA_no h (by rw [hF]) (by rw [hF]; exact (by decide : mp [2] 2 ≠ 0)) (by rw [hF]; exact h4))
  have q : rgI 1 3 n = 0 := by
    by_cases q : rgI 1 3 n = 0
    · exact q
    · exact absurd (dcf q) y
  obtain ⟨k, hk1, hk, rfl⟩ := rgI_0 (lo := 1) (hi := 3) (by decide) (by decide) q
  rw [if_pos q, show (6 : Int32) * nI k = nI (6 * k) from pk_mul 6 k]
  refine ⟨_, k_X8_tenTo (by omega), ?_⟩
  rintro r τ5 ⟨rfl, e5⟩
  subst e5
  have hP0 : 0 < 1000000 ^ k := Nat.pow_pos (by decide)
  have hPb := pw6_lt hk
  rw [pw6, show (1 : Int64) = lN 1 from rfl, lN_sub (by omega)]
  refine rfE (mp [2] (anScript A (nI k) v).1) ?_ (mp_lt _ _ (by decide)) (fun z τ7 h7 => ?_) (fun z τ7 h7 => mA_no h ?_ z h7)
  · unfold anScript
    rw [if_pos q, gif (lg_cmp_lt v 0)]
    by_cases y0 : v < 0
    · rw [if_pos y0, if_pos y0]; rfl
    · rw [if_neg y0, if_neg y0]
      obtain ⟨a, ha, rfl⟩ := pk_lOf y0
      rw [gif (lg_cmp_gt _ _), gif (pk_lLT (by omega) ha), nI_clamp (by omega), lN_nn ha]
      by_cases y1 : a < 1000000 ^ k
      · rw [if_pos y1, if_neg (show ¬ 1000000 ^ k - 1 < a by omega)]; rfl
      · rw [if_neg y1, if_pos (show 1000000 ^ k - 1 < a by omega)]; rfl
  · have z' := mp_0 z
    have hq : ∃ a, a < 2 ^ 63 ∧ v = lN a ∧ a < 1000000 ^ k := by
      unfold anScript at z'
      rw [if_pos q] at z'
      by_cases y0 : v < 0
      · rw [if_pos y0] at z'; cases z'
      · rw [if_neg y0] at z'
        obtain ⟨a, ha, rfl⟩ := pk_lOf y0
        rw [nI_clamp (by omega), lN_nn ha] at z'
        by_cases y1 : a < 1000000 ^ k
        · exact ⟨a, ha, rfl, y1⟩
        · rw [if_neg y1] at z'; cases z'
    obtain ⟨a, ha, rfl, ha2⟩ := hq
    have y0 : ¬ lN a < 0 := by
      rw [show (0 : Int64) = lN 0 from rfl, pk_lLT ha (by decide)]; omega
    have ea : anScript A (nI k) (lN a) = (0, scF a k k 0 A.2.1, A) := by
      unfold anScript; rw [if_pos q, if_neg y0, nI_clamp (by omega), lN_nn ha, if_pos ha2]
    have m7 := h.u0 h7
    refine ⟨_, k_X8_tryIt m7.p hv.2.1, ?_⟩
    rintro τ9 ⟨S9, p9⟩
    generalize gz (decide (rgI 1 3 (nI k) = 0)) = v4
    have key : ∀ f i (T : pT) (τ : gw_S), i + f = k → RR (τ.1 193) T → VT T → SX SqR SqF τ7 τ → scF a k f i T = scF a k k 0 A.2.1 → PW x G 6 63 [(0, .ref (G.1 + 189)), (1, .int (nI k)), (2, .long (lN a)), (4, .int v4), (5, .int (nI i))] [] τ := by
      intro f
      induction f with
      | zero =>
        intro i T τ hi hp hvT hS he
        refine sg_X8_runScript_63 C hR hT _ _ _ _ τ ⟨fun _ => mA_q h h7 hS (by decide) (by rw [ea, ← he]; rfl), fun q => absurd ?_ q⟩
        rw [nI_le_iff (by omega) (by omega)]; omega
      | succ f ih =>
        intro i T τ hi hp hvT hS he
        have hPb2 := pw6_lt (k := k - 1 - i) (by omega)
        have hP2 : 0 < 1000000 ^ (k - 1 - i) := Nat.pow_pos (by decide)
        refine sg_X8_runScript_63 C hR hT _ _ _ _ τ ⟨fun q => ?_, fun _ => ?_⟩
        · rw [nI_le_iff (by omega) (by omega)] at q; omega
        rw [show (1 : Int32) = nI 1 from rfl, pk_sub (by omega), pk_sub (by omega), nI_add, show (6 : Int32) * nI (k - 1 - i) = nI (6 * (k - 1 - i)) from pk_mul 6 _]
        refine ⟨_, k_X8_tenTo (by omega), ?_⟩
        rintro r τ2 ⟨rfl, e2⟩
        subst e2
        rw [pw6, pk_lDiv ha hP2 hPb2, show (1000000 : Int64) = lN 1000000 from rfl, pk_lRem (Nat.lt_of_le_of_lt (Nat.div_le_self _ _) ha) (by decide) (by decide), lN_i]
        refine ⟨fun c => ?_, _, k_X8_does (g := a / 1000000 ^ (k - 1 - i) % 1000000) (Nat.lt_trans (Nat.mod_lt _ (by decide)) (by decide)) hp hvT, ?_⟩
        · rw [show (0 : Int64) = lN 0 from rfl, pk_lEQ hPb2 (by decide)] at c
          omega
        rintro b τ6 ⟨rfl, p6, S6⟩
        have S6' := hS.tr (S6.sq (by decide) (by decide))
        refine ⟨fun e => ?_, fun e => mA_q h h7 S6' (by decide) ?_⟩
        · exact ih (i + 1) _ τ6 (by omega) p6 (VT_g hvT _ _) S6' (by rw [← he, scF, if_pos (by simpa using e)])
        · rw [ea, ← he, scF, if_neg (by rw [e]; decide)]
    exact key k 0 A.2.1 τ9 (by omega) p9 hv.2.1 (S9.sq (by decide) (by decide)) rfl
  · unfold anScript
    rw [if_pos q]
    by_cases y0 : v < 0
    · rw [if_pos y0]
    · rw [if_neg y0]
      by_cases y1 : v.toInt.toNat < 1000000 ^ (nI k).toNatClampNeg
      · rw [if_pos y1]
      · rw [if_neg y1]
/-- the works of all modules together -/
def wS (T : pT) : Int32 := sI (tD T) (tM T)
theorem sI_up {f : Nat → Int32} {m : Nat} : ∀ n, sI (fun k => if k = m then f k + 1 else f k) n = if m < n then sI f n + 1 else sI f n
  | 0 => rfl
  | n + 1 => by
    rw [sI, sI, sI_up n]
    rcases Nat.lt_trichotomy m n with h | h | h
    · rw [if_pos h, if_neg (show ¬ n = m by omega), if_pos (show m < n + 1 by omega), Int32.add_assoc, Int32.add_assoc, Int32.add_comm 1]
    · rw [if_neg (show ¬ m < n by omega), if_pos h.symm, if_pos (show m < n + 1 by omega), Int32.add_assoc]
    · rw [if_neg (show ¬ m < n by omega), if_neg (show ¬ n = m by omega), if_neg (show ¬ m < n + 1 by omega)]
theorem wS_work {T : pT} {m : Nat} (hm : m < tM T) : wS (oWork T m) = wS T + 1 := by
  show sI (fun k => if k = m then tD T k + 1 else tD T k) (tM T) = sI (tD T) (tM T) + 1
  rw [sI_up, if_pos hm]
theorem wS_rQ {T : pT} {r : Nat} (hv : VT T) : ∀ t, t ≤ rL T r → wS (rQ T r t).1 = wS T + nI t
  | 0, _ => by
    show wS T = wS T + nI 0
    rw [nI_0, Int32.add_zero]
  | t + 1, ht => by
    have hn := rK_ok (r := r) (j := t) hv (by omega)
    have hI := rQ_I (r := r) (t := t) hv (by omega)
    obtain ⟨h1, h2, h3, h4⟩ := QI_n hI hn
    have e : rQ T r (t + 1) = qW (rQ T r t) (rK T r t) := qT_s hn
    rw [e]
    show wS (oWork (rQ T r t).1 (rK T r t)) = _
    rw [wS_work (by rw [hI.2.1]; exact h1), wS_rQ hv t (by omega), Int32.add_assoc, nI_1]
theorem wS_uT {T : pT} (hv : VT T) (j : Nat) : wS (uT T j).1 = wS T + nI (uT T j).2 := by
  have z : ∀ T' : pT, tM T' = tM T → tD T' = tD T → wS T' = wS T + nI 0 := fun T' h1 h2 => by
    unfold wS; rw [h1, h2, nI_0, Int32.add_zero]
  unfold uT
  split
  · refine z _ ?_ ?_
    · show tM (oTW T _ _ _ _ _) = _; unfold oTW; split <;> rfl
    · show tD (oTW T _ _ _ _ _) = _; unfold oTW; split <;> rfl
  · split
    · refine z _ ?_ ?_
      · show tM (oTC T _) = _; unfold oTC; split <;> rfl
      · show tD (oTC T _) = _; unfold oTC; split <;> rfl
    · split
      · show wS (oTR T (j / 512 % 3)) = wS T + nI (if tRB T (j / 512 % 3) = true then rL T (j / 512 % 3) else 0)
        unfold oTR
        by_cases e : tRB T (j / 512 % 3) = true
        · rw [if_pos e, if_pos e]
          exact wS_rQ hv _ (Nat.le_refl _)
        · rw [if_neg e, if_neg e]
          exact z _ rfl rfl
      · show wS (oTF T (j / 8 % 8)) = wS T + nI (if tfB T (j / 8 % 8) = true then 1 else 0)
        unfold oTF
        by_cases e : tfB T (j / 8 % 8) = true
        · rw [if_pos e, if_pos e]
          have : j / 8 % 8 < tM T := by
            unfold tfB at e; rw [Bool.and_eq_true] at e; exact of_decide_eq_true e.1
          exact wS_work this
        · rw [if_neg e, if_neg e]
          exact z _ rfl rfl
theorem mnI_j {n : Nat} (hn : n < 2 ^ 31) : (if nI n ≤ 999 then nI n else 999 : Int32) = nI (mnI n) := by
  rw [show (999 : Int32) = nI 999 from rfl, gif (nI_leI hn (by decide))]
  unfold mnI
  by_cases h : n ≤ 999
  · rw [if_pos h, if_neg (by omega)]
  · rw [if_neg h, if_pos (by omega)]
theorem g_simulate (h : MI σ A) (hv : VA A) (v : Int64) (m : Int32) : gw_M l G yX8_simulate cX8_simulate 8 (some .int) 7 [.ref (G.1 + 189), .long v, .int m] σ (fi (mA [2] (anSim A v m) σ)) := by
  refine gw_met (by decide) (Nat.le_of_ble_eq_true rfl) (fun x C hR hT => sg_X8_simulate_0 C hR hT _ _ σ ?_)
  have er : (if lg_cmp m.toInt64 1 < 0 then false else (if 0 < lg_cmp m.toInt64 99 then false else true : Bool) : Bool) = decide (rgI 1 99 m = 0) := rg_ref m (lo := 1) (hi := 99) (by decide) (by decide)
  rw [er, ifd]
  refine rfE (mp [2] (anSim A v m).1) ?_ (mp_lt _ _ (by decide)) (fun z τ1 h1 => ?_) (fun z τ1 h1 => mA_no h ?_ z h1)
  · unfold anSim
    by_cases z : rgI 1 99 m = 0
    · rw [if_pos z, if_pos z]; rfl
    · rw [if_neg z, if_neg z]; rfl
  · have q : rgI 1 99 m = 0 := by
      have z' := mp_0 z
      unfold anSim at z'
      by_cases q : rgI 1 99 m = 0
      · exact q
      · rw [if_neg q] at z'; cases z'
    obtain ⟨k, hk1, hk, rfl⟩ := rgI_0 (lo := 1) (hi := 99) (by decide) (by decide) q
    have ea : anSim A v (nI k) = (0, nI (1000 * mnI (smF k v (A.2.1, 0)).2 + mnI (sN (tH (smF k v (A.2.1, 0)).1) (tW (smF k v (A.2.1, 0)).1))), A) := by
      unfold anSim; rw [if_pos q, nI_clamp (by omega)]
    have m1 := h.u0 h1
    refine ⟨_, k_X8_tryIt m1.p hv.2.1, ?_⟩
    rintro τ3 ⟨S3, p3⟩
    have key : ∀ f i (y : Int64) (T : pT) (q : Nat) (τ : gw_S), i + f = k → q ≤ 480 * i → RR (τ.1 193) T → VT T → wS T = wS A.2.1 + nI q → SX SqR SqF τ1 τ → smF f y (T, q) = smF k v (A.2.1, 0) → PW x G 8 36 [(0, .ref (G.1 + 189)), (1, .long v), (3, .int (nI k)), (4, .long y), (6, .int (nI i))] [] τ := by
      intro f
      induction f with
      | zero =>
        intro i y T q τ hi hq hp hvT hw hS he
        have mm := m1.q hS (by decide)
        refine sg_X8_simulate_36 C hR hT _ _ _ _ τ ⟨fun _ => ⟨_, k_X8_works ia193 hp hvT, ?_⟩, fun q => absurd ?_ q⟩
        · rintro r τ2 ⟨rfl, e2⟩
          subst e2
          refine ⟨_, k_X8_works ia192 mm.p hv.2.1, ?_⟩
          rintro r τ5 ⟨rfl, e5⟩
          subst e5
          refine ⟨_, k_X8_marks ia193 hp hvT, ?_⟩
          rintro r τ8 ⟨rfl, e8⟩
          subst e8
          have h14 := hvT.2.1
          have b1 := sN_le (f := tH T) (c := 999) (tW T) (fun i hi => (hvT.2.2.2 i hi).2.2.2.2.2.2)
          have b2 : tW T * 999 ≤ 14 * 999 := Nat.mul_le_mul_right _ h14
          have hd : sI (tD T) (tM T) - sI (tD A.2.1) (tM A.2.1) = nI q := by
            show wS T - wS A.2.1 = nI q
            rw [hw, Int32.add_comm, Int32.add_sub_cancel]
          rw [hd, mnI_j (by omega), mnI_j (by omega), show (1000 : Int32) = nI 1000 from rfl, pk_mul, nI_add]
          exact mA_q h h1 hS (by decide) (by rw [ea, ← he, smF_0])
        · rw [nI_le_iff (by omega) (by omega)]; omega
      | succ f ih =>
        intro i y T q τ hi hq hp hvT hw hS he
        obtain ⟨j, hj, ej⟩ := shS_n (nxS y)
        have hM := k_X8_stir (l := xl x) (G := G) (n := j) hj hp hvT
        rw [← ej] at hM
        refine sg_X8_simulate_36 C hR hT _ _ _ _ τ ⟨fun q => ?_, fun _ => ⟨_, hM, ?_⟩⟩
        · rw [nI_le_iff (by omega) (by omega)] at q; omega
        rintro τ5 ⟨p5, S5⟩
        have hle := uT_le hvT j
        rw [nI_1]
        refine ih (i + 1) (nxS y) _ (q + (uT T j).2) τ5 (by omega) (by omega) p5 (VT_u hvT j) ?_ (hS.tr (S5.sq (by decide) (by decide))) ?_
        · rw [wS_uT hvT, hw, Int32.add_assoc, nI_add]
        · rw [← he, smF_s, ej, nI_clamp hj]
    exact key k 0 v A.2.1 0 τ3 (by omega) (by omega) p3 hv.2.1 (by rw [nI_0, Int32.add_zero]) (S3.sq (by decide) (by decide)) rfl
  · unfold anSim
    by_cases q : rgI 1 99 m = 0
    · rw [if_pos q]
    · rw [if_neg q]
theorem g_save (h : MI σ A) (hv : VA A) (s : Int32) : gw_M l G yX8_save cX8_save 2 (some .int) 1 [.ref (G.1 + 189), .int s] σ (fi (mA [1] (anSave A s) σ)) := by
  refine gw_met (by decide) (Nat.le_of_ble_eq_true rfl) (fun x C hR hT => sg_X8_save_0 C hR hT _ σ ?_)
  rw [sl_ref, ifd]
  refine rfE (mp [1] (anSave A s).1) ?_ (mp_lt _ _ (by decide)) (fun z τ1 h1 => ?_) (fun z τ1 h1 => mA_no h ?_ z h1)
  · unfold anSave
    by_cases z : slF s = 0
    · rw [if_pos z, if_pos z]; rfl
    · rw [if_neg z, if_neg z]; rfl
  · have q : slF s = 0 := by
      have z' := mp_0 z
      unfold anSave at z'
      by_cases q : slF s = 0
      · exact q
      · rw [if_neg q] at z'; cases z'
    obtain ⟨j, hj, rfl⟩ := slF_0 q
    rw [show (96 : Int32) * nI j = nI (96 * j) from pk_mul 96 j]
    refine ⟨_, k_X8_copy ia192 ia195 (a := 0) (n := 96) (by decide) (by omega) (by decide) (by decide) (fun z => absurd z (by decide)), ?_⟩
    intro τ3 t3
    refine ⟨vp_in_nI hj (by decide), ?_⟩
    intro τ5 t5
    rw [nI_clamp (by omega)] at t5
    obtain ⟨a1, a2, a3⟩ := uk t5
    obtain ⟨d1, d2, d3⟩ := uk h1
    have S5 : SX [195, 196] [0] σ τ5 := ((uS189 h1 (by decide)).tr (by rw [t3]; exact SX.r (by decide) (by decide))).tr (uSk t5 (by decide) (by decide))
    have r195 : τ5.1 195 = va_cpy (σ.1 192) (σ.1 195) 0 (96 * j) 96 := by rw [a1 195 (by decide), t3, gw_r_at, d1 192 (by decide), d1 195 (by decide)]
    have r196 : τ5.1 196 = upd (σ.1 196) j 1 := by rw [a2, t3, gw_r_ne _ _ (by decide), d1 196 (by decide)]
    refine mA_y (A' := (A.1, A.2.1, A.2.2.1, A.2.2.2.1, fun i => if i = j then some A.2.1 else A.2.2.2.2 i)) ?_ (by rw [a1 189 (by decide), t3, gw_r_ne _ _ (by decide), d2, pk_us]) ⟨h.1.sx S5 (by decide) (by decide), by rw [S5.row (by decide) (by decide)]; exact h.p, by rw [S5.2.2 10 (by decide)]; exact h.2.2.1, fun i hi => by rw [S5.row (by decide) (by decide)]; exact h.2.2.2.1 i hi, fun s hs => ?_⟩ (S5.km (fun k hk => by simp at hk; omega))
    · unfold anSave; rw [if_pos q, nI_clamp (by omega), gc1, S5.row (by decide) (by decide), h.p.2.1]
    · show τ5.1 196 s = gz (if s = j then some A.2.1 else A.2.2.2.2 s).isSome ∧ ∀ U, (if s = j then some A.2.1 else A.2.2.2.2 s) = some U → RR (fun i => τ5.1 195 (96 * s + i)) U
      by_cases y : s = j
      · rw [if_pos y]
        refine ⟨by rw [r196, y, pk_us]; rfl, fun U hU => ?_⟩
        cases hU
        rw [r195, y]
        exact RR_cong h.p hv.2.1 (fun i hi => by rw [pk_cpy_in (by omega) (by omega), show 0 + (96 * j + i - 96 * j) = i by omega])
      · rw [if_neg y]
        refine ⟨by rw [r196, pk_un y]; exact (h.2.2.2.2 s hs).1, fun U hU => ?_⟩
        rw [r195]
        exact RR_cong ((h.2.2.2.2 s hs).2 U hU) (hv.2.2.2.2 s hs U hU) (fun i hi => by rw [pk_cpy_out (by omega)])
  · unfold anSave
    by_cases q : slF s = 0
    · exact absurd (by unfold anSave; rw [if_pos q]; rfl) z
    · rw [if_neg q]
theorem g_restore (h : MI σ A) (hv : VA A) (s : Int32) : gw_M l G yX8_restore cX8_restore 2 (some .int) 1 [.ref (G.1 + 189), .int s] σ (fi (mA [1, 3] (anRestore A s) σ)) := by
  refine gw_met (by decide) (Nat.le_of_ble_eq_true rfl) (fun x C hR hT => sg_X8_restore_0 C hR hT _ σ ?_)
  rw [sl_ref, ifd]
  by_cases q : slF s = 0
  · obtain ⟨j, hj, rfl⟩ := slF_0 q
    refine ⟨⟨fun _ => ⟨vp_in_nI hj (by decide), trivial⟩, fun _ => trivial⟩, ?_⟩
    rw [if_pos q, nI_clamp (by omega), (h.2.2.2.2 j hj).1]
    have ea : anRestore A (nI j) = (match A.2.2.2.2 j with
      | none => (3, 0, A)
      | some U => (0, nI (tW U), (A.1, U, A.2.2.1, 0, A.2.2.2.2))) := by
      unfold anRestore; rw [if_pos q, nI_clamp (by omega)] <;> rfl
    cases y : A.2.2.2.2 j with
    | none =>
      rw [y] at ea
      exact rfE 2 rfl (by decide) (fun z τ4 h4 => absurd z (by decide)) (fun z τ4 h4 => mA_no h (by rw [ea]) (by rw [ea]; exact (by decide : mp [1, 3] 3 ≠ 0)) (by rw [ea]; exact h4))
    | some U =>
      rw [y] at ea
      refine rfE 0 rfl (by decide) (fun z τ1 h1 => ?_) (fun z τ1 h1 => absurd rfl z)
      rw [show (96 : Int32) * nI j = nI (96 * j) from pk_mul 96 j]
      refine ⟨_, k_X8_copy ia195 ia192 (c := 0) (n := 96) (by omega) (by decide) (by decide) (by decide) (fun z => absurd z (by decide)), ?_⟩
      intro τ4 t4 τ5 t5
      obtain ⟨a1, a2, a3⟩ := uk t5
      obtain ⟨d1, d2, d3⟩ := uk h1
      have S5 : SX [192] [0, 10] σ τ5 := ((uS189 h1 (by decide)).tr (by rw [t4]; exact SX.r (by decide) (by decide))).tr (uS189 t5 (by decide))
      have p5 : RR (τ5.1 192) U := by
        rw [a1 192 (by decide), t4, gw_r_at, d1 195 (by decide)]
        exact RR_cong ((h.2.2.2.2 j hj).2 U y) (hv.2.2.2.2 j hj U y) (fun i hi => by rw [pk_cpy_in (by omega) (by omega), show 96 * j + (i - 0) = 96 * j + i by omega])
      have f5 : τ5.1 189 = upd (upd (σ.1 189) 0 0) 10 0 := by rw [a2, t4, gw_r_ne _ _ (by decide), d2]
      refine mA_y (A' := (A.1, U, A.2.2.1, 0, A.2.2.2.2)) ?_ (by rw [f5, pk_un (by decide), pk_us]) ⟨h.1.sx S5 (by decide) (by decide), p5, by rw [f5, pk_us]; rfl, fun i hi => absurd hi (Nat.not_lt_zero i), fun s hs => ⟨by rw [S5.row (by decide) (by decide)]; exact (h.2.2.2.2 s hs).1, fun U' hU => by rw [S5.row (by decide) (by decide)]; exact (h.2.2.2.2 s hs).2 U' hU⟩⟩ (S5.km (fun k hk => by simp at hk; omega))
      rw [ea, gc1, p5.2.1]
  · have hF : anRestore A s = (1, 0, A) := by unfold anRestore; rw [if_neg q]
    refine ⟨⟨fun w => absurd (dcf q) w, fun _ => trivial⟩, ?_⟩
    rw [if_neg q]
    exact rfE 1 rfl (by decide) (fun z τ4 h4 => absurd z (by decide)) (fun z τ4 h4 => mA_no h (by rw [hF]) (by rw [hF]; exact (by decide : mp [1, 3] 1 ≠ 0)) (by rw [hF]; exact h4))
end RC
