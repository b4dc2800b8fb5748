/-! the reference's calls: refusals, remembering, text, questions -/
section RC
variable {l : Launch} {G : gw_G} {σ : gw_S} {A : aS}
theorem rg_ref (v : Int32) {lo hi : Nat} (h1 : lo < 2 ^ 31) (h2 : hi < 2 ^ 31) : (if lg_cmp v.toInt64 (lN lo) < 0 then false else (if 0 < lg_cmp v.toInt64 (lN hi) then false else true : Bool) : Bool) = decide (rgI (nI lo) (nI hi) v = 0) := by
  rw [rngI v h1 h2]
  unfold iR rgI
  by_cases e1 : v < nI lo
  · rw [if_pos e1, if_pos e1]; rfl
  · rw [if_neg e1, if_neg e1]
    by_cases e2 : v ≤ nI hi
    · rw [if_neg (Int32.not_lt.mpr e2), if_pos e2]; rfl
    · rw [if_pos (Int32.not_le.mp e2), if_neg e2]; rfl
theorem md_ref (v : Int32) {T : pT} (hv : VT T) : (if lg_cmp v.toInt64 0 < 0 then false else (if 0 < lg_cmp v.toInt64 ((nI (tM T) - 1).toInt64) then false else true : Bool) : Bool) = decide (mdF T v = 0) := by
  have h8 := hv.1
  rw [iM_ref v (by omega)]
  unfold mdF
  cases iM (tM T) v <;> rfl
theorem wr_ref (v : Int32) {T : pT} (hv : VT T) : (if lg_cmp v.toInt64 0 < 0 then false else (if 0 < lg_cmp v.toInt64 ((nI (tW T) - 1).toInt64) then false else true : Bool) : Bool) = decide (wrF T v = 0) := by
  have h14 := hv.2.1
  rw [iM_ref v (by omega)]
  unfold wrF
  cases iM (tW T) v <;> rfl
theorem sl_ref (v : Int32) : (if lg_cmp v.toInt64 0 < 0 then false else (if 0 < lg_cmp v.toInt64 1 then false else true : Bool) : Bool) = decide (slF v = 0) := by
  refine (rg_ref v (lo := 0) (hi := 1) (by decide) (by decide)).trans ?_
  unfold rgI slF
  by_cases e1 : v < 0
  · rw [if_pos (show v < nI 0 from e1), if_pos e1]; rfl
  · rw [if_neg (show ¬ v < nI 0 from e1), if_neg e1]
    obtain ⟨j, hj, rfl⟩ := nI_of e1
    rw [gif (nI_leI hj (by decide)), show (2 : Int32) = nI 2 from rfl, gif (nI_ltI hj (by decide))]
    by_cases e2 : j ≤ 1
    · rw [if_pos e2, if_pos (by omega)]
    · rw [if_neg e2, if_neg (by omega)]; rfl
theorem dct {p : Prop} [Decidable p] (h : p) : decide p = true := decide_eq_true h
theorem dcf {p : Prop} [Decidable p] (h : ¬ p) : decide p = false := decide_eq_false h
theorem ifd {α : Type} {p : Prop} [Decidable p] (a b : α) : (if decide p = false then a else b) = (if p then b else a) := by
  by_cases h : p
  · rw [if_pos h, if_neg (by rw [dct h]; decide)]
  · rw [if_neg h, if_pos (dcf h)]
theorem le0 {e : Nat} (he : e < 2 ^ 31) : ((if nI e ≤ 0 then false else true : Bool) = false) ↔ e = 0 := by
  rw [← nI_0, gif (nI_leI he (by decide))]
  by_cases h : e ≤ 0
  · rw [if_pos h]; exact ⟨fun _ => by omega, fun _ => rfl⟩
  · rw [if_neg h]; exact ⟨fun z => (by cases z), fun z => absurd (by omega) h⟩
theorem rfE {E : Int32} {P Q : gw_S → Prop} (e : Nat) (hE : E = nI e) (he : e < 2 ^ 31) (main : e = 0 → ∀ τ : gw_S, τ = gw_u σ 189 0 0 → P τ) (ref : e ≠ 0 → ∀ τ : gw_S, τ = gw_u σ 189 0 (nI e) → Q τ) : ∀ τ1 : gw_S, τ1 = gw_u σ 189 0 E → ((if E ≤ 0 then false else true : Bool) = false → P τ1) ∧ (¬ ((if E ≤ 0 then false else true : Bool) = false) → Q τ1) := by
  subst hE
  intro τ1 h1
  refine ⟨fun z => main ((le0 he).mp z) τ1 ?_, fun z => ref (fun y => z ((le0 he).mpr y)) τ1 h1⟩
  rw [h1, (le0 he).mp z]; rfl
theorem MI.u0 {τ : gw_S} {v : Int32} (h : MI σ A) (ht : τ = gw_u σ 189 0 v) : MI τ A :=
  h.scr (S := []) (F := [0]) (uS189 ht (by decide)) (by decide) (by decide) (by decide) (by decide) (by decide) (by decide) (by decide)
theorem KM.u0 {τ : gw_S} {v : Int32} (ht : τ = gw_u σ 189 0 v) : KM σ τ :=
  (uS189 (S := []) (F := [0]) ht (by decide)).km (fun k hk => by cases hk)
theorem mp_lt (L : List Nat) (f : Nat) (h : L.length ≤ 3) : mp L f < 2 ^ 31 := by
  unfold mp
  have := List.idxOf_le_length (a := f) (l := L)
  split <;> omega
theorem mp_0 {L : List Nat} {f : Nat} (h : mp L f = 0) : f = 0 := by
  unfold mp at h
  by_cases e : f = 0
  · exact e
  · rw [if_neg e] at h; omega
theorem mA_no {F : aF} {L : List Nat} {τ : gw_S} (h : MI σ A) (hA : F.2.2 = A) (h0 : mp L F.1 ≠ 0) (ht : τ = gw_u σ 189 0 (nI (mp L F.1))) : mA L F σ 0 τ := by
  refine ⟨by rw [(uk ht).2.1, pk_us], fun z => absurd ?_ h0, by rw [hA]; exact h.u0 ht, KM.u0 ht⟩
  rw [z]; rfl
theorem mA_y {F : aF} {L : List Nat} {τ : gw_S} {r : Int32} {A' : aS} (hF : F = (0, r, A')) (e0 : τ.1 189 0 = 0) (hm : MI τ A') (hk : KM σ τ) : mA L F σ r τ := by
  rw [hF]; exact ⟨e0, fun _ => rfl, hm, hk⟩
/-- which rows and places a question may change -/
def okR (S F : List Nat) : Bool := S.all (fun k => decide (189 ≤ k ∧ k ≠ 206 ∧ k ≠ 189 ∧ k ≠ 190 ∧ k ≠ 192 ∧ k ≠ 194 ∧ k ≠ 195 ∧ k ≠ 196)) && F.all (fun j => decide (j ≠ 0 ∧ j ≠ 2 ∧ j ≠ 10))
theorem okR_S {S F : List Nat} (h : okR S F = true) : (∀ k, k ∈ S → 189 ≤ k ∧ k ≠ 206 ∧ k ≠ 189 ∧ k ≠ 190 ∧ k ≠ 192 ∧ k ≠ 194 ∧ k ≠ 195 ∧ k ≠ 196) ∧ ∀ j, j ∈ F → j ≠ 0 ∧ j ≠ 2 ∧ j ≠ 10 := by
  unfold okR at h
  rw [Bool.and_eq_true, List.all_eq_true, List.all_eq_true] at h
  exact ⟨fun k hk => of_decide_eq_true (h.1 k hk), fun j hj => of_decide_eq_true (h.2 j hj)⟩
theorem MI.q {S F : List Nat} {τ : gw_S} (h : MI σ A) (hS : SX S F σ τ) (ho : okR S F = true) : MI τ A := by
  obtain ⟨o1, o2⟩ := okR_S ho
  exact h.scr hS (fun z => (o1 _ z).2.2.2.1 rfl) (fun z => (o1 _ z).2.2.2.2.1 rfl) (fun z => (o1 _ z).2.2.2.2.2.1 rfl) (fun z => (o1 _ z).2.2.2.2.2.2.1 rfl) (fun z => (o1 _ z).2.2.2.2.2.2.2 rfl) (fun z => (o2 _ z).2.1 rfl) (fun z => (o2 _ z).2.2 rfl)
theorem KM.q {S F : List Nat} {τ : gw_S} (hS : SX S F σ τ) (ho : okR S F = true) : KM σ τ := hS.km (fun k hk => ⟨((okR_S ho).1 k hk).1, ((okR_S ho).1 k hk).2.1⟩)
theorem mA_q {F : aF} {L S F' : List Nat} {τ1 τ : gw_S} {r : Int32} (h : MI σ A) (ht : τ1 = gw_u σ 189 0 0) (hS : SX S F' τ1 τ) (ho : okR S F' = true) (hF : F = (0, r, A)) : mA L F σ r τ := by
  refine mA_y hF ?_ ((h.u0 ht).q hS ho) ((KM.u0 ht).tr (KM.q hS ho))
  rw [hS.2.2 0 (fun z => ((okR_S ho).2 0 z).1 rfl), (uk ht).2.1, pk_us]
theorem MI.p (h : MI σ A) : RR (σ.1 192) A.2.1 := h.2.1
/-- remembering -/
theorem ia194 : gw_ia 194 1344 := gk_194
theorem ia195 : gw_ia 195 192 := gk_195
theorem RR_cong {f g : Nat → Int32} {T : pT} (h : RR f T) (hv : VT T) (e : ∀ j, j < 96 → g j = f j) : RR g T := by
  have h8 := hv.1
  have h14 := hv.2.1
  refine ⟨by rw [e 0 (by omega)]; exact h.1, by rw [e 1 (by omega)]; exact h.2.1, fun m hm => ?_, fun w hw => ?_⟩
  · rw [e _ (by omega), e _ (by omega), e _ (by omega)]; exact h.2.2.1 m hm
  · rw [e _ (by omega), e _ (by omega), e _ (by omega), e _ (by omega), e _ (by omega)]; exact h.2.2.2 w hw
theorem k_X8_remember (h : MI σ A) (hv : VA A) : gw_M l G yX8_remember cX8_remember 1 none 1 [.ref (G.1 + 189)] σ (fv (fun τ => MI τ (aRem A A.2.1) ∧ SX [194] [10] σ τ)) := by
  obtain ⟨h1, h2, h3, h4, h5⟩ := h
  obtain ⟨v1, v2, v3, v4, v5⟩ := hv
  refine gw_met (by decide) (Nat.le_of_ble_eq_true rfl) (fun x C hR hT => sg_X8_remember_0 C hR hT σ ?_)
  -- what stands behind it
  have base : ∀ (τ : gw_S) (H : Nat → pT) (n : Nat), SX [194] [10] σ τ → τ.1 189 10 = nI n → (∀ i, i < n → RR (fun j => τ.1 194 (96 * i + j)) (H i)) → MI τ (A.1, A.2.1, H, n, A.2.2.2.2) := by
    intro τ H n hS e10 hH
    refine ⟨h1.sx hS (by decide) (by decide), by rw [hS.row (by decide) (by decide)]; exact h2, e10, hH, fun s hs => ⟨by rw [hS.row (by decide) (by decide)]; exact (h5 s hs).1, fun U hU => by rw [hS.row (by decide) (by decide)]; exact (h5 s hs).2 U hU⟩⟩
  rw [h3]
  refine ⟨fun z => ?_, fun z => ?_⟩
  · have hn : A.2.2.2.1 < 14 := by
      rcases Nat.lt_or_ge A.2.2.2.1 14 with w | w
      · exact w
      · exact absurd (by rw [show A.2.2.2.1 = 14 by omega]; rfl) z
    rw [show (96 : Int32) * nI A.2.2.2.1 = nI (96 * A.2.2.2.1) from pk_mul 96 _]
    refine ⟨_, k_X8_copy ia192 ia194 (a := 0) (n := 96) (by decide) (by omega) (by decide) (by decide) (fun z => absurd z (by decide)), ?_⟩
    intro τ2 t2 τ3 t3
    have S2 : SX [194] [10] σ τ2 := by rw [t2]; exact SX.r (by decide) (by decide)
    have S3 : SX [194] [10] σ τ3 := S2.tr (uS189 t3 (by decide))
    obtain ⟨u1, u2, u3⟩ := uk t3
    have e2 : τ2.1 189 10 = nI A.2.2.2.1 := by rw [t2, gw_r_ne _ _ (by decide)]; exact h3
    have r2 : τ3.1 194 = va_cpy (σ.1 192) (σ.1 194) 0 (96 * A.2.2.2.1) 96 := by rw [u1 194 (by decide), t2, gw_r_at]
    refine ⟨base τ3 _ _ S3 ?_ (fun i hi => ?_), S3⟩
    · rw [u2, pk_us, e2, nI_1]; unfold rmN; rw [if_pos hn]
    · have hi' : i < A.2.2.2.1 + 1 := by unfold rmN at hi; rw [if_pos hn] at hi; exact hi
      rw [r2]
      unfold rmH
      rw [if_pos hn]
      show RR _ (if i = A.2.2.2.1 then A.2.1 else A.2.2.1 i)
      by_cases y : i = A.2.2.2.1
      · rw [if_pos y, y]
        exact RR_cong h2 v2 (fun j hj => by rw [pk_cpy_in (by omega) (by omega), show 0 + (96 * A.2.2.2.1 + j - 96 * A.2.2.2.1) = j by omega])
      · rw [if_neg y]
        exact RR_cong (h4 i (by omega)) (v4 i (by omega)) (fun j hj => by rw [pk_cpy_out (by omega)])
  · have hn : A.2.2.2.1 = 14 := by
      rw [show (14 : Int32) = nI 14 from rfl, nI_eq_iff (by omega) (by decide)] at z; exact z
    refine ⟨_, k_X8_copy ia194 ia194 (a := 96) (c := 0) (n := 1248) (by decide) (by decide) (by decide) (by decide) (fun _ => by decide), ?_⟩
    intro τ5 t5 τ6 t6
    have S5 : SX [194] [10] σ τ5 := by rw [t5]; exact SX.r (by decide) (by decide)
    have S6 : SX [194] [10] σ τ6 := S5.tr (uS189 t6 (by decide))
    obtain ⟨u1, u2, u3⟩ := uk t6
    have e5 : τ5.1 189 10 = nI 14 := by rw [t5, gw_r_ne _ _ (by decide), h3, hn]
    have e6 : τ6.1 189 10 = nI 13 := by rw [u2, pk_us, e5]; rfl
    rw [e6, show (96 : Int32) * nI 13 = nI 1248 from pk_mul 96 13]
    refine ⟨_, k_X8_copy ia192 ia194 (a := 0) (c := 1248) (n := 96) (by decide) (by decide) (by decide) (by decide) (fun z => absurd z (by decide)), ?_⟩
    intro τ8 t8 τ9 t9
    have S8 : SX [194] [10] σ τ8 := S6.tr (by rw [t8]; exact SX.r (by decide) (by decide))
    have S9 : SX [194] [10] σ τ9 := S8.tr (uS189 t9 (by decide))
    obtain ⟨w1, w2, w3⟩ := uk t9
    have e8 : τ8.1 189 10 = nI 13 := by rw [t8, gw_r_ne _ _ (by decide)]; exact e6
    have r6 : τ6.1 194 = va_cpy (σ.1 194) (σ.1 194) 96 0 1248 := by rw [u1 194 (by decide), t5, gw_r_at]
    have r9 : τ9.1 194 = va_cpy (σ.1 192) (va_cpy (σ.1 194) (σ.1 194) 96 0 1248) 0 1248 96 := by
      rw [w1 194 (by decide), t8, gw_r_at, r6, S6.row (by decide) (by decide)]
    refine ⟨base τ9 _ _ S9 ?_ (fun i hi => ?_), S9⟩
    · rw [w2, pk_us, e8, hn]; rfl
    · have hi' : i < 14 := by unfold rmN at hi; rw [if_neg (by omega)] at hi; exact hi
      rw [r9]
      unfold rmH
      rw [if_neg (by omega)]
      show RR _ (if i = 13 then A.2.1 else A.2.2.1 (i + 1))
      by_cases y : i = 13
      · rw [if_pos y, y]
        exact RR_cong h2 v2 (fun j hj => by rw [pk_cpy_in (by omega) (by omega), show 0 + (96 * 13 + j - 1248) = j by omega])
      · rw [if_neg y]
        exact RR_cong (h4 (i + 1) (by omega)) (v4 (i + 1) (by omega)) (fun j hj => by rw [pk_cpy_out (by omega), pk_cpy_in (by omega) (by omega), show 96 + (96 * i + j - 0) = 96 * (i + 1) + j by omega])
/-- text -/
theorem MI.text {X : xT} {τ : gw_S} (h : MI σ A) (hx : xRf τ X) (hS : SX [190] [0, 2] σ τ) : MI τ (X, A.2) := by
  obtain ⟨m1, m2, m3, m4, m5⟩ := h
  exact ⟨hx, by rw [hS.row (by decide) (by decide)]; exact m2, by rw [hS.2.2 10 (by decide)]; exact m3, fun i hi => by rw [hS.row (by decide) (by decide)]; exact m4 i hi, fun s hs => ⟨by rw [hS.row (by decide) (by decide)]; exact (m5 s hs).1, fun U hU => by rw [hS.row (by decide) (by decide)]; exact (m5 s hs).2 U hU⟩⟩
theorem SX.kmT {τ : gw_S} (hS : SX [190] [0, 2] σ τ) : KM σ τ := hS.km (fun k hk => by simp at hk; omega)
theorem g_append (h : MI σ A) (hv : VA A) (v : Int32) : gw_M l G yX8_append cX8_append 2 (some .int) 1 [.ref (G.1 + 189), .int v] σ (fi (mA [2, 3] (anAppend A v) σ)) := by
  have h120 := hv.1.1
  refine gw_met (by decide) (Nat.le_of_ble_eq_true rfl) (fun x C hR hT => sg_X8_append_0 C hR hT _ σ ?_)
  have er : (if lg_cmp v.toInt64 0 < 0 then false else (if 0 < lg_cmp v.toInt64 255 then false else true : Bool) : Bool) = decide (rgI 0 255 v = 0) := rg_ref v (lo := 0) (hi := 255) (by decide) (by decide)
  rw [er, ifd, h.1.1]
  refine rfE (mp [2, 3] (anAppend A v).1) ?_ (mp_lt _ _ (by decide)) (fun z τ1 h1 => ?_) (fun z τ1 h1 => mA_no h ?_ z h1)
  · unfold anAppend
    by_cases z : rgI 0 255 v = 0
    · rw [if_pos z, if_pos z]
      by_cases y : A.1.1 < 120
      · rw [if_pos y, if_neg (show ¬ nI A.1.1 = 120 by rw [show (120 : Int32) = nI 120 from rfl, nI_eq_iff (by omega) (by decide)]; omega)]; rfl
      · rw [if_neg y, if_pos (by rw [show A.1.1 = 120 by omega]; rfl)]; rfl
    · rw [if_neg z, if_neg z]; rfl
  · have z' := mp_0 z
    have hz : rgI 0 255 v = 0 ∧ A.1.1 < 120 := by
      unfold anAppend at z'
      by_cases q : rgI 0 255 v = 0
      · rw [if_pos q] at z'
        by_cases y : A.1.1 < 120
        · exact ⟨q, y⟩
        · rw [if_neg y] at z'; cases z'
      · rw [if_neg q] at z'; cases z'
    obtain ⟨q, y⟩ := hz
    obtain ⟨j, _, hj, rfl⟩ := rgI_0 (lo := 0) (hi := 255) (by decide) (by decide) q
    have e2 : τ1.1 189 2 = nI A.1.1 := by rw [(uk h1).2.1, pk_un (by decide)]; exact h.1.1
    rw [e2, nI_clamp (by omega)]
    refine ⟨vp_in_nI (by omega) (by decide), ?_⟩
    intro τ3 h3 τ4 h4
    have e3 : τ3.1 189 2 = nI A.1.1 := by rw [(uk h3).1 189 (by decide)]; exact e2
    rw [e3, nI_1] at h4
    have S4 : SX [190] [0, 2] σ τ4 := ((uS189 h1 (by decide)).tr (uSk h3 (by decide) (by decide))).tr (uS189 h4 (by decide))
    obtain ⟨a1, a2, a3⟩ := uk h4
    obtain ⟨b1, b2, b3⟩ := uk h3
    obtain ⟨c1, c2, c3⟩ := uk h1
    refine mA_y (A' := ((A.1.1 + 1, uN A.1.2 A.1.1 j), A.2)) ?_ (by rw [a2, pk_un (by decide), b1 189 (by decide), c2, pk_us]) (h.text ⟨by rw [a2, pk_us], fun i hi => ?_⟩ S4) S4.kmT
    · unfold anAppend; rw [if_pos q, if_pos y, nI_clamp (by omega), a2, pk_us]
    · have hi : i < A.1.1 + 1 := hi
      show τ4.1 190 i = nI (uN A.1.2 A.1.1 j i)
      rw [a1 190 (by decide), b2]
      by_cases e : i = A.1.1
      · rw [e, pk_us, uN_at]
      · rw [pk_un e, uN_ne _ _ e, c1 190 (by decide), h.1.2 i (by omega)]
  · unfold anAppend
    by_cases q : rgI 0 255 v = 0
    · rw [if_pos q]
      by_cases y : A.1.1 < 120
      · exact absurd (by unfold anAppend; rw [if_pos q, if_pos y]; rfl) z
      · rw [if_neg y]
    · rw [if_neg q]
theorem g_clearText (h : MI σ A) : gw_M l G yX8_clearText cX8_clearText 2 (some .int) 0 [.ref (G.1 + 189)] σ (fi (mA [] (anClear A) σ)) := by
  refine gw_met (by decide) (Nat.le_of_ble_eq_true rfl) (fun x C hR hT => sg_X8_clearText_0 C hR hT σ ?_)
  intro τ1 h1 τ2 h2
  obtain ⟨a1, a2, a3⟩ := uk h2
  obtain ⟨c1, c2, c3⟩ := uk h1
  have S2 : SX [190] [0, 2] σ τ2 := (uS189 h1 (by decide)).tr (uS189 h2 (by decide))
  refine mA_y (A' := ((0, A.1.2), A.2)) ?_ (by rw [a2, pk_un (by decide), c2, pk_us]) (h.text (X := (0, A.1.2)) ⟨by rw [a2, pk_us]; rfl, fun i hi => absurd hi (Nat.not_lt_zero i)⟩ S2) S2.kmT
  unfold anClear; rw [c2, pk_un (by decide), h.1.1]
theorem g_errorPosition (h : MI σ A) (hv : VA A) : gw_M l G yX8_errorPosition cX8_errorPosition 1 (some .int) 7 [.ref (G.1 + 189)] σ (fi (mA [] (anError A) σ)) := by
  refine gw_met (by decide) (Nat.le_of_ble_eq_true rfl) (fun x C hR hT => sg_X8_errorPosition_0 C hR hT σ ?_)
  intro τ1 h1
  refine ⟨_, k_X8_readText (h.u0 h1).1 hv.1, ?_⟩
  rintro r τ ⟨rfl, hS, -⟩
  exact mA_q h h1 hS (by decide) rfl
theorem cmE_le {X : xT} {i : Nat} : ∀ d k e, cmE X i d k = some e → e ≤ i + k + d ∨ e ≤ X.1
  | 0, _, _, h => by cases h
  | d + 1, k, e, h => by
    rw [cmE] at h
    split at h
    · rcases cmE_le d (k + 1) e h with q | q
      · exact Or.inl (by omega)
      · exact Or.inr q
    · have q := Option.some.inj h
      exact Or.inl (by omega)
theorem errF_le {X : xT} : ∀ f i e, errF X f i = some e → e ≤ X.1 + 14
  | 0, _, _, h => by cases h
  | f + 1, i, e, h => by
    rw [errF] at h
    split at h
    · next hi =>
      cases hc : cmdE X i with
      | none => rw [hc] at h; exact errF_le f _ e h
      | some k =>
        rw [hc] at h
        have q := Option.some.inj h
        have hk : k ≤ X.1 + 14 := by
          unfold cmdE at hc
          split at hc
          · have q2 := Option.some.inj hc; omega
          · have hdl := dg_le (tAt X i)
            rcases cmE_le _ _ _ hc with w | w <;> omega
        omega
    · cases h
theorem errX_lt {X : xT} {e : Nat} (hX : xV X) (h : errX X = some e) : e < 2 ^ 31 := by
  have h120 := hX.1
  unfold errX at h
  split at h
  · have := errF_le _ _ _ h; omega
  · have := Option.some.inj h; omega
theorem oX_m1 {X : xT} (hX : xV X) : oX (errX X) = -1 ↔ errX X = none := by
  cases e : errX X with
  | none => exact ⟨fun _ => rfl, fun _ => rfl⟩
  | some k => exact ⟨fun z => absurd z (nI_m1 (errX_lt hX e)), fun z => by cases z⟩
theorem mA_tr {F : aF} {L : List Nat} {τ υ : gw_S} {r : Int32} (hk : KM σ τ) (h : mA L F τ r υ) : mA L F σ r υ := ⟨h.1, h.2.1, h.2.2.1, hk.tr h.2.2.2⟩
theorem g_load (h : MI σ A) (hv : VA A) : gw_M l G yX8_load cX8_load 1 (some .int) 7 [.ref (G.1 + 189)] σ (fi (mA [3] (anLoad A) σ)) := by
  refine gw_met (by decide) (Nat.le_of_ble_eq_true rfl) (fun x C hR hT => sg_X8_load_0 C hR hT σ ⟨_, k_X8_readText h.1 hv.1, ?_⟩)
  rintro r τ2 ⟨rfl, hS, hq⟩
  have m2 : MI τ2 A := h.q hS (by decide)
  have kk : KM σ τ2 := KM.q hS (by decide)
  have hx := oX_m1 hv.1
  refine rfE (mp [3] (anLoad A).1) ?_ (mp_lt _ _ (by decide)) (fun z τ4 h4 => ?_) (fun z τ4 h4 => mA_tr kk (mA_no m2 ?_ z h4))
  · unfold anLoad
    by_cases e : errX A.1 = none
    · rw [if_pos e, if_pos (hx.mpr e)]; rfl
    · rw [if_neg e, if_neg (fun w => e (hx.mp w))]; rfl
  · have e : errX A.1 = none := by
      have z' := mp_0 z
      unfold anLoad at z'
      by_cases e : errX A.1 = none
      · exact e
      · rw [if_neg e] at z'; cases z'
    obtain ⟨q1, q2, q3, q4⟩ := hq e
    refine ⟨_, k_X8_copy gk_191 ia192 (a := 0) (c := 0) (n := 96) (by decide) (by decide) (by decide) (by decide) (fun z => absurd z (by decide)), ?_⟩
    intro τ6 t6 τ7 t7 τ8 t8 τ9 t9
    rw [gc0] at t8
    rw [gc1] at t9
    obtain ⟨a1, a2, a3⟩ := uk t9
    obtain ⟨b1, b2, b3⟩ := uk t8
    obtain ⟨c1, c2, c3⟩ := uk t7
    obtain ⟨d1, d2, d3⟩ := uk h4
    have e6 : ∀ k, k ≠ 192 → τ6.1 k = τ4.1 k := fun k hk => by rw [t6, gw_r_ne _ _ hk]
    have e9 : ∀ k, k ≠ 196 → k ≠ 189 → k ≠ 192 → τ9.1 k = τ2.1 k := fun k k1 k2 k3 => by rw [a1 k k1, b1 k k1, c1 k k2, e6 k k3, d1 k k2]
    have f9 : τ9.1 189 = upd (upd (τ2.1 189) 0 0) 10 0 := by rw [a1 189 (by decide), b1 189 (by decide), c2, e6 189 (by decide), d2]
    have g9 : τ9.1 196 = upd (upd (τ2.1 196) 0 0) 1 0 := by rw [a2, b2, c1 196 (by decide), e6 196 (by decide), d1 196 (by decide)]
    have h9 : τ9.1 192 = va_cpy (τ4.1 191) (τ4.1 192) 0 0 96 := by rw [a1 192 (by decide), b1 192 (by decide), c1 192 (by decide), t6, gw_r_at]
    have S9 : SX [192, 196] [0, 10] τ2 τ9 := (((uS189 h4 (by decide)).tr (by rw [t6]; exact SX.r (by decide) (by decide))).tr ((uS189 t7 (by decide)).tr (uSk t8 (by decide) (by decide)))).tr (uSk t9 (by decide) (by decide))
    refine mA_y (A' := (A.1, (ldX A.1).1, A.2.2.1, 0, fun _ => none)) ?_ (by rw [f9, pk_un (by decide), pk_us]) ⟨m2.1.sx S9 (by decide) (by decide), ?_, by rw [f9, pk_us]; rfl, fun i hi => absurd hi (Nat.not_lt_zero i), fun s hs => ⟨?_, fun U hU => by cases hU⟩⟩ (kk.tr (S9.km (fun k hk => by simp at hk; omega)))
    · unfold anLoad; rw [if_pos e, f9, pk_un (by decide), pk_un (by decide), q3]
    · rw [h9, d1 191 (by decide)]; exact va_cpy_RR q1 q2
    · rw [g9]
      by_cases w : s = 1
      · rw [w, pk_us]; rfl
      · rw [pk_un w, show s = 0 by omega, pk_us]; rfl
  · unfold anLoad
    by_cases e : errX A.1 = none
    · exact absurd (by unfold anLoad; rw [if_pos e]; rfl) z
    · rw [if_neg e]
end RC
