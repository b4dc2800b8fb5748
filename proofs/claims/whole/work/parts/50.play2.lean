/-! the reference plays a round: the whole -/
theorem uS189 {σ τ : gw_S} {S F : List Nat} {j : Nat} {v : Int32} (h : τ = gw_u σ 189 j v) (hj : j ∈ F) : SX S F σ τ := by subst h; exact SX.f hj
theorem uSk {σ τ : gw_S} {S F : List Nat} {k j : Nat} {v : Int32} (h : τ = gw_u σ k j v) (hk : k ∈ S) (h9 : k ≠ 189) : SX S F σ τ := by subst h; exact SX.u hk h9
section PY
variable {l : Launch} {G : gw_G} {σ : gw_S} {T : pT}
theorem k_X8_play {r : Nat} (hr : r < 3) (hp : RR (σ.1 193) T) (hv : VT T) (ha : agB T = true) (hdu : ∀ m, m < tM T → σ.1 197 m = nI (rD T m)) : gw_M l G yX8_play cX8_play 6 none 3 [.ref (G.1 + 189), .ref (G.1 + 193), .int (nI r)] σ (fv (fun τ => SX [193, 201, 202, 203] [20, 22] σ τ ∧ RR (τ.1 193) (rE T r).1 ∧ τ.1 189 20 = nI (rL T r) ∧ τ.1 189 22 = gz (rC T r) ∧ (∀ j, j < rL T r → τ.1 202 j = nI (rK T r j)) ∧ ∀ w, w < tW T → τ.1 203 w = nI ((rE T r).2.2.2 w))) := by
  have h8 := hv.1
  have h14 := hv.2.1
  have hDU := rD_ok ha
  obtain ⟨L1, L2⟩ := rL_480 (r := r) hv ha
  refine gw_met (by decide) (Nat.le_of_ble_eq_true rfl) (fun x C hR hT => sg_X8_play_0 C hR hT 193 _ ia193 σ ?_)
  intro τ1 h1
  obtain ⟨a1, a2, a3⟩ := uk h1
  have fin : ∀ d i, i + d = tM T → ∀ (υ : gw_S) (v3 v4 : Int32), SX [193, 201, 202, 203] [20, 22] σ υ → RR (υ.1 193) (rE T r).1 → (∀ m, m < tM T → υ.1 201 m = nI ((rE T r).2.1 m)) → υ.1 189 20 = nI (rL T r) → υ.1 189 22 = gz (bA (fun m => decide ((rE T r).2.1 m = rD T m)) i) → (∀ j, j < rL T r → υ.1 202 j = nI (rK T r j)) → (∀ w, w < tW T → υ.1 203 w = nI ((rE T r).2.2.2 w)) → PW x G 6 135 [(0, .ref (G.1 + 189)), (1, .ref (G.1 + 193)), (2, .int (nI r)), (3, .int v3), (4, .int v4), (5, .int (nI i))] [] υ := by
    have hI := rE_I (r := r) hv
    intro d
    induction d with
    | zero =>
      intro i hi υ v3 v4 hS hRR hdn h20 h22 ho hm
      refine sg_X8_play_135 C hR hT 193 ia193 _ _ _ _ _ ⟨fun _ => ⟨hS, hRR, h20, ?_, ho, hm⟩, fun z => absurd ?_ z⟩
      · rw [h22, show i = tM T by omega]
        congr 1
        unfold rC
        rw [ha, Bool.true_and]
        have e1 := sN_eq2 (tM T) hI.2.2.2.1
        rw [hI.2.2.2.2.1] at e1
        by_cases z : rL T r = sN (rD T) (tM T)
        · rw [show decide (rL T r = sN (rD T) (tM T)) = true by simpa using z, bA_iff]
          intro m hm; simpa using e1.mp z m hm
        · rw [show decide (rL T r = sN (rD T) (tM T)) = false by simpa using z]
          cases q : bA (fun m => decide ((rE T r).2.1 m = rD T m)) (tM T)
          · rfl
          · exact absurd (e1.mpr (fun m hm => by simpa using (bA_iff _).mp q m hm)) z
      · rw [gc0, hRR.1, hI.2.1, nI_le_iff (by omega) (by omega)]; omega
    | succ d ih =>
      intro i hi υ v3 v4 hS hRR hdn h20 h22 ho hm
      have h197 : υ.1 197 i = nI (rD T i) := by rw [hS.row (by decide) (by decide)]; exact hdu i (by omega)
      have b1 := hI.2.2.2.1 i (by omega)
      have b2 := hDU.2.2 i (by omega)
      refine sg_X8_play_135 C hR hT 193 ia193 _ _ _ _ _ ⟨fun z => ?_, fun _ => ⟨⟨fun _ => trivial, fun _ => ⟨vp_in_nI (by omega) (by decide), trivial⟩⟩, ?_⟩⟩
      · rw [gc0, hRR.1, hI.2.1, nI_le_iff (by omega) (by omega)] at z; omega
      · intro υ2 hu
        rw [nI_clamp (by omega), h22, hdn i (by omega), h197, gif (nI_eq (by omega) (by omega))] at hu
        obtain ⟨u1, u2, u3⟩ := uk hu
        have ev : (if gz (bA (fun m => decide ((rE T r).2.1 m = rD T m)) i) = 0 then false else (if (rE T r).2.1 i = rD T i then true else false : Bool) : Bool) = bA (fun m => decide ((rE T r).2.1 m = rD T m)) (i + 1) := by
          rw [bA]
          cases bA (fun m => decide ((rE T r).2.1 m = rD T m)) i
          · rw [if_pos gz_f]; rfl
          · rw [if_neg (by decide), Bool.true_and]
            by_cases z : (rE T r).2.1 i = rD T i <;> simp [z]
        rw [ev] at u2
        rw [nI_1]
        exact ih (i + 1) (by omega) υ2 v3 v4 (hS.tr (uS189 hu (by decide))) (by rw [u1 193 (by decide)]; exact hRR) (fun m hm => by rw [u1 201 (by decide)]; exact hdn m hm) (by rw [u2, pk_un (by decide)]; exact h20) (by rw [u2, pk_us]) (fun j hj => by rw [u1 202 (by decide)]; exact ho j hj) (fun w hw => by rw [u1 203 (by decide)]; exact hm w hw)
  have main : ∀ d t, t + d = rL T r → ∀ (υ : gw_S) (v3 : Int32), SX [193, 201, 202, 203] [20, 22] σ υ → QS 193 (rQ T r t) υ → v3 + 1 = nI (rQ T r t).2.2.1 → υ.1 189 20 = nI t → (∀ j, j < t → υ.1 202 j = nI (rK T r j)) → PW x G 6 63 [(0, .ref (G.1 + 189)), (1, .ref (G.1 + 193)), (2, .int (nI r)), (3, .int v3), (4, .int (oI (qN (rD T) r (rQ T r t))))] [] υ := by
    intro d
    induction d with
    | zero =>
      intro t ht υ v3 hS hQ h3 h20 ho
      have et : t = rL T r := by omega
      subst et
      have hnone : qN (rD T) r (rQ T r (rL T r)) = none := (rL_ok r hv).1
      have hI := rE_I (r := r) hv
      refine sg_X8_play_63 C hR hT 193 ia193 _ _ _ _ ⟨fun _ => ?_, fun z => absurd ?_ z⟩
      · intro υ2 hu
        obtain ⟨u1, u2, u3⟩ := uk hu
        exact fin (tM T) 0 (by omega) υ2 v3 _ (hS.tr (uS189 hu (by decide))) (by rw [u1 193 (by decide)]; exact hQ.1) (fun m hm => by rw [u1 201 (by decide)]; exact hQ.2.1 m (by show m < tM (rE T r).1; rw [hI.2.1]; exact hm)) (by rw [u2, pk_un (by decide)]; exact h20) (by rw [u2, pk_us]; rfl) (fun j hj => by rw [u1 202 (by decide)]; exact ho j hj) (fun w hw => by rw [u1 203 (by decide)]; exact hQ.2.2 w (by show w < tW (rE T r).1; rw [hI.2.2.1]; exact hw))
      · rw [hnone]; rfl
    | succ d ih =>
      intro t ht υ v3 hS hQ h3 h20 ho
      have hk := rK_ok (T := T) (r := r) (j := t) hv (by omega)
      have hI := rQ_I (T := T) (r := r) (t := t) hv (by omega)
      obtain ⟨n1, n2, n3, n4⟩ := QI_n hI hk
      have hnx : rQ T r (t + 1) = qW (rQ T r t) (rK T r t) := qT_s hk
      have hm8 : rK T r t < 8 := by omega
      rw [hk, show oI (some (rK T r t)) = nI (rK T r t) from rfl]
      refine sg_X8_play_63 C hR hT 193 ia193 _ _ _ _ ⟨fun z => absurd z (nI_m1 (by omega)), fun _ => ⟨_, k_X8_workIn ia193 hQ.1 hI.1 (by rw [hI.2.1]; exact n1) n2, ?_⟩⟩
      rintro τ3 ⟨f, hτ3, hf⟩
      have w1 : ∀ q, q ≠ 193 → τ3.1 q = υ.1 q := fun q hq => by rw [hτ3]; exact gw_r_ne _ _ hq
      have w2 : τ3.1 193 = f := by rw [hτ3]; exact gw_r_at _ _ _
      have hS3 : SX [193, 201, 202, 203] [20, 22] σ τ3 := hS.tr (by rw [hτ3]; exact SX.r (by decide) (by decide))
      refine ⟨vp_in_nI (by omega) (by decide), ?_⟩
      intro τ5 h5
      have hdm := hQ.2.1 (rK T r t) (by rw [hI.2.1]; exact n1)
      rw [nI_clamp (by omega), w1 201 (by decide), hdm, nI_1] at h5
      obtain ⟨b1, b2, b3⟩ := uk h5
      have e20 : τ5.1 189 20 = nI t := by rw [b1 189 (by decide), w1 189 (by decide)]; exact h20
      rw [e20]
      refine ⟨vp_in_nI (by omega) (by decide), ?_⟩
      intro τ7 h7
      rw [nI_clamp (by omega)] at h7
      obtain ⟨c1, c2, c3⟩ := uk h7
      intro τ8 h8'
      rw [c1 189 (by decide), e20, nI_1] at h8'
      obtain ⟨d1, d2, d3⟩ := uk h8'
      have hS8 : SX [193, 201, 202, 203] [20, 22] σ τ8 := ((hS3.tr (uSk h5 (by decide) (by decide))).tr (uSk h7 (by decide) (by decide))).tr (uS189 h8' (by decide))
      have row8 : τ8.1 193 = f := by rw [d1 193 (by decide), c1 193 (by decide), b1 193 (by decide), w2]
      have vw := VT_work hI.1 n2
      have m8 : τ8.1 203 = υ.1 203 := by rw [d1 203 (by decide), c1 203 (by decide), b1 203 (by decide), w1 203 (by decide)]
      refine ⟨_, k_X8_note (T := oWork (rQ T r t).1 (rK T r t)) (mo := (rQ T r t).2.2.2) ia193 (by decide) (by rw [row8]; exact hf) vw (fun w hw => ⟨by rw [m8]; exact hQ.2.2 w hw, by have := hI.2.2.2.2.2.2.1 w (by rw [← hI.2.2.1]; exact hw); omega⟩), ?_⟩
      rintro τ10 ⟨g, h10, hg⟩
      have f1 : ∀ q, q ≠ 203 → τ10.1 q = τ8.1 q := fun q hq => by rw [h10]; exact gw_r_ne _ _ hq
      have f2 : τ10.1 203 = g := by rw [h10]; exact gw_r_at _ _ _
      have hS10 : SX [193, 201, 202, 203] [20, 22] σ τ10 := hS8.tr (by rw [h10]; exact SX.r (by decide) (by decide))
      have hQ' : QS 193 (rQ T r (t + 1)) τ10 := by
        rw [hnx]
        refine ⟨by rw [f1 193 (by decide), row8]; exact hf, fun m hm => ?_, fun w hw => by rw [f2]; exact hg w hw⟩
        show _ = nI (uN (rQ T r t).2.1 (rK T r t) ((rQ T r t).2.1 (rK T r t) + 1) m)
        rw [f1 201 (by decide), d1 201 (by decide), c1 201 (by decide), b2]
        by_cases e : m = rK T r t
        · rw [e, pk_us, uN_at]
        · rw [pk_un e, uN_ne _ _ e, w1 201 (by decide)]; exact hQ.2.1 m hm
      rw [← hnx] at n3
      have h20' : τ10.1 189 20 = nI (t + 1) := by rw [f1 189 (by decide), d2, pk_us]
      have h3' : nI (rK T r t) + 1 = nI (rQ T r (t + 1)).2.2.1 := by rw [hnx, nI_1]; rfl
      refine ⟨_, k_X8_choice (D := rD T) ia193 hr hQ'.1 n3 hQ'.2.1 (fun m hm => ⟨?_, hDU.2.2 m (by rw [← n3.2.1]; exact hm)⟩) h3', ?_⟩
      · rw [hS10.row (by decide) (by decide)]; exact hdu m (by rw [← n3.2.1]; exact hm)
      · rintro q υ' ⟨rfl, rfl⟩
        refine ih (t + 1) (by omega) υ' _ hS10 hQ' h3' h20' (fun j hj => ?_)
        rw [f1 202 (by decide), d1 202 (by decide), c2]
        by_cases e : j = t
        · rw [e, pk_us]
        · rw [pk_un e, b1 202 (by decide), w1 202 (by decide)]; exact ho j (by omega)
  have done : ∀ d i, i + d = 8 → ∀ υ : gw_S, SX [193, 201, 202, 203] [20, 22] σ υ → υ.1 193 = σ.1 193 → υ.1 189 20 = 0 → (∀ w, w < 14 → υ.1 203 w = 0) → (∀ m, m < i → υ.1 201 m = 0) → PW x G 6 28 [(0, .ref (G.1 + 189)), (1, .ref (G.1 + 193)), (2, .int (nI r)), (3, .int (nI i))] [] υ := by
    intro d
    induction d with
    | zero =>
      intro i hi υ hS h193 h20 hm hdn
      refine sg_X8_play_28 C hR hT 193 ia193 _ _ _ ⟨fun _ => ⟨_, k_X8_note (mo := fun _ => 0) ia193 (by decide) (by rw [h193]; exact hp) hv (fun w hw => ⟨hm w (by omega), by decide⟩), ?_⟩, fun z => absurd ?_ z⟩
      · rintro τ2 ⟨g, h2, hg⟩
        have f1 : ∀ q, q ≠ 203 → τ2.1 q = υ.1 q := fun q hq => by rw [h2]; exact gw_r_ne _ _ hq
        have f2 : τ2.1 203 = g := by rw [h2]; exact gw_r_at _ _ _
        have hS2 : SX [193, 201, 202, 203] [20, 22] σ τ2 := hS.tr (by rw [h2]; exact SX.r (by decide) (by decide))
        have hQ' : QS 193 (rQ T r 0) τ2 := by
          refine ⟨by rw [f1 193 (by decide), h193]; exact hp, fun m hm => ?_, fun w hw => ?_⟩
          · have hm : m < tM T := hm
            rw [f1 201 (by decide)]; exact hdn m (by omega)
          · have hw : w < tW T := hw
            rw [f2, hg w hw]
            show nI (if 0 < tH T w then tH T w else 0) = nI (tH T w)
            congr 1
            split <;> omega
        have h3' : (-1 : Int32) + 1 = nI (rQ T r 0).2.2.1 := by show (-1 : Int32) + 1 = nI 0; decide
        refine ⟨_, k_X8_choice (D := rD T) (t := 0) ia193 hr hQ'.1 (QI_0 hv) hQ'.2.1 (fun m hm => ⟨?_, hDU.2.2 m hm⟩) h3', ?_⟩
        · rw [hS2.row (by decide) (by decide)]; exact hdu m hm
        · rintro q υ' ⟨rfl, rfl⟩
          exact main (rL T r) 0 (by omega) υ' _ hS2 hQ' h3' (by rw [f1 189 (by decide)]; exact h20) (fun j hj => absurd hj (Nat.not_lt_zero j))
      · rw [show (8 : Int32) = nI 8 from rfl, nI_le_iff (by omega) (by omega)]; omega
    | succ d ih =>
      intro i hi υ hS h193 h20 hm hdn
      refine sg_X8_play_28 C hR hT 193 ia193 _ _ _ ⟨fun z => ?_, fun _ => ⟨vp_in_nI (by omega) (by decide), ?_⟩⟩
      · rw [show (8 : Int32) = nI 8 from rfl, nI_le_iff (by omega) (by omega)] at z; omega
      · intro υ2 hu
        rw [nI_clamp (by omega)] at hu
        obtain ⟨u1, u2, u3⟩ := uk hu
        rw [nI_1]
        refine ih (i + 1) (by omega) υ2 (hS.tr (uSk hu (by decide) (by decide))) (by rw [u1 193 (by decide)]; exact h193) (by rw [u1 189 (by decide)]; exact h20) (fun w hw => by rw [u1 203 (by decide)]; exact hm w hw) (fun m hm' => ?_)
        rw [u2]
        by_cases e : m = i
        · rw [e, pk_us]
        · rw [pk_un e]; exact hdn m (by omega)
  have mosts : ∀ d i, i + d = 14 → ∀ υ : gw_S, SX [193, 201, 202, 203] [20, 22] σ υ → υ.1 193 = σ.1 193 → υ.1 189 20 = 0 → (∀ w, w < i → υ.1 203 w = 0) → PW x G 6 7 [(0, .ref (G.1 + 189)), (1, .ref (G.1 + 193)), (2, .int (nI r)), (3, .int (nI i))] [] υ := by
    intro d
    induction d with
    | zero =>
      intro i hi υ hS h193 h20 hm
      refine sg_X8_play_7 C hR hT 193 ia193 _ _ _ ⟨fun _ => done 8 0 (by omega) υ hS h193 h20 (fun w hw => hm w (by omega)) (fun m hm => absurd hm (Nat.not_lt_zero m)), fun z => absurd ?_ z⟩
      rw [show (14 : Int32) = nI 14 from rfl, nI_le_iff (by omega) (by omega)]; omega
    | succ d ih =>
      intro i hi υ hS h193 h20 hm
      refine sg_X8_play_7 C hR hT 193 ia193 _ _ _ ⟨fun z => ?_, fun _ => ⟨vp_in_nI (by omega) (by decide), ?_⟩⟩
      · rw [show (14 : Int32) = nI 14 from rfl, nI_le_iff (by omega) (by omega)] at z; omega
      · intro υ2 hu
        rw [nI_clamp (by omega)] at hu
        obtain ⟨u1, u2, u3⟩ := uk hu
        rw [nI_1]
        refine ih (i + 1) (by omega) υ2 (hS.tr (uSk hu (by decide) (by decide))) (by rw [u1 193 (by decide)]; exact h193) (by rw [u1 189 (by decide)]; exact h20) (fun w hw => ?_)
        rw [u2]
        by_cases e : w = i
        · rw [e, pk_us]
        · rw [pk_un e]; exact hm w (by omega)
  exact mosts 14 0 (by omega) τ1 (uS189 h1 (by decide)) (a1 193 (by decide)) (by rw [a2, pk_us]) (fun w hw => absurd hw (Nat.not_lt_zero w))
/-- a row copied to another -/
theorem va_cpy_RR {f g : Nat → Int32} (h : RR f T) (hv : VT T) : RR (va_cpy f g 0 0 96) T := by
  have h8 := hv.1
  have h14 := hv.2.1
  have e : ∀ j, j < 96 → va_cpy f g 0 0 96 j = f j := fun j hj => by rw [pk_cpy_in (Nat.zero_le _) (by omega), show 0 + (j - 0) = j by omega]
  refine ⟨by rw [e 0 (by omega)]; exact h.1, by rw [e 1 (by omega)]; exact h.2.1, fun m hm => ?_, fun w hw => ?_⟩
  · rw [e _ (by omega), e _ (by omega), e _ (by omega)]; exact h.2.2.1 m hm
  · rw [e _ (by omega), e _ (by omega), e _ (by omega), e _ (by omega), e _ (by omega)]; exact h.2.2.2 w hw
theorem k_X8_tryIt (hp : RR (σ.1 192) T) (hv : VT T) : gw_M l G yX8_tryIt cX8_tryIt 1 none 1 [.ref (G.1 + 189)] σ (fv (fun τ => SX [193] [] σ τ ∧ RR (τ.1 193) T)) := by
  refine gw_met (by decide) (Nat.le_of_ble_eq_true rfl) (fun x C hR hT => sg_X8_tryIt_0 C hR hT σ ⟨_, k_X8_copy ia192 ia193 (a := 0) (c := 0) (n := 96) (by decide) (by decide) (by decide) (by decide) (fun z => absurd z (by decide)), ?_⟩)
  rintro τ rfl
  exact ⟨SX.r (by decide) (by decide), by rw [gw_r_at]; exact va_cpy_RR hp hv⟩
theorem k_X8_tryRound {r : Nat} (hr : r < 3) (hp : RR (σ.1 192) T) (hv : VT T) : gw_M l G yX8_tryRound cX8_tryRound 3 (some .boolean) 5 [.ref (G.1 + 189), .int (nI r)] σ (fz (fun q τ => q = agB T ∧ SX [193, 197, 198, 199, 200, 201, 202, 203] [15, 20, 22] σ τ ∧ (agB T = true → RR (τ.1 193) (rE T r).1 ∧ τ.1 189 20 = nI (rL T r) ∧ τ.1 189 22 = gz (rC T r) ∧ (∀ j, j < rL T r → τ.1 202 j = nI (rK T r j)) ∧ ∀ w, w < tW T → τ.1 203 w = nI ((rE T r).2.2.2 w)))) := by
  refine gw_met (by decide) (Nat.le_of_ble_eq_true rfl) (fun x C hR hT => sg_X8_tryRound_0 C hR hT _ σ ⟨_, k_X8_tryIt hp hv, ?_⟩)
  rintro τ2 ⟨S2, p2⟩
  refine ⟨_, k_X8_layWorks ia193 p2 hv, ?_⟩
  rintro q τ4 ⟨rfl, S4, h15, hd⟩
  have S4' : SX [193, 197, 198, 199, 200, 201, 202, 203] [15, 20, 22] σ τ4 := (S2.mono (fun k h => by simp at h; simp [h]) (fun k h => by cases h)).tr (S4.mono (fun k h => by simp at h; simp; omega) (fun k h => by simp at h; simp [h]))
  refine ⟨fun e => ⟨rfl, S4', fun z => by rw [e] at z; cases z⟩, fun e => ?_⟩
  have ha : agB T = true := by simpa using e
  refine ⟨_, k_X8_play hr (by rw [S4.row (by decide) (by decide)]; exact p2) hv ha (hd _ (rD_ok ha)), ?_⟩
  rintro τ7 ⟨S7, h7⟩
  exact ⟨rfl, S4'.tr (S7.mono (fun k h => by simp at h; simp; omega) (fun k h => by simp at h; simp; omega)), fun _ => h7⟩
theorem k_X8_rounds {r : Nat} (hp : RR (σ.1 193) T) (hv : VT T) (hr : r < 2 ^ 31) : gw_M l G yX8_rounds cX8_rounds 2 (some .boolean) 5 [.ref (G.1 + 189), .int (nI r)] σ (fz (fun q τ => q = tRB T r ∧ RR (τ.1 193) (oTR T r) ∧ SX [193, 197, 198, 199, 200, 201, 202, 203, 205] [15, 20, 22] σ τ ∧ (tRB T r = true → τ.1 189 20 = nI (rL T r)))) := by
  refine gw_met (by decide) (Nat.le_of_ble_eq_true rfl) (fun x C hR hT => sg_X8_rounds_0 C hR hT _ σ ?_)
  rw [show (0 : Int64) = lN 0 from rfl, show (2 : Int64) = lN 2 from rfl, rngI _ (by decide) (by decide), iR_n (by decide) (by decide) hr]
  refine ⟨fun e => ?_, fun e => ⟨_, k_X8_layWorks ia193 hp hv, ?_⟩⟩
  · have et : tRB T r = false := by
      unfold tRB
      have : ¬ r < 3 := fun z => by simp [show r ≤ 2 by omega] at e
      simp [this]
    exact ⟨et.symm, by unfold oTR; rw [if_neg (by rw [et]; decide)]; exact hp, SX.rf, fun z => by rw [et] at z; cases z⟩
  · have hr3 : r < 3 := by
      simp only [Nat.zero_le, decide_true, Bool.true_and, decide_eq_false_iff_not, Nat.not_le] at e
      omega
    have et : tRB T r = rC T r := by unfold tRB; simp [hr3]
    rintro q τ2 ⟨rfl, S2, h15, hd⟩
    have S2' : SX [193, 197, 198, 199, 200, 201, 202, 203, 205] [15, 20, 22] σ τ2 := S2.mono (fun k h => by simp at h; simp; omega) (fun k h => by simp at h; simp; omega)
    have p2 : RR (τ2.1 193) T := by rw [S2.row (by decide) (by decide)]; exact hp
    refine ⟨fun e => ?_, fun e => ?_⟩
    · have ha : agB T = true := by simpa using e
      refine ⟨_, k_X8_copy ia193 gk_205 (a := 0) (c := 0) (n := 96) (by decide) (by decide) (by decide) (by decide) (fun z => absurd z (by decide)), ?_⟩
      intro τ5 h5
      have p5 : RR (τ5.1 193) T := by rw [h5, gw_r_ne _ _ (by decide)]; exact p2
      have q5 : RR (τ5.1 205) T := by rw [h5, gw_r_at]; exact va_cpy_RR p2 hv
      have S5 : SX [193, 197, 198, 199, 200, 201, 202, 203, 205] [15, 20, 22] σ τ5 := S2'.tr (by rw [h5]; exact SX.r (by decide) (by decide))
      refine ⟨_, k_X8_play hr3 p5 hv ha (fun m hm => by rw [h5, gw_r_ne _ _ (by decide)]; exact hd _ (rD_ok ha) m hm), ?_⟩
      rintro τ7 ⟨S7, g1, g2, g3, g4, g5⟩
      have S7' : SX [193, 197, 198, 199, 200, 201, 202, 203, 205] [15, 20, 22] σ τ7 := S5.tr (S7.mono (fun k h => by simp at h; simp; omega) (fun k h => by simp at h; simp; omega))
      rw [g3]
      refine ⟨fun z => ?_, fun z => ?_⟩
      · have zc : rC T r = true := by
          cases y : rC T r
          · rw [y] at z; exact absurd rfl z
          · rfl
        refine ⟨rC T r, rfl, et.symm, ?_, S7', fun _ => g2⟩
        unfold oTR; rw [if_pos (et.trans zc)]; exact g1
      · have zc : rC T r = false := (gz_0 _).mp z
        refine ⟨_, k_X8_copy gk_205 ia193 (a := 0) (c := 0) (n := 96) (by decide) (by decide) (by decide) (by decide) (fun z => absurd z (by decide)), ?_⟩
        rintro τ10 h10
        refine ⟨rC T r, by rw [h10, gw_r_ne _ _ (by decide)]; exact g3, et.symm, ?_, S7'.tr (by rw [h10]; exact SX.r (by decide) (by decide)), fun y => by rw [et, zc] at y; cases y⟩
        unfold oTR
        rw [if_neg (by rw [et, zc]; decide), h10, gw_r_at]
        exact va_cpy_RR (by rw [S7.row (by decide) (by decide)]; exact q5) hv
    · have et2 : tRB T r = false := by rw [et]; unfold rC; rw [e]; rfl
      exact ⟨et2.symm, by unfold oTR; rw [if_neg (by rw [et2]; decide)]; exact p2, S2', fun z => by rw [et2] at z; cases z⟩
end PY
