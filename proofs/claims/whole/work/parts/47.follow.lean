/-! the class follows a round -/
theorem uk {σ τ : gw_S} {k j : Nat} {v : Int32} (h : τ = gw_u σ k j v) : (∀ q, q ≠ k → τ.1 q = σ.1 q) ∧ τ.1 k = upd (σ.1 k) j v ∧ τ.2 = σ.2 := by
  subst h
  exact ⟨fun q hq => gw_u_k _ _ _ hq, gw_r_at _ _ _, rfl⟩
theorem ukF {σ τ : gw_S} {k j lo hi : Nat} {v : Int32} (h : τ = gw_u σ k j v) (h1 : lo ≤ k) (h2 : k < hi) : FX lo hi σ τ := by
  subst h; exact FX.u h1 h2
noncomputable def rK (T : pT) (r j : Nat) : Nat := (qN (rD T) r (rQ T r j)).getD 0
theorem rK_ok {T : pT} {r j : Nat} (hv : VT T) (hj : j < rL T r) : qN (rD T) r (rQ T r j) = some (rK T r j) := by
  unfold rK
  cases e : qN (rD T) r (rQ T r j) with
  | none => exact absurd e ((rL_ok r hv).2 j hj)
  | some m => rfl
section CO
variable {l : Launch} {G : gw_G} {σ : gw_S} {T : pT}
theorem k_X0_take {D : Nat → Nat} {s : qS} {t r m : Nat} (hS : CS D s t σ) (hI : QI T D s t) (hD : ∀ m, m < tM T → D m ≤ 60) (ht : t < 480) (hn : qN D r s = some m) : gw_M l G yX0_take cX0_take 3 none 2 [.ref (G.1 + 151), .int (nI m)] σ (fv (fun τ => CS D (qW s m) (t + 1) τ ∧ τ.1 165 = upd (σ.1 165) t (nI m) ∧ τ.1 151 = upd (σ.1 151) 8 (nI (t + 1)) ∧ FX 151 167 σ τ)) := by
  obtain ⟨n1, n2, n3, n4⟩ := QI_n hI hn
  obtain ⟨s1, s2, s3, s4, s5, s6⟩ := hS
  obtain ⟨i1, i2, i3, i4, i5, i6, i7, i8, i9⟩ := hI
  have h8 := i1.1
  have h14 := i1.2.1
  have hDm := hD m n1
  refine gw_met (by decide) (Nat.le_of_ble_eq_true rfl) (fun x C hR hT => sg_X0_take_0 C hR hT _ σ ?_)
  rw [s4, nI_clamp (by omega), nI_clamp (by omega)]
  refine ⟨fun z => ?_, fun _ => ⟨vp_in_nI (by omega) (by decide), ?_⟩⟩
  · rw [show (480 : Int32) = nI 480 from rfl, nI_le_iff (by omega) (by omega)] at z; omega
  intro τ2 h2 τ3 h3
  obtain ⟨a1, a2, a3⟩ := uk h2
  obtain ⟨b1, b2, b3⟩ := uk h3
  refine ⟨vp_in_nI (by omega) (by decide), ?_⟩
  intro τ5 h5
  obtain ⟨c1, c2, c3⟩ := uk h5
  rw [b1 163 (by decide), a1 163 (by decide), s2 m (by omega), show (1 : Int32) = nI 1 from rfl, pk_sub (by omega)] at c2
  rw [a1 151 (by decide), s4, nI_1] at b2
  have F5 : ∀ k, k ≠ 165 → k ≠ 151 → k ≠ 163 → τ5.1 k = σ.1 k := fun k h1 h2 h3 => by rw [c1 k h3, b1 k h2, a1 k h1]
  have X5 : FX 151 167 σ τ5 := ((ukF h2 (by decide) (by decide)).tr (ukF h3 (by decide) (by decide))).tr (ukF h5 (by decide) (by decide))
  refine ⟨_, k_X3_doWork gp154 (s1.cong (fun i hi => F5 _ (by omega) (by omega) (by omega))) i1 (by omega) n2, ?_⟩
  rintro τ7 ⟨w1, w2⟩
  have mk : ∀ w, w < tW s.1 → τ7.1 162 w = nI (tH (oWork s.1 m) w) := fun w hw => (w1.2.2.2 w hw).2.2.2.2
  have hW : τ7.1 154 4 = nI (tW s.1) := w1.2.1
  have vw := VT_work i1 n2
  have key : ∀ d i, i + d = tW s.1 → ∀ g : Nat → Int32, (∀ w, w < tW s.1 → g w = nI (if w < i then (qW s m).2.2.2 w else s.2.2.2 w)) → PW x G 3 52 [(0, .ref (G.1 + 151)), (1, .int (nI m)), (2, .int (nI i))] [] (gw_r τ7 166 g) := by
    intro d
    induction d with
    | zero =>
      intro i hi g hg
      refine sg_X0_take_52 C hR hT _ _ _ ⟨fun _ => ⟨⟨?_, fun j hj => ?_, fun j hj => ?_, ?_, fun _ => ?_, fun w hw => ?_⟩, ?_, ?_, ?_⟩, fun z => absurd ?_ z⟩
      · exact w1.cong (fun i hi => gw_r_ne _ _ (by omega))
      · have hj : j < tM s.1 := hj
        show _ = nI (D j - uN s.2.1 m (s.2.1 m + 1) j)
        rw [gw_r_ne _ _ (by decide), w2.2 163 (by omega), c2]
        by_cases e : j = m
        · subst e; rw [pk_us, uN_at]; congr 1
        · rw [pk_un e, uN_ne _ _ e, s2 j hj]
      · rw [gw_r_ne _ _ (by decide), w2.2 164 (by omega), F5 164 (by decide) (by decide) (by decide)]
        exact s3 j hj
      · rw [gw_r_ne _ _ (by decide), w2.2 151 (by omega), c1 151 (by decide), b2, pk_us]
      · show _ = nI (m + 1 - 1)
        rw [gw_r_ne _ _ (by decide), w2.2 165 (by omega), c1 165 (by decide), b1 165 (by decide), a2, show t + 1 - 1 = t by omega, pk_us, show m + 1 - 1 = m by omega]
      · have hw : w < tW s.1 := hw
        rw [gw_r_at, hg w hw, if_pos (by omega)]
      · rw [gw_r_ne _ _ (by decide), w2.2 165 (by omega), c1 165 (by decide), b1 165 (by decide), a2]
      · rw [gw_r_ne _ _ (by decide), w2.2 151 (by omega), c1 151 (by decide), b2]
      · exact (X5.tr (w2.fx.mono (by decide) (by decide))).tr (FX.r (by decide) (by decide))
      · rw [gw_r_ne _ _ (by decide), hW, nI_le_iff (by omega) (by omega)]; omega
    | succ d ih =>
      intro i hi g hg
      refine sg_X0_take_52 C hR hT _ _ _ ⟨fun z => ?_, fun _ => ⟨vp_in_nI (by omega) (by decide), ?_⟩⟩
      · rw [gw_r_ne _ _ (by decide), hW, nI_le_iff (by omega) (by omega)] at z; omega
      · rintro υ rfl
        have hm7 := i7 i (by omega)
        have hh7 := (vw.2.2.2 i (by show i < tW s.1; omega)).2.2.2.2.2.2
        rw [nI_clamp (by omega), gw_u_r, gw_r_at, gw_r_ne _ _ (by decide), mk i (by omega), hg i (by omega), if_neg (Nat.lt_irrefl i), gif (nI_ltI (by omega) (by omega)), nI_1]
        refine ih (i + 1) (by omega) _ (fun w hw => ?_)
        by_cases e : w = i
        · subst e
          rw [pk_us, if_pos (show w < w + 1 by omega)]
          show _ = nI (if s.2.2.2 w < tH (oWork s.1 m) w then tH (oWork s.1 m) w else s.2.2.2 w)
          split <;> rfl
        · rw [pk_un e, hg w hw]
          by_cases e2 : w < i
          · rw [if_pos e2, if_pos (by omega)]
          · rw [if_neg e2, if_neg (by omega)]
  have := key (tW s.1) 0 (by omega) (τ7.1 166) (fun w hw => by
    rw [if_neg (Nat.not_lt_zero w), w2.2 166 (by omega), F5 166 (by decide) (by decide) (by decide)]; exact s6 w hw)
  rw [gw_r_self] at this
  exact this
/-- what a followed round leaves -/
def FO (T : pT) (r : Nat) (τ : gw_S) : Prop := τ.1 151 6 = gz (agB T) ∧ τ.1 151 7 = nI (if agB T = true then sN (rD T) (tM T) else 0) ∧ τ.1 151 8 = nI (if agB T = true then rL T r else 0) ∧ RP τ 154 (if agB T = true then (rE T r).1 else T) ∧ (agB T = true → (∀ j, j < rL T r → τ.1 165 j = nI (rK T r j)) ∧ ∀ w, w < tW T → τ.1 166 w = nI ((rE T r).2.2.2 w))
theorem k_X0_follow {b r : Nat} (hb : gw_plan b) (hd : b + 9 ≤ 151 ∨ 167 ≤ b) (hp : RP σ b T) (hv : VT T) (hr : r < 3) : gw_M l G yX0_follow cX0_follow 5 none 3 [.ref (G.1 + 151), .ref (G.1 + b), .int (nI r)] σ (fv (fun τ => FO T r τ ∧ FX 151 167 σ τ)) := by
  have h8 := hv.1
  have h14 := hv.2.1
  refine gw_met (by decide) (Nat.le_of_ble_eq_true rfl) (fun x C hR hT => sg_X0_follow_0 C hR hT b _ hb σ ⟨_, k_X3_become gp154 hb (by omega) hp hv, ?_⟩)
  rintro τ2 ⟨p2, S2⟩
  refine ⟨_, k_X4_agreeIn gr_152 gp154 (by decide) p2 hv, ?_⟩
  rintro q τ4 ⟨rfl, g, h4, hg⟩ τ6 h6
  have X4 : FX 151 167 σ τ4 := (S2.fx.mono (by decide) (by decide)).tr (by subst h4; exact (FX.u (by decide) (by decide)).tr (FX.r (by decide) (by decide)))
  have p4 : RP τ4 154 T := by subst h4; exact p2.cong (fun i hi => by rw [gw_r_ne _ _ (by omega), gw_u_k _ _ _ (by omega)])
  have e152 : τ4.1 152 1 = nI (tM T) := by subst h4; rw [gw_r_ne _ _ (by decide), gw_u_at]
  have e153 : τ4.1 153 = g := by subst h4; exact gw_r_at _ _ _
  obtain ⟨a1, a2, a3⟩ := uk h6
  have X6 := X4.tr (ukF h6 (lo := 151) (hi := 167) (by decide) (by decide))
  have z6 : τ6.1 151 6 = gz (agB T) := by rw [a2, pk_us]
  rw [z6]
  refine ⟨fun e => ?_, fun e => ?_⟩
  · have ea : agB T = false := (gz_0 _).mp e
    intro τ7 h7 τ8 h8'
    obtain ⟨b1, b2, b3⟩ := uk h7
    obtain ⟨c1, c2, c3⟩ := uk h8'
    have z8 : τ8.1 151 6 = 0 := by rw [c2, pk_un (by decide), b2, pk_un (by decide), z6, ea]; rfl
    rw [z8]
    refine ⟨fun z => absurd rfl z, fun _ => ⟨⟨?_, ?_, ?_, ?_, fun z => by rw [ea] at z; cases z⟩, (X6.tr (ukF h7 (by decide) (by decide))).tr (ukF h8' (by decide) (by decide))⟩⟩
    · rw [z8, ea]; rfl
    · rw [c2, pk_un (by decide), b2, pk_us, ea]; rfl
    · rw [c2, pk_us, ea]; rfl
    · rw [ea]
      exact p4.cong (fun i hi => by rw [c1 _ (by omega), b1 _ (by omega), a1 _ (by omega)])
  · have ea : agB T = true := by
      cases z : agB T
      · rw [z] at e; exact absurd rfl e
      · rfl
    have hdu := rD_ok ea
    have hgd := hg _ hdu
    obtain ⟨L1, L2⟩ := rL_480 (r := r) hv ea
    refine ⟨_, k_X4_total gr_152 h8 (M := tM T) (D := rD T) (by rw [a1 152 (by decide)]; exact e152) (fun i hi => by rw [show (152 : Nat) + 1 = 153 from rfl, a1 153 (by decide), e153]; exact hgd i hi), ?_⟩
    rintro q τ10 ⟨rfl, rfl⟩ τ12 h12 τ13 h13
    obtain ⟨b1, b2, b3⟩ := uk h12
    obtain ⟨c1, c2, c3⟩ := uk h13
    have X13 := (X6.tr (ukF h12 (lo := 151) (hi := 167) (by decide) (by decide))).tr (ukF h13 (lo := 151) (hi := 167) (by decide) (by decide))
    have y6 : τ13.1 151 6 = 1 := by rw [c2, pk_un (by decide), b2, pk_un (by decide), z6, ea]; rfl
    have y7 : τ13.1 151 7 = nI (sN (rD T) (tM T)) := by rw [c2, pk_un (by decide), b2, pk_us]
    have y8 : τ13.1 151 8 = nI 0 := by rw [c2, pk_us]; rfl
    have keep : ∀ k, k ≠ 151 → τ13.1 k = τ4.1 k := fun k hk => by rw [c1 k hk, b1 k hk, a1 k hk]
    rw [y6]
    refine ⟨fun _ => ?_, fun z => absurd z (by decide)⟩
    have p13 : RP τ13 154 T := p4.cong (fun i hi => keep _ (by omega))
    have d13 : ∀ m, m < tM T → τ13.1 153 m = nI (rD T m) := fun m hm => by rw [keep 153 (by decide), e153]; exact hgd m hm
    -- the loop of a round
    have main : ∀ d t, t + d = rL T r → ∀ υ : gw_S, CS (rD T) (rQ T r t) t υ → (∀ j, j < t → υ.1 165 j = nI (rK T r j)) → υ.1 151 6 = 1 → υ.1 151 7 = nI (sN (rD T) (tM T)) → FX 151 167 σ υ → PW x G 5 149 [(0, .ref (G.1 + 151)), (1, .ref (G.1 + b)), (2, .int (nI r)), (3, .int (oI (qN (rD T) r (rQ T r t)))), (4, .int (nI t))] [] υ := by
      intro d
      induction d with
      | zero =>
        intro t ht υ hC hf u6 u7 hX
        have et : t = rL T r := by omega
        subst et
        have hnone : qN (rD T) r (rQ T r (rL T r)) = none := (rL_ok r hv).1
        have hI := rE_I (r := r) hv
        have hend : FO T r υ ∧ FX 151 167 σ υ := by
          refine ⟨⟨by rw [u6, ea]; rfl, by rw [u7, if_pos ea], by rw [hC.2.2.2.1, if_pos ea], ?_, fun _ => ⟨hf, fun w hw => ?_⟩⟩, hX⟩
          · rw [if_pos ea]; exact hC.1
          · exact hC.2.2.2.2.2 w (by show w < tW (rE T r).1; rw [hI.2.2.1]; exact hw)
        refine sg_X0_follow_149 C hR hT b hb _ _ _ υ ⟨fun _ => hend, fun _ => ⟨fun _ => hend, fun z => absurd ?_ z⟩⟩
        rw [hnone]; rfl
      | succ d ih =>
        intro t ht υ hC hf u6 u7 hX
        have hk := rK_ok (T := T) (r := r) (j := t) hv (by omega)
        have hI := rQ_I (T := T) (r := r) (t := t) hv (by omega)
        obtain ⟨n1, n2, n3, n4⟩ := QI_n hI hk
        have hle := QI_le n3
        have hnx : rQ T r (t + 1) = qW (rQ T r t) (rK T r t) := qT_s hk
        rw [hk]
        refine sg_X0_follow_149 C hR hT b hb _ _ _ υ ⟨fun z => ?_, fun _ => ⟨fun z => absurd z (nI_m1 (by omega)), fun _ => ⟨_, k_X0_take hC hI hdu.2.2 (by omega) hk, ?_⟩⟩⟩
        · rw [u7, nI_le_iff (by omega) (by omega)] at z; omega
        · rintro τ' ⟨t1, t2, t3, t4⟩
          rw [← hnx] at t1 n3
          have hf' : ∀ j, j < t + 1 → τ'.1 165 j = nI (rK T r j) := fun j hj => by
            rw [t2]
            by_cases e : j = t
            · rw [e, pk_us]
            · rw [pk_un e]; exact hf j (by omega)
          refine ⟨_, k_X0_choose hr t1 n3 hdu.2.2 (by omega) hf', ?_⟩
          rintro q υ' ⟨rfl, rfl⟩
          rw [nI_1]
          exact ih (t + 1) (by omega) υ' t1 hf' (by rw [t3, pk_un (by decide)]; exact u6) (by rw [t3, pk_un (by decide)]; exact u7) (hX.tr t4)
    have mosts : ∀ d i, i + d = tW T → ∀ υ : gw_S, RP υ 154 T → (∀ m, m < tM T → υ.1 163 m = nI (rD T m) ∧ υ.1 164 m = gI T m) → υ.1 151 = τ13.1 151 → FX 151 167 σ υ → (∀ w, w < i → υ.1 166 w = nI (tH T w)) → PW x G 5 108 [(0, .ref (G.1 + 151)), (1, .ref (G.1 + b)), (2, .int (nI r)), (3, .int (nI i))] [] υ := by
      intro d
      induction d with
      | zero =>
        intro i hi υ hp' hl h151 hX hm
        have hC : CS (rD T) (rQ T r 0) 0 υ := ⟨hp', fun m hm => (hl m hm).1, fun m hm => (hl m hm).2, by rw [h151]; exact y8, fun z => absurd z (Nat.lt_irrefl 0), fun w hw => hm w (by have : w < tW T := hw; omega)⟩
        refine sg_X0_follow_108 C hR hT b hb _ _ υ ⟨fun _ => ⟨_, k_X0_choose hr hC (QI_0 hv) hdu.2.2 (by omega) (f := fun _ => 0) (fun j hj => absurd hj (Nat.not_lt_zero j)), ?_⟩, fun z => absurd ?_ z⟩
        · rintro q υ' ⟨rfl, rfl⟩
          exact main (rL T r) 0 (by omega) υ' hC (fun j hj => absurd hj (Nat.not_lt_zero j)) (by rw [h151]; exact y6) (by rw [h151]; exact y7) hX
        · rw [hp'.2.1, nI_le_iff (by omega) (by omega)]; omega
      | succ d ih =>
        intro i hi υ hp' hl h151 hX hm
        refine sg_X0_follow_108 C hR hT b hb _ _ υ ⟨fun z => ?_, fun _ => ⟨vp_in_nI (by omega) (by decide), ?_⟩⟩
        · rw [hp'.2.1, nI_le_iff (by omega) (by omega)] at z; omega
        · intro υ' hu
          have hmk : υ.1 162 i = nI (tH T i) := (hp'.2.2.2 i (by omega)).2.2.2.2
          rw [nI_clamp (by omega), hmk] at hu
          obtain ⟨v1, v2, v3⟩ := uk hu
          rw [nI_1]
          refine ih (i + 1) (by omega) υ' (hp'.cong (fun j hj => v1 _ (by omega))) (fun m hm => by rw [v1 163 (by decide), v1 164 (by decide)]; exact hl m hm) (by rw [v1 151 (by decide)]; exact h151) (hX.tr (ukF hu (by decide) (by decide))) (fun w hw => ?_)
          rw [v2]
          by_cases e : w = i
          · rw [e, pk_us]
          · rw [pk_un e]; exact hm w (by omega)
    have lefts : ∀ d i, i + d = tM T → ∀ υ : gw_S, RP υ 154 T → (∀ m, m < tM T → υ.1 153 m = nI (rD T m)) → (∀ m, m < i → υ.1 163 m = nI (rD T m) ∧ υ.1 164 m = gI T m) → υ.1 151 = τ13.1 151 → FX 151 167 σ υ → PW x G 5 60 [(0, .ref (G.1 + 151)), (1, .ref (G.1 + b)), (2, .int (nI r)), (3, .int (nI i))] [] υ := by
      intro d
      induction d with
      | zero =>
        intro i hi υ hp' hdd hl h151 hX
        refine sg_X0_follow_60 C hR hT b hb _ _ υ ⟨fun _ => mosts (tW T) 0 (by omega) υ hp' (fun m hm => hl m (by omega)) h151 hX (fun w hw => absurd hw (Nat.not_lt_zero w)), fun z => absurd ?_ z⟩
        rw [hp'.1, nI_le_iff (by omega) (by omega)]; omega
      | succ d ih =>
        intro i hi υ hp' hdd hl h151 hX
        refine sg_X0_follow_60 C hR hT b hb _ _ υ ⟨fun z => ?_, fun _ => ⟨vp_in_nI (by omega) (by decide), ?_⟩⟩
        · rw [hp'.1, nI_le_iff (by omega) (by omega)] at z; omega
        · intro υ2 hu2
          rw [nI_clamp (by omega), hdd i (by omega)] at hu2
          obtain ⟨v1, v2, v3⟩ := uk hu2
          have hp2 : RP υ2 154 T := hp'.cong (fun j hj => v1 _ (by omega))
          refine ⟨_, k_X3_gain gp154 hp2 hv (by omega), ?_⟩
          rintro q υ4 ⟨rfl, rfl⟩ υ6 hu6
          rw [nI_clamp (by omega)] at hu6
          obtain ⟨x1, x2, x3⟩ := uk hu6
          rw [nI_1]
          refine ih (i + 1) (by omega) υ6 (hp2.cong (fun j hj => x1 _ (by omega))) (fun m hm => by rw [x1 153 (by decide), v1 153 (by decide)]; exact hdd m hm) (fun m hm => ?_) (by rw [x1 151 (by decide), v1 151 (by decide)]; exact h151) ((hX.tr (ukF hu2 (by decide) (by decide))).tr (ukF hu6 (by decide) (by decide)))
          rw [x1 163 (by decide), v2, x2]
          by_cases e : m = i
          · rw [e, pk_us, pk_us]; exact ⟨rfl, rfl⟩
          · rw [pk_un e, pk_un e, v1 164 (by decide)]; exact hl m (by omega)
    exact lefts (tM T) 0 (by omega) τ13 p13 d13 (fun m hm => absurd hm (Nat.not_lt_zero m)) rfl X13
end CO
