section PL
variable {l : Launch} {x : gw_X} {G : gw_G} {σ : gw_S} {b : Nat} {T : pT}
theorem k_X3_doWork {m : Nat} (hb : gw_plan b) (hp : RP σ b T) (hv : VT T) (hm : m < tM T) (hc : canW T m) : gw_M l G yX3_doWork cX3_doWork 3 none 1 [.ref (G.1 + b), .int (nI m)] σ (fv (fun τ => RP τ b (oWork T m) ∧ SP b σ τ)) := by
  have h8 := hv.1
  have h14 := hv.2.1
  refine gw_met (by decide) (Nat.le_of_ble_eq_true rfl) (fun x C hR hT => sg_X3_doWork_0 C hR hT b _ hb σ ?_)
  have key : ∀ n i, i + n = tW T → ∀ υ : gw_S, SP b σ υ → (∀ k, k < 8 → υ.1 (b + k) = σ.1 (b + k)) → (∀ w, υ.1 (b + 8) w = if w < i then nI (bh T m w) else σ.1 (b + 8) w) → PW x G 3 2 [(0, .ref (G.1 + b)), (1, .int (nI m)), (2, .int (nI i))] [] υ := by
    intro n
    induction n with
    | zero =>
      intro i hi υ hS h0 h1
      have e0 := h0 0 (by omega)
      simp only [Nat.add_zero] at e0
      refine sg_X3_doWork_2 C hR hT b hb _ _ υ ⟨fun _ => ⟨vp_in_nI (by omega) (by decide), ?_⟩, fun q => absurd ?_ q⟩
      · rintro τ rfl
        rw [nI_clamp (by omega)]
        refine ⟨⟨?_, ?_, fun k hk => ?_, fun w hw => ?_⟩, hS.tr (SP.u (by omega) (by omega))⟩
        · rw [gw_u_k _ _ _ (by omega), e0]; exact hp.1
        · rw [gw_u_k _ _ _ (by omega), e0]; exact hp.2.1
        · obtain ⟨r1, r2, r3⟩ := hp.2.2.1 k hk
          rw [gw_u_k _ _ _ (by omega), gw_u_k _ _ _ (by omega), h0 1 (by omega), h0 2 (by omega)]
          refine ⟨r1, r2, ?_⟩
          show _ = (if k = m then tD T k + 1 else tD T k)
          by_cases e : k = m
          · rw [if_pos e, e, gw_u_at, h0 3 (by omega), (hp.2.2.1 m hm).2.2]
          · rw [if_neg e, gw_u_j _ _ _ e, h0 3 (by omega)]; exact r3
        · obtain ⟨r1, r2, r3, r4, r5⟩ := hp.2.2.2 w hw
          have hw : w < tW T := hw
          rw [gw_u_k _ _ _ (by omega), gw_u_k _ _ _ (by omega), gw_u_k _ _ _ (by omega), gw_u_k _ _ _ (by omega), gw_u_k _ _ _ (by omega), h0 4 (by omega), h0 5 (by omega), h0 6 (by omega), h0 7 (by omega), h1 w, if_pos (by omega)]
          exact ⟨r1, r2, r3, r4, rfl⟩
      · rw [e0, hp.2.1, nI_le_iff (by omega) (by omega)]; omega
    | succ n ih =>
      intro i hi υ hS h0 h1
      have e0 := h0 0 (by omega)
      simp only [Nat.add_zero] at e0
      have hiT : i < tW T := by omega
      obtain ⟨r1, r2, r3, r4, r5⟩ := hp.2.2.2 i hiT
      refine sg_X3_doWork_2 C hR hT b hb _ _ υ ⟨fun q => ?_, fun _ => ⟨vp_in_nI (by omega) (by decide), ?_⟩⟩
      · rw [e0, hp.2.1, nI_le_iff (by omega) (by omega)] at q; omega
      · rw [nI_clamp (by omega), h0 4 (by omega), h0 5 (by omega), h0 6 (by omega), h0 7 (by omega), h1 i, if_neg (by omega), r1, r2, r3, r4, r5, nI_1, mb_eq hv hiT (by omega) (hc i hiT).1]
        rintro τ rfl
        refine ih (i + 1) (by omega) _ (hS.tr (SP.u (by omega) (by omega))) (fun k hk => ?_) (fun w => ?_)
        · rw [gw_u_k _ _ _ (by omega)]; exact h0 k hk
        · by_cases e : w = i
          · rw [e, gw_u_at, if_pos (by omega)]
          · rw [gw_u_j _ _ _ e, h1 w]
            by_cases e2 : w < i
            · rw [if_pos e2, if_pos (by omega)]
            · rw [if_neg e2, if_neg (by omega)]
  exact key (tW T) 0 (by omega) σ SP.rf (fun _ _ => rfl) (fun w => by rw [if_neg (Nat.not_lt_zero w)])
/-- one row after another is put at one place -/
theorem gw_u_if (σ : gw_S) (k j k' j' : Nat) (v : Int32) : (gw_u σ k j v).1 k' j' = if k' = k ∧ j' = j then v else σ.1 k' j' := by
  by_cases e : k' = k
  · subst e
    by_cases e2 : j' = j
    · subst e2; rw [gw_u_at, if_pos ⟨rfl, rfl⟩]
    · rw [gw_u_j _ _ _ e2, if_neg (fun z => e2 z.2)]
  · rw [gw_u_k _ _ _ e, if_neg (fun z => e z.1)]
theorem k_X3_newModule {u k : Nat} (hb : gw_plan b) (hp : RP σ b T) (hv : VT T) (hm : tM T < 8) : gw_M l G yX3_newModule cX3_newModule 3 (some .int) 0 [.ref (G.1 + b), .int (nI u), .int (nI k)] σ (fi (fun r τ => r = nI (tM T) ∧ RP τ b (oAdd T u k) ∧ SP b σ τ)) := by
  have h14 := hv.2.1
  refine gw_met (by decide) (Nat.le_of_ble_eq_true rfl) (fun x C hR hT => sg_X3_newModule_0 C hR hT b _ _ hb σ ?_)
  rw [hp.1, nI_clamp (by omega)]
  refine ⟨vp_in_nI (by omega) (by decide), ?_⟩
  rintro τ1 rfl
  rw [gw_u_k _ _ _ (by omega), hp.1, nI_clamp (by omega)]
  refine ⟨vp_in_nI (by omega) (by decide), ?_⟩
  rintro τ2 rfl
  rw [gw_u_k _ _ _ (by omega), gw_u_k _ _ _ (by omega), hp.1, nI_clamp (by omega)]
  refine ⟨vp_in_nI (by omega) (by decide), ?_⟩
  rintro τ3 rfl τ4 rfl
  rw [gw_u_at, gw_u_k _ _ _ (by omega), gw_u_k _ _ _ (by omega), gw_u_k _ _ _ (by omega), hp.1, nI_1]
  refine ⟨by rw [show (1 : Int32) = nI 1 from rfl, pk_sub (by omega)]; congr 1, ⟨?_, ?_, fun i hi => ?_, fun w hw => ?_⟩, ?_⟩
  · simp [gw_u_if]; rfl
  · simp [gw_u_if]; exact hp.2.1
  · have hi : i < tM T + 1 := hi
    show _ = nI (if i = tM T then u else tU T i) ∧ _ = nI (if i = tM T then k else tK T i) ∧ _ = (if i = tM T then 0 else tD T i)
    by_cases e : i = tM T
    · simp [gw_u_if, e]
    · obtain ⟨r1, r2, r3⟩ := hp.2.2.1 i (by omega)
      simp [gw_u_if, e]
      exact ⟨r1, r2, r3⟩
  · obtain ⟨r1, r2, r3, r4, r5⟩ := hp.2.2.2 w hw
    simp [gw_u_if]
    exact ⟨r1, r2, r3, r4, r5⟩
  · exact (((SP.u (by omega) (by omega)).tr (SP.u (by omega) (by omega))).tr (SP.u (by omega) (by omega))).tr (SP.u (by omega) (by omega))
theorem k_X3_newWire {a c d v h : Nat} (hb : gw_plan b) (hp : RP σ b T) (hv : VT T) (hw : tW T < 14) : gw_M l G yX3_newWire cX3_newWire 6 (some .int) 0 [.ref (G.1 + b), .int (nI a), .int (nI c), .int (nI d), .int (nI v), .int (nI h)] σ (fi (fun r τ => r = nI (tW T) ∧ RP τ b (oLay T a c d v h) ∧ SP b σ τ)) := by
  have h8 := hv.1
  refine gw_met (by decide) (Nat.le_of_ble_eq_true rfl) (fun x C hR hT => sg_X3_newWire_0 C hR hT b _ _ _ _ _ hb σ ?_)
  rw [hp.2.1, nI_clamp (by omega)]
  refine ⟨vp_in_nI (by omega) (by decide), ?_⟩
  rintro τ1 rfl
  rw [gw_u_k _ _ _ (by omega), hp.2.1, nI_clamp (by omega)]
  refine ⟨vp_in_nI (by omega) (by decide), ?_⟩
  rintro τ2 rfl
  rw [gw_u_k _ _ _ (by omega), gw_u_k _ _ _ (by omega), hp.2.1, nI_clamp (by omega)]
  refine ⟨vp_in_nI (by omega) (by decide), ?_⟩
  rintro τ3 rfl
  rw [gw_u_k _ _ _ (by omega), gw_u_k _ _ _ (by omega), gw_u_k _ _ _ (by omega), hp.2.1, nI_clamp (by omega)]
  refine ⟨vp_in_nI (by omega) (by decide), ?_⟩
  rintro τ4 rfl
  rw [gw_u_k _ _ _ (by omega), gw_u_k _ _ _ (by omega), gw_u_k _ _ _ (by omega), gw_u_k _ _ _ (by omega), hp.2.1, nI_clamp (by omega)]
  refine ⟨vp_in_nI (by omega) (by decide), ?_⟩
  rintro τ5 rfl τ6 rfl
  rw [gw_u_at, gw_u_k _ _ _ (by omega), gw_u_k _ _ _ (by omega), gw_u_k _ _ _ (by omega), gw_u_k _ _ _ (by omega), gw_u_k _ _ _ (by omega), hp.2.1, nI_1]
  refine ⟨by rw [show (1 : Int32) = nI 1 from rfl, pk_sub (by omega)]; congr 1, ⟨?_, ?_, fun i hi => ?_, fun i hi => ?_⟩, ?_⟩
  · simp [gw_u_if]; exact hp.1
  · simp [gw_u_if]; rfl
  · obtain ⟨r1, r2, r3⟩ := hp.2.2.1 i hi
    simp [gw_u_if]
    exact ⟨r1, r2, r3⟩
  · have hi : i < tW T + 1 := hi
    show _ = nI (if i = tW T then a else tF T i) ∧ _ = nI (if i = tW T then c else tO T i) ∧ _ = nI (if i = tW T then d else tC T i) ∧ _ = nI (if i = tW T then v else tV T i) ∧ _ = nI (if i = tW T then h else tH T i)
    by_cases e : i = tW T
    · simp [gw_u_if, e]
    · obtain ⟨r1, r2, r3, r4, r5⟩ := hp.2.2.2 i (by omega)
      simp [gw_u_if, e]
      exact ⟨r1, r2, r3, r4, r5⟩
  · exact (((((SP.u (by omega) (by omega)).tr (SP.u (by omega) (by omega))).tr (SP.u (by omega) (by omega))).tr (SP.u (by omega) (by omega))).tr (SP.u (by omega) (by omega))).tr (SP.u (by omega) (by omega))
theorem k_X3_dropWire {w : Nat} (hb : gw_plan b) (hp : RP σ b T) (hv : VT T) (hw : w < tW T) : gw_M l G yX3_dropWire cX3_dropWire 4 (some .int) 0 [.ref (G.1 + b), .int (nI w)] σ (fi (fun r τ => r = nI (tH T w) ∧ RP τ b (oCut T w) ∧ SP b σ τ)) := by
  have h8 := hv.1
  have h14 := hv.2.1
  refine gw_met (by decide) (Nat.le_of_ble_eq_true rfl) (fun x C hR hT => sg_X3_dropWire_0 C hR hT b _ hb σ ⟨vp_in_nI (by omega) (by decide), ?_⟩)
  rintro τ0 rfl
  rw [nI_clamp (by omega), (hp.2.2.2 w hw).2.2.2.2, hp.2.1, show (1 : Int32) = nI 1 from rfl, pk_sub (by omega)]
  have key : ∀ n i, i + n = tW T - 1 → w ≤ i → ∀ υ : gw_S, SP b σ υ → (υ.1 b 0 = σ.1 b 0 ∧ υ.1 b 4 = nI (tW T - 1)) → (∀ k, 0 < k → k < 4 → υ.1 (b + k) = σ.1 (b + k)) → (∀ k, 4 ≤ k → k < 9 → ∀ j, υ.1 (b + k) j = if w ≤ j ∧ j < i then σ.1 (b + k) (j + 1) else σ.1 (b + k) j) → PW x G 4 19 [(0, .ref (G.1 + b)), (1, .int (nI w)), (2, .int (nI (tH T w))), (3, .int (nI i))] [] υ := by
    intro n
    induction n with
    | zero =>
      intro i hi hwi υ hS h0 h1 h2
      refine sg_X3_dropWire_19 C hR hT b hb _ _ _ υ ⟨fun _ => ?_, fun q => absurd ?_ q⟩
      · refine ⟨rfl, ⟨h0.1.trans hp.1, h0.2, fun k hk => ?_, fun j hj => ?_⟩, hS⟩
        · rw [h1 1 (by omega) (by omega), h1 2 (by omega) (by omega), h1 3 (by omega) (by omega)]
          exact hp.2.2.1 k hk
        · have hj : j < tW T - 1 := hj
          rw [h2 4 (by omega) (by omega), h2 5 (by omega) (by omega), h2 6 (by omega) (by omega), h2 7 (by omega) (by omega), h2 8 (by omega) (by omega)]
          show _ = nI (if j < w then tF T j else tF T (j + 1)) ∧ _ = nI (if j < w then tO T j else tO T (j + 1)) ∧ _ = nI (if j < w then tC T j else tC T (j + 1)) ∧ _ = nI (if j < w then tV T j else tV T (j + 1)) ∧ _ = nI (if j < w then tH T j else tH T (j + 1))
          by_cases e : j < w
          · simp only [if_pos e, if_neg (show ¬ (w ≤ j ∧ j < i) by omega)]
            exact hp.2.2.2 j (by omega)
          · simp only [if_neg e, if_pos (show w ≤ j ∧ j < i by omega)]
            exact hp.2.2.2 (j + 1) (by omega)
      · rw [h0.2, nI_le_iff (by omega) (by omega)]; omega
    | succ n ih =>
      intro i hi hwi υ hS h0 h1 h2
      refine sg_X3_dropWire_19 C hR hT b hb _ _ _ υ ⟨fun q => ?_, fun _ => ?_⟩
      · rw [h0.2, nI_le_iff (by omega) (by omega)] at q; omega
      · rw [nI_1, nI_clamp (by omega), nI_clamp (by omega)]
        refine ⟨vp_in_nI (by omega) (by decide), vp_in_nI (by omega) (by decide), ?_⟩
        rintro τ1 rfl τ2 rfl τ3 rfl τ4 rfl τ5 rfl
        refine ih (i + 1) (by omega) (by omega) _ (((((hS.tr (SP.u (by omega) (by omega))).tr (SP.u (by omega) (by omega))).tr (SP.u (by omega) (by omega))).tr (SP.u (by omega) (by omega))).tr (SP.u (by omega) (by omega))) ?_ (fun k hk1 hk2 => ?_) (fun k hk1 hk2 j => ?_)
        · simp [gw_u_if]; exact h0
        · funext j
          simp [gw_u_if, show ¬ k = 4 by omega, show ¬ k = 5 by omega, show ¬ k = 6 by omega, show ¬ k = 7 by omega, show ¬ k = 8 by omega]
          rw [h1 k hk1 hk2]
        · rcases (show k = 4 ∨ k = 5 ∨ k = 6 ∨ k = 7 ∨ k = 8 by omega) with rfl | rfl | rfl | rfl | rfl <;>
          · by_cases e : j = i
            · subst e
              simp [gw_u_if]
              rw [h2 _ (by omega) (by omega), if_neg (by omega), if_pos hwi]
            · simp [gw_u_if, e]
              rw [h2 _ (by omega) (by omega)]
              by_cases e2 : w ≤ j ∧ j < i
              · rw [if_pos e2, if_pos (by omega)]
              · rw [if_neg e2, if_neg (by omega)]
  exact key (tW T - 1 - w) w (by omega) (Nat.le_refl w) _ (SP.u (by omega) (by omega)) ⟨gw_u_j _ _ _ (by omega), gw_u_at _ _ _ _⟩ (fun k h1 h2 => gw_u_k _ _ _ (by omega)) (fun k h1 h2 j => by rw [gw_u_k _ _ _ (by omega), if_neg (by omega)])
theorem k_X3_become {b1 : Nat} (hb : gw_plan b) (hb1 : gw_plan b1) (hd : b + 9 ≤ b1 ∨ b1 + 9 ≤ b) (hp : RP σ b1 T) (hv : VT T) : gw_M l G yX3_become cX3_become 2 none 1 [.ref (G.1 + b), .ref (G.1 + b1)] σ (fv (fun τ => RP τ b T ∧ SP b σ τ)) := by
  have h8 := hv.1
  have h14 := hv.2.1
  refine gw_met (by decide) (Nat.le_of_ble_eq_true rfl) (fun x C hR hT => sg_X3_become_0 C hR hT b b1 hb hb1 σ ?_)
  have c8 : ((8 : Int32)).toNatClampNeg = 8 := by decide
  have c14 : ((14 : Int32)).toNatClampNeg = 14 := by decide
  have c0 : ((0 : Int32)).toNatClampNeg = 0 := by decide
  rw [c8, c14, c0]
  rintro τ1 e1 τ2 e2 τ3 e3 τ4 e4 τ5 e5 τ6 e6 τ7 e7 τ8 e8 τ9 e9 τ10 e10
  have s1 : SP b σ τ1 := by rw [e1]; exact SP.u (by omega) (by omega)
  have s2 : SP b σ τ2 := by rw [e2]; exact s1.tr (SP.r (by omega) (by omega))
  have s3 : SP b σ τ3 := by rw [e3]; exact s2.tr (SP.r (by omega) (by omega))
  have s4 : SP b σ τ4 := by rw [e4]; exact s3.tr (SP.r (by omega) (by omega))
  have s5 : SP b σ τ5 := by rw [e5]; exact s4.tr (SP.u (by omega) (by omega))
  have s6 : SP b σ τ6 := by rw [e6]; exact s5.tr (SP.r (by omega) (by omega))
  have s7 : SP b σ τ7 := by rw [e7]; exact s6.tr (SP.r (by omega) (by omega))
  have s8 : SP b σ τ8 := by rw [e8]; exact s7.tr (SP.r (by omega) (by omega))
  have s9 : SP b σ τ9 := by rw [e9]; exact s8.tr (SP.r (by omega) (by omega))
  have s10 : SP b σ τ10 := by rw [e10]; exact s9.tr (SP.r (by omega) (by omega))
  have b1' : b1 < b ∨ b + 9 ≤ b1 := by omega
  have f0 : τ10.1 b = τ5.1 b := by rw [e10, gw_r_ne _ _ (by omega), e9, gw_r_ne _ _ (by omega), e8, gw_r_ne _ _ (by omega), e7, gw_r_ne _ _ (by omega), e6, gw_r_ne _ _ (by omega)]
  have f00 : τ4.1 b = τ1.1 b := by rw [e4, gw_r_ne _ _ (by omega), e3, gw_r_ne _ _ (by omega), e2, gw_r_ne _ _ (by omega)]
  have f1 : τ10.1 (b + 1) = τ2.1 (b + 1) := by rw [e10, gw_r_ne _ _ (by omega), e9, gw_r_ne _ _ (by omega), e8, gw_r_ne _ _ (by omega), e7, gw_r_ne _ _ (by omega), e6, gw_r_ne _ _ (by omega), e5, gw_u_k _ _ _ (by omega), e4, gw_r_ne _ _ (by omega), e3, gw_r_ne _ _ (by omega)]
  have f2 : τ10.1 (b + 2) = τ3.1 (b + 2) := by rw [e10, gw_r_ne _ _ (by omega), e9, gw_r_ne _ _ (by omega), e8, gw_r_ne _ _ (by omega), e7, gw_r_ne _ _ (by omega), e6, gw_r_ne _ _ (by omega), e5, gw_u_k _ _ _ (by omega), e4, gw_r_ne _ _ (by omega)]
  have f3 : τ10.1 (b + 3) = τ4.1 (b + 3) := by rw [e10, gw_r_ne _ _ (by omega), e9, gw_r_ne _ _ (by omega), e8, gw_r_ne _ _ (by omega), e7, gw_r_ne _ _ (by omega), e6, gw_r_ne _ _ (by omega), e5, gw_u_k _ _ _ (by omega)]
  have f4 : τ10.1 (b + 4) = τ6.1 (b + 4) := by rw [e10, gw_r_ne _ _ (by omega), e9, gw_r_ne _ _ (by omega), e8, gw_r_ne _ _ (by omega), e7, gw_r_ne _ _ (by omega)]
  have f5 : τ10.1 (b + 5) = τ7.1 (b + 5) := by rw [e10, gw_r_ne _ _ (by omega), e9, gw_r_ne _ _ (by omega), e8, gw_r_ne _ _ (by omega)]
  have f6 : τ10.1 (b + 6) = τ8.1 (b + 6) := by rw [e10, gw_r_ne _ _ (by omega), e9, gw_r_ne _ _ (by omega)]
  have f7 : τ10.1 (b + 7) = τ9.1 (b + 7) := by rw [e10, gw_r_ne _ _ (by omega)]
  refine ⟨⟨?_, ?_, fun m hm => ?_, fun w hw => ?_⟩, s10⟩
  · rw [f0, e5, gw_u_j _ _ _ (by omega), f00, e1, gw_u_at]; exact hp.1
  · rw [f0, e5, gw_u_at, s4.2 _ b1']; exact hp.2.1
  · have hm : m < tM T := hm
    rw [f1, f2, f3, e2, e3, e4, gw_r_at, gw_r_at, gw_r_at, pk_cpy_in (Nat.zero_le _) (by omega), pk_cpy_in (Nat.zero_le _) (by omega), pk_cpy_in (Nat.zero_le _) (by omega), s1.2 _ (by omega), s2.2 _ (by omega), s3.2 _ (by omega), Nat.zero_add, Nat.sub_zero]
    exact hp.2.2.1 m hm
  · have hw : w < tW T := hw
    rw [f4, f5, f6, f7, e6, e7, e8, e9, e10, gw_r_at, gw_r_at, gw_r_at, gw_r_at, gw_r_at, pk_cpy_in (Nat.zero_le _) (by omega), pk_cpy_in (Nat.zero_le _) (by omega), pk_cpy_in (Nat.zero_le _) (by omega), pk_cpy_in (Nat.zero_le _) (by omega), pk_cpy_in (Nat.zero_le _) (by omega), s5.2 _ (by omega), s6.2 _ (by omega), s7.2 _ (by omega), s8.2 _ (by omega), s9.2 _ (by omega), Nat.zero_add, Nat.sub_zero]
    exact hp.2.2.2 w hw
end PL
