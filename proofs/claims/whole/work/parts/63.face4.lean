/-! the class's calls: fewest, agrees, scripts, simulations, slots -/
section FC
variable {l : Launch} {G : gw_G} {σ : gw_S} {A : aS}
theorem RP_put {τ : gw_S} {b w n : Nat} {T : pT} (h : RP σ b T) (ht : τ = gw_u σ (b + 8) w (nI n)) : RP τ b (oPut T w n) := by
  obtain ⟨u1, u2, u3⟩ := uk ht
  obtain ⟨h1, h2, h3, h4⟩ := h
  refine ⟨by rw [u1 b (by omega)]; exact h1, by rw [u1 b (by omega)]; exact h2, fun m hm => by rw [u1 _ (by omega), u1 _ (by omega), u1 _ (by omega)]; exact h3 m hm, fun k hk => ?_⟩
  obtain ⟨r1, r2, r3, r4, r5⟩ := h4 k hk
  rw [u1 (b + 4) (by omega), u1 (b + 5) (by omega), u1 (b + 6) (by omega), u1 (b + 7) (by omega), u2]
  refine ⟨r1, r2, r3, r4, ?_⟩
  show _ = nI (if k = w then n else tH T k)
  by_cases e : k = w
  · rw [if_pos e, e, pk_us]
  · rw [if_neg e, pk_un e]; exact r5
theorem RP_rate {τ υ : gw_S} {b w c v : Nat} {T : pT} (h : RP σ b T) (ht : τ = gw_u σ (b + 6) w (nI c)) (hu : υ = gw_u τ (b + 7) w (nI v)) : RP υ b (oRate T w c v) := by
  obtain ⟨u1, u2, u3⟩ := uk ht
  obtain ⟨w1, w2, w3⟩ := uk hu
  obtain ⟨h1, h2, h3, h4⟩ := h
  have e : ∀ k, k ≠ b + 6 → k ≠ b + 7 → υ.1 k = σ.1 k := fun k a1 a2 => by rw [w1 k a2, u1 k a1]
  refine ⟨by rw [e b (by omega) (by omega)]; exact h1, by rw [e b (by omega) (by omega)]; exact h2, fun m hm => by rw [e _ (by omega) (by omega), e _ (by omega) (by omega), e _ (by omega) (by omega)]; exact h3 m hm, fun k hk => ?_⟩
  obtain ⟨r1, r2, r3, r4, r5⟩ := h4 k hk
  rw [e (b + 4) (by omega) (by omega), e (b + 5) (by omega) (by omega), e (b + 8) (by omega) (by omega), w1 (b + 6) (by omega), u2, w2, u1 (b + 7) (by omega)]
  refine ⟨r1, r2, ?_, ?_, r5⟩
  · show _ = nI (if k = w then c else tC T k)
    by_cases y : k = w
    · rw [if_pos y, y, pk_us]
    · rw [if_neg y, pk_un y]; exact r3
  · show _ = nI (if k = w then v else tV T k)
    by_cases y : k = w
    · rw [if_pos y, y, pk_us]
    · rw [if_neg y, pk_un y]; exact r4
theorem ifif {α : Type} (f : Nat → α) (w : Nat) (a b : α) : (fun k => if k = w then b else (fun k => if k = w then a else f k) k) = fun k => if k = w then b else f k := by
  funext k
  by_cases e : k = w
  · rw [if_pos e, if_pos e]
  · show (if k = w then b else (if k = w then a else f k)) = _
    rw [if_neg e, if_neg e, if_neg e]
theorem ifself {α : Type} (f : Nat → α) (w : Nat) : (fun k => if k = w then f w else f k) = f := by
  funext k
  by_cases e : k = w
  · rw [if_pos e, e]
  · rw [if_neg e]
theorem oPut_put (T : pT) (w a b : Nat) : oPut (oPut T w a) w b = oPut T w b := by
  show (tM T, tW T, tU T, tK T, tD T, tF T, tO T, tC T, tV T, (fun k => if k = w then b else (fun k => if k = w then a else tH T k) k)) = _
  rw [ifif]; rfl
theorem oRate_rate (T : pT) (w a b c d : Nat) : oRate (oRate T w a b) w c d = oRate T w c d := by
  show (tM T, tW T, tU T, tK T, tD T, tF T, tO T, (fun k => if k = w then c else (fun k => if k = w then a else tC T k) k), (fun k => if k = w then d else (fun k => if k = w then b else tV T k) k), tH T) = _
  rw [ifif, ifif]; rfl
theorem oRate_self (T : pT) (w : Nat) : oRate T w (tC T w) (tV T w) = T := by
  show (tM T, tW T, tU T, tK T, tD T, tF T, tO T, (fun k => if k = w then tC T w else tC T k), (fun k => if k = w then tV T w else tV T k), tH T) = _
  rw [ifself, ifself]
theorem k_X7_isCompleteWith {w n : Nat} {T : pT} (hp : RP σ 142 T) (hv : VT T) (hw : w < tW T) (hn : n ≤ 99) : gw_M l G yX7_isCompleteWith cX7_isCompleteWith 3 (some .boolean) 4 [.ref (G.1 + 0), .int (nI w), .int (nI n)] σ (fz (fun r τ => r = rC (oPut T w n) 0 ∧ RP τ 142 (oPut T w n) ∧ FX 142 171 σ τ)) := by
  have h14 := hv.2.1
  refine gw_met (by decide) (Nat.le_of_ble_eq_true rfl) (fun x C hR hT => sg_X7_isCompleteWith_0 C hR hT _ _ σ ⟨vp_in_nI (by omega) (by decide), ?_⟩)
  intro τ2 h2
  rw [nI_clamp (by omega)] at h2
  have p2 : RP τ2 142 (oPut T w n) := RP_put hp h2
  have v2 : VT (oPut T w n) := VT_put hv hn
  refine ⟨_, k_X0_follow (r := 0) gp142 (by decide) p2 v2 (by decide), ?_⟩
  rintro τ4 ⟨hF, hS⟩
  exact ⟨FO_c v2 hF, p2.fx hS (by decide), (ukF h2 (by decide) (by decide)).tr (hS.s (by decide) (by decide))⟩
theorem f_fewest (hst : l.stackTraces = false) (h : CI σ A) (hv : VA A) (w : Int32) : gw_MX l G yX7_fewest cX7_fewest 6 (some .int) 7 [.ref (G.1 + 0), .int w] σ (fi (cA (anFewest A w) σ)) (cK (anFewest A w) σ) := by
  have h14 := hv.2.1.2.1
  refine gw_face hst rfl (Nat.le_of_ble_eq_true rfl) (fun x C hR hT hX => sg_X7_fewest_0 hX C hR hT _ σ ?_)
  rw [h.p.2.1]
  change (¬ wrF A.2.1 w = 0 → _) ∧ (wrF A.2.1 w = 0 → _)
  refine ⟨fun z => ?_, fun z => ?_⟩
  · unfold anFewest; rw [if_neg z]; exact ⟨wrF_n z, h, KC.rf⟩
  obtain ⟨i, hi, rfl⟩ := wrF_0 hv.2.1 z
  have ea : anFewest A (nI i) = (0, fwI A.2.1 i, A) := by unfold anFewest; rw [if_pos z, nI_clamp (by omega)]
  rw [ea] at hT ⊢
  refine ⟨_, k_X3_become gp142 gp3 (by decide) h.p hv.2.1, ?_⟩
  rintro τ2 ⟨p2, S2⟩
  have X2 : FX 142 171 σ τ2 := S2.fx.mono (by decide) (by decide)
  refine ⟨_, k_X7_isCompleteWith (n := 99) p2 hv.2.1 hi (by decide), ?_⟩
  rintro r τ4 ⟨rfl, p4, S4⟩
  have X4 := X2.tr S4
  have all : ∀ a b, a ≤ b → b ≤ 99 → rC (oPut A.2.1 i b) 0 = false → rC (oPut A.2.1 i a) 0 = false := fun a b h1 h2 h3 => by
    cases e : rC (oPut A.2.1 i a) 0
    · rfl
    · rw [rC_mono hv.2.1 h1 h2 e] at h3; cases h3
  refine ⟨fun e => ?_, fun e => ⟨rfl, (fwI_no (fun n hn => all n 99 hn (by decide) e)).symm, h.scr X4, X4.kc (by decide)⟩⟩
  have e99 : rC (oPut A.2.1 i 99) 0 = true := by simpa using e
  have key : ∀ d lo hi' k (τ : gw_S) (c : Nat), hi' ≤ lo + d → lo ≤ hi' → hi' ≤ 99 → hi' - lo + k ≤ 99 → FX 142 171 σ τ → c ≤ 99 → RP τ 142 (oPut A.2.1 i c) → rC (oPut A.2.1 i hi') 0 = true → (∀ j, j < lo → rC (oPut A.2.1 i j) 0 = false) → PW x G 6 42 [(0, .ref (G.1 + 0)), (1, .int (nI i)), (2, .int (nI lo)), (3, .int (nI hi')), (4, .int (nI k))] [] τ := by
    intro d
    induction d with
    | zero =>
      intro lo hi' k τ c d1 d2 d3 d4 hS hc hp ht hf
      have el : lo = hi' := by omega
      have fin : cA (0, fwI A.2.1 i, A) σ (nI lo) τ := ⟨rfl, (fwI_n (by omega) (by rw [el]; exact ht) hf).symm, h.scr hS, hS.kc (by decide)⟩
      refine sg_X7_fewest_42 hX C hR hT _ _ _ _ τ ⟨fun _ => fin, fun _ => ⟨fun _ => fin, fun q => absurd ?_ q⟩⟩
      rw [nI_le_iff (by omega) (by omega)]; omega
    | succ d ih =>
      intro lo hi' k τ c d1 d2 d3 d4 hS hc hp ht hf
      have fin : lo = hi' → cA (0, fwI A.2.1 i, A) σ (nI lo) τ := fun el => ⟨rfl, (fwI_n (by omega) (by rw [el]; exact ht) hf).symm, h.scr hS, hS.kc (by decide)⟩
      refine sg_X7_fewest_42 hX C hR hT _ _ _ _ τ ⟨fun q => ?_, fun q => ⟨fun q2 => ?_, fun q2 => ?_⟩⟩
      · rw [show (99 : Int32) = nI 99 from rfl, nI_le_iff (by omega) (by omega)] at q; exact fin (by omega)
      · rw [nI_le_iff (by omega) (by omega)] at q2; exact fin (by omega)
      rw [nI_le_iff (by omega) (by omega)] at q2
      rw [nI_add, show (2 : Int32) = nI 2 from rfl, pk_div (by omega) (by decide) (by decide)]
      have m1 : lo ≤ (lo + hi') / 2 := by omega
      have m2 : (lo + hi') / 2 < hi' := by omega
      generalize (lo + hi') / 2 = mi at m1 m2
      refine ⟨_, k_X7_isCompleteWith (n := mi) hp (VT_put hv.2.1 hc) hi (by omega), ?_⟩
      rintro r τ2 ⟨rfl, p2, S2⟩
      rw [oPut_put] at p2 ⊢
      rw [nI_1, nI_1]
      cases e : rC (oPut A.2.1 i mi) 0
      · rw [if_pos rfl, if_pos rfl]
        exact ih (mi + 1) hi' (k + 1) τ2 mi (by omega) (by omega) d3 (by omega) (hS.tr S2) (by omega) p2 ht (fun j hj => all j mi (by omega) (by omega) e)
      · rw [if_neg (by decide), if_neg (by decide)]
        exact ih lo mi (k + 1) τ2 mi (by omega) (by omega) (by omega) (by omega) (hS.tr S2) (by omega) p2 e hf
  exact key 99 0 99 0 τ4 99 (by omega) (by omega) (by omega) (by omega) X4 (by omega) p4 e99 (fun j hj => absurd hj (Nat.not_lt_zero j))
theorem f_agrees (hst : l.stackTraces = false) (h : CI σ A) (hv : VA A) (w c : Int32) : gw_MX l G yX7_agrees cX7_agrees 4 (some .int) 7 [.ref (G.1 + 0), .int w, .int c] σ (fi (cA (anAgrees A w c) σ)) (cK (anAgrees A w c) σ) := by
  have h14 := hv.2.1.2.1
  refine gw_face hst rfl (Nat.le_of_ble_eq_true rfl) (fun x C hR hT hX => sg_X7_agrees_0 hX C hR hT _ _ σ ?_)
  rw [h.p.2.1]
  change (¬ wrF A.2.1 w = 0 → _) ∧ (wrF A.2.1 w = 0 → (¬ rgI 1 6 c = 0 → _) ∧ (rgI 1 6 c = 0 → _))
  refine ⟨fun z => ?_, fun z => ⟨fun y => ?_, fun y => ?_⟩⟩
  · unfold anAgrees; rw [if_neg z]; exact ⟨wrF_n z, h, KC.rf⟩
  · unfold anAgrees; rw [if_pos z, if_neg y]; exact ⟨rgI_n y, h, KC.rf⟩
  obtain ⟨i, hi, rfl⟩ := wrF_0 hv.2.1 z
  obtain ⟨j, hj1, hj, rfl⟩ := rgI_0 (lo := 1) (hi := 6) (by decide) (by decide) y
  have ea : anAgrees A (nI i) (nI j) = (0, agF A.2.1 i j 6 1, A) := by unfold anAgrees; rw [if_pos z, if_pos y, nI_clamp (by omega), nI_clamp (by omega)]
  rw [ea] at hT
  refine ⟨_, k_X3_become gp142 gp3 (by decide) h.p hv.2.1, ?_⟩
  rintro τ2 ⟨p2, S2⟩
  have X2 : FX 142 171 σ τ2 := S2.fx.mono (by decide) (by decide)
  have key : ∀ f u (τ : gw_S) (a b : Nat), u + f = 7 → 1 ≤ u → FX 142 171 σ τ → RP τ 142 (oRate A.2.1 i a b) → agF A.2.1 i j f u = agF A.2.1 i j 6 1 → PW x G 4 34 [(0, .ref (G.1 + 0)), (1, .int (nI i)), (2, .int (nI j)), (3, .int (nI u))] [] τ := by
    intro f
    induction f with
    | zero =>
      intro u τ a b hu h1 hS hp he
      refine sg_X7_agrees_34 hX C hR hT _ _ _ τ ⟨fun _ => ⟨rfl, he, h.scr hS, hS.kc (by decide)⟩, fun q => absurd ?_ q⟩
      rw [show (6 : Int32) = nI 6 from rfl, nI_lt_iff (by omega) (by omega)]; omega
    | succ f ih =>
      intro u τ a b hu h1 hS hp he
      refine sg_X7_agrees_34 hX C hR hT _ _ _ τ ⟨fun q => ?_, fun _ => ⟨vp_in_nI (by omega) (by decide), ?_⟩⟩
      · rw [show (6 : Int32) = nI 6 from rfl, nI_lt_iff (by omega) (by omega)] at q; omega
      intro τ3 h3 τ4 h4
      rw [nI_clamp (by omega)] at h3 h4
      have p4 : RP τ4 142 (oRate A.2.1 i j u) := by
        have := RP_rate hp h3 h4
        rw [oRate_rate] at this; exact this
      have X4 := (hS.tr (ukF h3 (lo := 142) (hi := 171) (by decide) (by decide))).tr (ukF h4 (lo := 142) (hi := 171) (by decide) (by decide))
      refine ⟨_, k_X4_agreeIn gr167 gp142 (by decide) p4 (VT_rate hv.2.1 hj1 hj h1 (by omega)), ?_⟩
      rintro r τ5 ⟨rfl, g, rfl, -⟩
      have X5 : FX 142 171 σ (gw_r (gw_u τ4 167 1 (nI (tM (oRate A.2.1 i j u)))) (167 + 1) g) := X4.tr ((FX.u (by decide) (by decide)).tr (FX.r (by decide) (by decide)))
      refine ⟨fun e => ?_, fun e => ⟨rfl, ?_, h.scr X5, X5.kc (by decide)⟩⟩
      · rw [nI_1]
        refine ih (u + 1) _ j u (by omega) (by omega) X5 (p4.cong (fun k hk => by rw [gw_r_ne _ _ (by omega), gw_u_k _ _ _ (by omega)])) ?_
        rw [← he, agF, if_neg (by rw [e]; decide)]
      · have e' : agB (oRate A.2.1 i j u) = true := by simpa using e
        show nI u = agF A.2.1 i j 6 1
        rw [← he, agF, if_pos e']
  exact key 6 1 τ2 (tC A.2.1 i) (tV A.2.1 i) (by omega) (by omega) X2 (by rw [oRate_self]; exact p2) rfl
theorem k_X7_withoutGroups {a n : Nat} (ha : a < 2 ^ 63) (hn : n < 2 ^ 31) : gw_M l G yX7_withoutGroups cX7_withoutGroups 6 (some .long) 0 [.long (lN a), .int (nI n)] σ (fl (fun r τ => r = lN (a / 1000000 ^ n) ∧ τ = σ)) := by
  refine gw_met (by decide) (Nat.le_of_ble_eq_true rfl) (fun x C hR hT => sg_X7_withoutGroups_0 C hR hT _ _ σ ?_)
  have key : ∀ d k, k + d = n → PW x G 6 5 [(0, .long (lN a)), (2, .int (nI n)), (3, .long (lN (a / 1000000 ^ k))), (5, .int (nI k))] [] σ := by
    intro d
    induction d with
    | zero =>
      intro k hk
      refine sg_X7_withoutGroups_5 C hR hT _ _ _ _ σ ⟨fun _ => ⟨by rw [show k = n by omega], rfl⟩, fun q => absurd ?_ q⟩
      rw [nI_le_iff (by omega) (by omega)]; omega
    | succ d ih =>
      intro k hk
      refine sg_X7_withoutGroups_5 C hR hT _ _ _ _ σ ⟨fun q => ?_, fun _ => ?_⟩
      · rw [nI_le_iff (by omega) (by omega)] at q; omega
      · have := ih (k + 1) (by omega)
        rw [nI_1, show (1000000 : Int64) = lN 1000000 from rfl, pk_lDiv (Nat.lt_of_le_of_lt (Nat.div_le_self _ _) ha) (by decide) (by decide), Nat.div_div_eq_div_mul, ← Nat.pow_succ]
        exact this
  have := key n 0 (by omega)
  rw [Nat.pow_zero, Nat.div_one] at this
  exact this
end FC
