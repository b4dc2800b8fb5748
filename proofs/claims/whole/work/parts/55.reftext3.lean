/-! the reference reads a wire, a command, a text -/
theorem errF_fuel (X : xT) : ∀ f f' i, X.1 ≤ i + f → X.1 ≤ i + f' → errF X f i = errF X f' i
  | 0, 0, _, _, _ => rfl
  | 0, f' + 1, i, h, _ => by rw [errF, errF, if_neg (by omega)]
  | f + 1, 0, i, _, h => by rw [errF, errF, if_neg (by omega)]
  | f + 1, f' + 1, i, h, h' => by
    rw [errF, errF]
    by_cases q : i < X.1
    · rw [if_pos q, if_pos q]
      cases cmdE X i with
      | some e => rfl
      | none => exact errF_fuel X f f' _ (by omega) (by omega)
    · rw [if_neg q, if_neg q]
theorem ldF_fuel (X : xT) : ∀ f f' i s, X.1 ≤ i + f → X.1 ≤ i + f' → ldF X f i s = ldF X f' i s
  | 0, 0, _, _, _, _ => rfl
  | 0, f' + 1, i, s, h, _ => by rw [ldF, ldF, if_neg (by omega)]
  | f + 1, 0, i, s, _, h => by rw [ldF, ldF, if_neg (by omega)]
  | f + 1, f' + 1, i, s, h, h' => by
    rw [ldF, ldF]
    by_cases q : i < X.1
    · rw [if_pos q, if_pos q]
      exact ldF_fuel X f f' _ _ (by omega) (by omega)
    · rw [if_neg q, if_neg q]
section RT
variable {l : Launch} {G : gw_G} {σ : gw_S} {X : xT} {T : pT}
theorem k_X8_digitN {g : Bool} {p lo hi i k : Nat} (hx : xRf σ X) (hX : xV X) (hg : gP σ g p) (hr : RDs X i k g p) (hi' : i < X.1) (h1k : 1 ≤ k) (hlo : lo ≤ 9) (hhi : hi ≤ 9) (el : loC (tAt X i) k = 48 + lo) (eh : g = true → hiC (tAt X i) k (tAt X (i + k - 1)) = 48 + hi) : gw_M l G yX8_digit cX8_digit 4 (some .int) 1 [.ref (G.1 + 189), .int (nI lo), .int (nI hi)] σ (fi (fun r τ => ∃ g' p' n, gP τ g' p' ∧ RDs X i (k + 1) g' p' ∧ r = nI n ∧ n ≤ 9 ∧ (g' = true → g = true ∧ n = tAt X (i + k) - 48 ∧ lo ≤ n ∧ n ≤ hi) ∧ SX [] [3, 4] σ τ)) := by
  refine (k_X8_digitS hx hX hg hr hi' h1k hlo hhi el eh).imp (fun v τ hv => ?_)
  obtain ⟨r, rfl, g', p', h1, h2, h3, h4, h5⟩ := hv
  cases hb : g'
  · rw [hb] at h1 h2
    exact ⟨r, rfl, false, p', lo, h1, h2, h4 hb, hlo, fun z => absurd z (by decide), h5⟩
  · obtain ⟨y1, y2, y3⟩ := h3 hb
    have k1 := okd_i y3
    have k2 := okd_d y3
    rw [el, eh y1] at k1
    rw [hb] at h1 h2
    exact ⟨r, rfl, true, p', _, h1, h2, y2, by omega, fun _ => ⟨y1, rfl, by omega, by omega⟩, h5⟩
theorem k_X8_readWire {i q : Nat} (hx : xRf σ X) (hX : xV X) (hg : gP σ true i) (hi : i < X.1) (hc : tAt X i = 119) (hp : RR (σ.1 191) T) (hv : VT T) (h5 : σ.1 189 5 = nI q) : gw_M l G yX8_readWire cX8_readWire 7 none 4 [.ref (G.1 + 189)] σ (fv (fun τ => RCm X i (T, q) σ τ)) := by
  have h8 := hv.1
  refine gw_met (by decide) (Nat.le_of_ble_eq_true rfl) (fun x C hR hT => sg_X8_readWire_0 C hR hT σ ⟨_, k_X8_accept (v := true) hg, ?_⟩)
  rintro τ2 ⟨g2, S2⟩
  have r2 := RDs_0 X i
  have x2 := hx.sx S2 (by decide) (by decide)
  refine ⟨_, k_X8_digitN (lo := 0) (hi := 7) x2 hX g2 r2 hi (by decide) (by decide) (by decide) (by rw [hc]; rfl) (fun _ => by rw [hc]; rfl), ?_⟩
  rintro d1 τ4 ⟨ga, pa, n1, ga1, ra, rfl, ga2, ga3, Sa⟩
  have x4 := x2.sx Sa (by decide) (by decide)
  refine ⟨_, k_X8_digitN (lo := 0) (hi := 7) x4 hX ga1 ra hi (by decide) (by decide) (by decide) (by rw [hc]; rfl) (fun _ => by rw [hc]; rfl), ?_⟩
  rintro d2 τ7 ⟨gb, pb, n2, gb1, rb, rfl, gb2, gb3, Sb⟩
  have x7 := x4.sx Sb (by decide) (by decide)
  refine ⟨_, k_X8_digitN (lo := 1) (hi := 6) x7 hX gb1 rb hi (by decide) (by decide) (by decide) (by rw [hc]; rfl) (fun _ => by rw [hc]; rfl), ?_⟩
  rintro d3 τ10 ⟨gc, pc, n3, gc1', rc, rfl, gc2, gc3, Sc⟩
  have x10 := x7.sx Sc (by decide) (by decide)
  refine ⟨_, k_X8_digitN (lo := 1) (hi := 6) x10 hX gc1' rc hi (by decide) (by decide) (by decide) (by rw [hc]; rfl) (fun _ => by rw [hc]; rfl), ?_⟩
  rintro d4 τ13 ⟨gd, pd, n4, gd1, rd, rfl, gd2, gd3, Sd⟩
  have x13 := x10.sx Sd (by decide) (by decide)
  refine ⟨_, k_X8_digitN (lo := 0) (hi := 9) x13 hX gd1 rd hi (by decide) (by decide) (by decide) (by rw [hc]; rfl) (fun _ => by rw [hc]; rfl), ?_⟩
  rintro d5 τ16 ⟨ge, pe, n5, ge1, re, rfl, ge2, ge3, Se⟩
  have x16 := x13.sx Se (by decide) (by decide)
  refine ⟨_, k_X8_digitN (lo := 0) (hi := 9) x16 hX ge1 re hi (by decide) (by decide) (by decide) (by rw [hc]; rfl) (fun _ => by rw [hc]; rfl), ?_⟩
  rintro d6 τ19 ⟨gf, pf, n6, gf1, rf, rfl, gf2, gf3, Sf⟩
  have S19 : SX [] [3, 4] σ τ19 := (((((S2.tr Sa).tr Sb).tr Sc).tr Sd).tr Se).tr Sf
  have hrow : τ19.1 191 = σ.1 191 := S19.row (by decide) (by decide)
  have hdg : dg (tAt X i) = 6 := by rw [hc]; rfl
  obtain ⟨e1, e2⟩ := RDs_end (by rw [hdg]; exact rf) (by rw [hdg]; decide)
  have hvals : gf = true → (1 ≤ n3 ∧ n3 ≤ 6 ∧ 1 ≤ n4 ∧ n4 ≤ 6) ∧ obey X i (T, q) = (oTW T n1 n2 n3 n4 (10 * n5 + n6), if twB T n1 n2 n3 n4 (10 * n5 + n6) = true then q else q + 1) := fun hb => by
    obtain ⟨f1, f2, f3, f4⟩ := gf3 hb
    obtain ⟨f5, f6, f7, f8⟩ := ge3 f1
    obtain ⟨f9, f10, f11, f12⟩ := gd3 f5
    obtain ⟨f13, f14, f15, f16⟩ := gc3 f9
    obtain ⟨f17, f18, f19, f20⟩ := gb3 f13
    obtain ⟨f21, f22, f23, f24⟩ := ga3 f17
    refine ⟨⟨f15, f16, f11, f12⟩, ?_⟩
    unfold obey
    rw [hc, if_neg (by decide), if_pos rfl, f2, f6, f10, f14, f18, f22]
  have em : (10 * nI n5) + nI n6 = nI (10 * n5 + n6) := by rw [show (10 : Int32) = nI 10 from rfl, pk_mul, nI_add]
  rw [em]
  have tail : ∀ (τ' : gw_S) (can : Bool), SX [204] [] τ19 τ' → (gf = true → can = twB T n1 n2 n3 n4 (10 * n5 + n6)) → ∃ Φ' : Bool → gw_S → Prop, gw_M x.2.1 G yX8_goes cX8_goes 2 (some .boolean) 0 [.ref (G.1 + 189), .int (gz can)] τ' (fz Φ') ∧ ∀ (b : Bool) (τ10 : gw_S), Φ' b τ10 → ((b = false → RCm X i (T, q) σ τ10) ∧ (¬ (b = false) → ∃ Φ9 : gw_S → Prop, gw_M x.2.1 G yX8_layIn cX8_layIn 7 none 1 [.ref (G.1 + 191), .int (nI n1), .int (nI n2), .int (nI n3), .int (nI n4), .int (nI (10 * n5 + n6))] τ10 (fv Φ9) ∧ ∀ (τ13 : gw_S), Φ9 τ13 → RCm X i (T, q) σ τ13)) := by
    intro τ' can Sg hcan
    refine ⟨_, k_X8_goes (v := can) (g := gf) (q := q) (by rw [Sg.2.2 4 (by decide)]; exact gf1.1) (by rw [Sg.2.2 5 (by decide), S19.2.2 5 (by decide)]; exact h5), ?_⟩
    rintro b τ10 ⟨rfl, h10, S10⟩
    have S10' := ((sx34 S19).tr (sx204 Sg)).tr (sx5 S10)
    have g10 : gP τ10 gf pf := ⟨by rw [S10.2.2 4 (by decide), Sg.2.2 4 (by decide)]; exact gf1.1, by rw [S10.2.2 3 (by decide), Sg.2.2 3 (by decide)]; exact gf1.2⟩
    have hrow10 : τ10.1 191 = σ.1 191 := by rw [S10.row (by decide) (by decide), Sg.row (by decide) (by decide), hrow]
    refine ⟨fun z => ⟨S10', gf, pf, g10, ?_⟩, fun z => ?_⟩
    · cases hb : gf
      · exact Or.inr ⟨rfl, e2 hb⟩
      · rw [hb, Bool.true_and] at z
        obtain ⟨k1, k2⟩ := e1 hb
        have hcan' := hcan hb
        rw [(hvals hb).2, ← hcan', z]
        refine Or.inl ⟨rfl, k1, k2, ?_, ?_⟩
        · unfold oTW
          rw [← hcan', z, if_neg (by decide), hrow10]; exact hp
        · rw [h10, if_pos ⟨hb, z⟩, if_neg (by decide)]
    · have z1 : gf = true ∧ can = true := by
        cases hb : gf
        · rw [hb] at z; exact absurd rfl z
        · rw [hb, Bool.true_and] at z; exact ⟨rfl, by simpa using z⟩
      obtain ⟨k1, k2⟩ := e1 z1.1
      have z2 : twB T n1 n2 n3 n4 (10 * n5 + n6) = true := by rw [← hcan z1.1]; exact z1.2
      have z3 := twB_i z2
      refine ⟨_, k_X8_layIn ia191 (by rw [hrow10]; exact hp) hv z3.2.2.2.2.2.2.2, ?_⟩
      rintro τ13 ⟨f, rfl, hf⟩
      refine ⟨S10'.tr sx191, gf, pf, ⟨by rw [gw_r_ne _ _ (by decide)]; exact g10.1, by rw [gw_r_ne _ _ (by decide)]; exact g10.2⟩, Or.inl ⟨z1.1, k1, k2, ?_, ?_⟩⟩
      · rw [(hvals z1.1).2]
        unfold oTW
        rw [if_pos z2, gw_r_at]; exact hf
      · rw [gw_r_ne _ _ (by decide), h10, if_neg (fun w => by rw [z1.2] at w; exact absurd w.2 (by decide)), (hvals z1.1).2, if_pos z2]
  rw [hrow, gc0, hp.1, nI_le_iff (by omega) (by omega), nI_le_iff (by omega) (by omega), gf1.1]
  refine ⟨fun z => tail τ19 false SX.rf (fun y => by rw [y] at z; exact absurd z (by decide)), fun z => ⟨fun z2 => tail τ19 false SX.rf (fun _ => ?_), fun z2 => ⟨fun z3 => tail τ19 false SX.rf (fun _ => ?_), fun z3 => ⟨_, k_X8_canLay ia191 (by decide) (by rw [hrow]; exact hp) hv (by omega) (by omega) (by omega), ?_⟩⟩⟩⟩
  · unfold twB; simp [show ¬ n1 < tM T by omega]
  · unfold twB; simp [show ¬ n2 < tM T by omega]
  · rintro r τ37 ⟨rfl, S37⟩
    have e : (if laysB T n1 n2 (10 * n5 + n6) = false then false else true : Bool) = laysB T n1 n2 (10 * n5 + n6) := by cases laysB T n1 n2 (10 * n5 + n6) <;> rfl
    rw [e]
    refine tail τ37 _ S37 (fun hb => ?_)
    obtain ⟨⟨b1, b2, b3, b4⟩, _⟩ := hvals hb
    unfold twB; simp [show n1 < tM T by omega, show n2 < tM T by omega, b1, b2, b3, b4]
theorem k_X8_readCommand {i q : Nat} (hx : xRf σ X) (hX : xV X) (hg : gP σ true i) (hi : i < X.1) (hp : RR (σ.1 191) T) (hv : VT T) (h5 : σ.1 189 5 = nI q) : gw_M l G yX8_readCommand cX8_readCommand 1 none 5 [.ref (G.1 + 189)] σ (fv (fun τ => RCm X i (T, q) σ τ)) := by
  have h120 := hX.1
  refine gw_met (by decide) (Nat.le_of_ble_eq_true rfl) (fun x C hR hT => sg_X8_readCommand_0 C hR hT σ ?_)
  have et : X.2 i = tAt X i := by unfold tAt; rw [if_pos hi]
  have hlt := tAt_lt hX i
  have isc : ∀ (k : Nat), k < 256 → (if nI X.1 ≤ nI i then false else (if σ.1 190 (nI i).toNatClampNeg = nI k then true else false : Bool) : Bool) = decide (tAt X i = k) := fun k hk => by
    rw [if_neg (by rw [nI_le_iff (by omega) (by omega)]; omega), nI_clamp (by omega), hx.2 i hi, et, gif (nI_eq (by omega) (by omega))]
    by_cases z : tAt X i = k <;> simp [z]
  rw [hx.1, hg.2, show (109 : Int32) = nI 109 from rfl, show (119 : Int32) = nI 119 from rfl, show (99 : Int32) = nI 99 from rfl, show (102 : Int32) = nI 102 from rfl, isc 109 (by decide), isc 119 (by decide), isc 99 (by decide), isc 102 (by decide)]
  refine ⟨⟨fun _ => trivial, fun _ => ⟨vp_in_nI (by omega) (by decide), trivial⟩⟩, fun e1 => ⟨fun e2 => ⟨fun e3 => ⟨fun e4 => ⟨_, k_X8_accept (v := false) hg, ?_⟩, fun e4 => ⟨_, k_X8_readWork hx hX hg hi (by simpa using e4) hp hv h5, fun τ h => h⟩⟩, fun e3 => ⟨_, k_X8_readCut hx hX hg hi (by simpa using e3) hp hv h5, fun τ h => h⟩⟩, fun e2 => ⟨_, k_X8_readWire hx hX hg hi (by simpa using e2) hp hv h5, fun τ h => h⟩⟩, fun e1 => ⟨_, k_X8_readModule hx hX hg hi (by simpa using e1) hp hv h5, fun τ h => h⟩⟩
  rintro τ3 ⟨g3, S3⟩
  refine ⟨sx34 S3, false, i, g3, Or.inr ⟨rfl, ?_⟩⟩
  unfold cmdE
  rw [if_pos]
  apply Classical.byContradiction
  intro h
  rcases dg_cases h with h | h | h | h
  · rw [h] at e3; exact absurd e3 (by decide)
  · rw [h] at e4; exact absurd e4 (by decide)
  · rw [h] at e1; exact absurd e1 (by decide)
  · rw [h] at e2; exact absurd e2 (by decide)
theorem xRf.sx3 {τ : gw_S} (h : xRf σ X) (hS : SX [191, 204] [3, 4, 5] σ τ) : xRf τ X := h.sx hS (by decide) (by decide)
theorem k_X8_readText (hx : xRf σ X) (hX : xV X) : gw_M l G yX8_readText cX8_readText 2 (some .int) 6 [.ref (G.1 + 189)] σ (fi (fun r τ => r = oX (errX X) ∧ SX [191, 204] [3, 4, 5] σ τ ∧ (errX X = none → RR (τ.1 191) (ldX X).1 ∧ VT (ldX X).1 ∧ τ.1 189 5 = nI (ldX X).2 ∧ (ldX X).2 ≤ 120))) := by
  have h120 := hX.1
  refine gw_met (by decide) (Nat.le_of_ble_eq_true rfl) (fun x C hR hT => sg_X8_readText_0 C hR hT σ ?_)
  intro τ1 h1 τ2 h2 τ3 h3
  obtain ⟨a1, a2, a3⟩ := uk h1
  obtain ⟨b1, b2, b3⟩ := uk h2
  obtain ⟨c1, c2, c3⟩ := uk h3
  have S3 : SX [191, 204] [3, 4, 5] σ τ3 := ((uS189 h1 (by decide)).tr (uS189 h2 (by decide))).tr (uS189 h3 (by decide))
  have g3 : gP τ3 true 0 := ⟨by rw [c2, pk_un (by decide), b2, pk_us]; rfl, by rw [c2, pk_un (by decide), b2, pk_un (by decide), a2, pk_us]; rfl⟩
  have q3 : τ3.1 189 5 = nI 0 := by rw [c2, pk_us]; rfl
  have loop : ∀ f i, X.1 ≤ i + f → 1 ≤ i → i ≤ 127 → ∀ (τ : gw_S) (s : pT × Nat) (v1 : Int32), SX [191, 204] [3, 4, 5] σ τ → gP τ true i → RR (τ.1 191) s.1 → VT s.1 → τ.1 189 5 = nI s.2 → s.2 + f ≤ 120 → tAt X 0 = 77 → errF X f i = errF X 120 1 → ldF X f i s = ldF X 120 1 (oNil, 0) → PW x G 2 46 [(0, .ref (G.1 + 189)), (1, .int v1)] [] τ := by
    intro f
    induction f with
    | zero =>
      intro i hi h1i hi7 τ s v1 hS hg hp hv h5 hle h77 hE hL
      refine sg_X8_readText_46 C hR hT _ τ ⟨fun z => absurd z (by rw [hg.1]; decide), fun _ => ⟨fun z => ⟨?_, hS, fun _ => ?_⟩, fun z => absurd ?_ z⟩⟩
      · rw [hg.1, if_neg (by decide)]; unfold errX; rw [if_pos h77, ← hE]; rfl
      · have e : ldX X = s := by unfold ldX; rw [← hL]; rfl
        rw [e]; exact ⟨hp, hv, h5, by omega⟩
      · rw [(hx.sx3 hS).1, hg.2, nI_le_iff (by omega) (by omega)]; omega
    | succ f ih =>
      intro i hi h1i hi7 τ s v1 hS hg hp hv h5 hle h77 hE hL
      refine sg_X8_readText_46 C hR hT _ τ ⟨fun z => absurd z (by rw [hg.1]; decide), fun _ => ⟨fun z => ⟨?_, hS, fun _ => ?_⟩, fun z => ?_⟩⟩
      · rw [(hx.sx3 hS).1, hg.2, nI_le_iff (by omega) (by omega)] at z
        rw [hg.1, if_neg (by decide)]; unfold errX; rw [if_pos h77, ← hE, errF, if_neg (by omega)]; rfl
      · rw [(hx.sx3 hS).1, hg.2, nI_le_iff (by omega) (by omega)] at z
        have e : ldX X = s := by unfold ldX; rw [← hL, ldF, if_neg (by omega)]
        rw [e]; exact ⟨hp, hv, h5, by omega⟩
      · rw [(hx.sx3 hS).1, hg.2, nI_le_iff (by omega) (by omega)] at z
        have hiX : i < X.1 := by omega
        refine ⟨_, k_X8_readCommand (T := s.1) (q := s.2) (hx.sx3 hS) hX hg hiX hp hv h5, ?_⟩
        rintro τ2 ⟨S2, g, p, g2, hcase⟩
        rcases hcase with ⟨rfl, k1, rfl, k3, k4⟩ | ⟨rfl, k1⟩
        · have hne : dg (tAt X i) ≠ 0 := fun y => by unfold cmdE at k1; rw [if_pos y] at k1; cases k1
          have hlast : i + dg (tAt X i) < X.1 := by
            unfold cmdE at k1; rw [if_neg hne] at k1
            exact (okd_i (cmE_none _ _ k1 (dg (tAt X i)) (by omega) (by omega))).1
          have hob := obey_le (X := X) (i := i) s
          refine ih _ (by omega) (by omega) (by omega) τ2 (obey X i s) v1 (hS.tr S2) g2 k3 (VT_obey hv k1) k4 (by omega) h77 ?_ ?_
          · rw [← hE, errF, if_pos hiX, k1]
          · rw [← hL, ldF, if_pos hiX]
        · refine sg_X8_readText_46 C hR hT _ τ2 ⟨fun _ => ⟨?_, hS.tr S2, fun y => ?_⟩, fun y => absurd (by rw [g2.1]; rfl) y⟩
          · rw [g2.1, if_pos (by decide), g2.2]
            unfold errX; rw [if_pos h77, ← hE, errF, if_pos hiX, k1]; rfl
          · unfold errX at y; rw [if_pos h77, ← hE, errF, if_pos hiX, k1] at y; cases y
  have zero : ∀ d j, j + d = 96 → ∀ τ : gw_S, SX [191, 204] [3, 4, 5] σ τ → gP τ true 0 → τ.1 189 5 = nI 0 → (∀ k, k < j → τ.1 191 k = 0) → PW x G 2 17 [(0, .ref (G.1 + 189)), (1, .int (nI j))] [] τ := by
    intro d
    induction d with
    | zero =>
      intro j hj τ hS hg h5 hz
      have hx' := hx.sx3 hS
      have h0 := tAt_lt hX 0
      refine sg_X8_readText_17 C hR hT _ τ ⟨fun _ => ?_, fun q => absurd ?_ q⟩
      · have e : (if τ.1 189 2 ≤ τ.1 189 3 then false else (if τ.1 190 (τ.1 189 3).toNatClampNeg = 77 then true else false : Bool) : Bool) = decide (tAt X 0 = 77) := by
          rw [hx'.1, hg.2, gif (nI_leI (by omega) (by omega)), nI_clamp (by omega)]
          by_cases q : X.1 ≤ 0
          · rw [if_pos q]
            unfold tAt; rw [if_neg (by omega)]; rfl
          · rw [if_neg q, hx'.2 0 (by omega)]
            have et : X.2 0 = tAt X 0 := by unfold tAt; rw [if_pos (by omega)]
            rw [et, show (77 : Int32) = nI 77 from rfl, gif (nI_eq (by omega) (by omega))]
            by_cases z : tAt X 0 = 77 <;> simp [z]
        rw [e]
        refine ⟨⟨fun _ => trivial, fun z => ⟨?_, trivial⟩⟩, _, k_X8_accept (v := decide (tAt X 0 = 77)) hg, ?_⟩
        · rw [hg.2]; exact vp_in_nI (by decide) (by decide)
        · rintro τ' ⟨g', S'⟩
          by_cases h77 : tAt X 0 = 77
          · rw [decide_eq_true h77] at g'
            have hrow : τ'.1 191 = τ.1 191 := S'.row (by decide) (by decide)
            refine loop 119 1 (by omega) (by omega) (by omega) τ' (oNil, 0) _ (hS.tr (sx34 S')) g' ⟨?_, ?_, fun m hm => absurd hm (Nat.not_lt_zero m), fun w hw => absurd hw (Nat.not_lt_zero w)⟩ VT_nil (by rw [S'.2.2 5 (by decide)]; exact h5) (by decide) h77 ?_ ?_
            · rw [hrow]; exact hz 0 (by omega)
            · rw [hrow]; exact hz 1 (by omega)
            · exact errF_fuel X 119 120 1 (by omega) (by omega)
            · exact ldF_fuel X 119 120 1 _ (by omega) (by omega)
          · rw [decide_eq_false h77] at g'
            refine sg_X8_readText_46 C hR hT _ τ' ⟨fun _ => ⟨?_, hS.tr (sx34 S'), fun y => ?_⟩, fun y => absurd (by rw [g'.1]; rfl) y⟩
            · rw [g'.1, if_pos (by decide), g'.2]
              unfold errX; rw [if_neg h77]; rfl
            · unfold errX at y; rw [if_neg h77] at y; cases y
      · rw [show (96 : Int32) = nI 96 from rfl, nI_le_iff (by omega) (by omega)]; omega
    | succ d ih =>
      intro j hj τ hS hg h5 hz
      refine sg_X8_readText_17 C hR hT _ τ ⟨fun q => ?_, fun _ => ⟨vp_in_nI (by omega) (by decide), ?_⟩⟩
      · rw [show (96 : Int32) = nI 96 from rfl, nI_le_iff (by omega) (by omega)] at q; omega
      · intro τ5 h5'
        rw [nI_clamp (by omega)] at h5'
        obtain ⟨d1, d2, d3⟩ := uk h5'
        rw [nI_1]
        refine ih (j + 1) (by omega) τ5 (hS.tr (uSk h5' (by decide) (by decide))) ⟨by rw [d1 189 (by decide)]; exact hg.1, by rw [d1 189 (by decide)]; exact hg.2⟩ (by rw [d1 189 (by decide)]; exact h5) (fun k hk => ?_)
        rw [d2]
        by_cases e : k = j
        · rw [e, pk_us]
        · rw [pk_un e]; exact hz k (by omega)
  exact zero 96 0 (by omega) τ3 S3 g3 q3 (fun k hk => absurd hk (Nat.not_lt_zero k))
end RT
