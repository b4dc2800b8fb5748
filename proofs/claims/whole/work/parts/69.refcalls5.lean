/-! the reference's calls: bestRule, fewest, agrees -/
section RC
variable {l : Launch} {G : gw_G} {σ : gw_S} {A : aS}
abbrev SqR : List Nat := [193, 197, 198, 199, 200, 201, 202, 203, 204, 205]
abbrev SqF : List Nat := [15, 20, 22]
theorem SX.sq {S F : List Nat} {τ υ : gw_S} (h : SX S F τ υ) (h1 : S.all (fun k => SqR.contains k) = true) (h2 : F.all (fun k => SqF.contains k) = true) : SX SqR SqF τ υ :=
  h.mono (fun k hk => List.contains_iff_mem.mp (List.all_eq_true.mp h1 k hk)) (fun k hk => List.contains_iff_mem.mp (List.all_eq_true.mp h2 k hk))
theorem sI_nI {f : Nat → Int32} {g : Nat → Nat} : ∀ n, (∀ i, i < n → f i = nI (g i)) → sI f n = nI (sN g n)
  | 0, _ => rfl
  | n + 1, h => by rw [sI, sN, sI_nI n (fun i hi => h i (by omega)), h n (by omega), nI_add]
theorem g_bestRule (h : MI σ A) (hv : VA A) : gw_M l G yX8_bestRule cX8_bestRule 7 (some .int) 6 [.ref (G.1 + 189)] σ (fi (mA [] (anBest A) σ)) := by
  have h14 := hv.2.1.2.1
  refine gw_met (by decide) (Nat.le_of_ble_eq_true rfl) (fun x C hR hT => sg_X8_bestRule_0 C hR hT σ ?_)
  intro τ1 h1
  have key : ∀ n r, r + n = 3 → ∀ τ, SX SqR SqF τ1 τ → PW x G 7 11 [(0, .ref (G.1 + 189)), (1, .int (oX (bsF A.2.1 r).1)), (2, .int (nI (bsF A.2.1 r).2)), (3, .int (nI r))] [] τ := by
    intro n
    induction n with
    | zero =>
      intro r hr τ hS
      refine sg_X8_bestRule_11 C hR hT _ _ _ τ ⟨fun _ => mA_q h h1 hS (by decide) (by unfold anBest; rw [show r = 3 by omega]), fun q => absurd ?_ q⟩
      rw [show (3 : Int32) = nI 3 from rfl, nI_le_iff (by omega) (by omega)]; omega
    | succ n ih =>
      intro r hr τ hS
      have m := (h.u0 h1).q hS (by decide)
      obtain ⟨i1, i2⟩ := bsF_I hv.2.1 r
      refine sg_X8_bestRule_11 C hR hT _ _ _ τ ⟨fun q => ?_, fun _ => ⟨_, k_X8_tryRound (by omega) m.p hv.2.1, ?_⟩⟩
      · rw [show (3 : Int32) = nI 3 from rfl, nI_le_iff (by omega) (by omega)] at q; omega
      rintro b τ2 ⟨rfl, S2, h2⟩
      have S2' := hS.tr (S2.sq (by decide) (by decide))
      have m2 := (h.u0 h1).q S2' (by decide)
      have sm := sm_le (r := r) hv.2.1
      have e4 : (if agB A.2.1 = false then false else (if τ2.1 189 22 = 0 then false else true : Bool) : Bool) = rC A.2.1 r := by
        cases ha : agB A.2.1
        · rw [if_pos rfl]; unfold rC; rw [ha]; rfl
        · rw [if_neg (by decide), (h2 ha).2.2.1, gif (gz_0 _)]
          cases rC A.2.1 r <;> rfl
      rw [e4]
      have go := ih (r + 1) (by omega) τ2 S2'
      have inn : ∀ d i, i + d = tW A.2.1 → PW x G 7 44 [(0, .ref (G.1 + 189)), (1, .int (oX (bsF A.2.1 r).1)), (2, .int (nI (bsF A.2.1 r).2)), (3, .int (nI r)), (4, .int (gz (rC A.2.1 r))), (5, .int (sI (τ2.1 203) i)), (6, .int (nI i))] [] τ2 := by
        intro d
        induction d with
        | zero =>
          intro i hi
          refine sg_X8_bestRule_44 C hR hT _ _ _ _ _ _ τ2 ⟨fun _ => ?_, fun q => absurd ?_ q⟩
          · rw [show i = tW A.2.1 by omega, nI_1, gif (gz_0 _)]
            cases e : rC A.2.1 r
            · rw [if_pos rfl, if_pos rfl, if_pos rfl]
              rw [bsF_n (fun c => by rw [c.1] at e; cases e)] at go
              exact go
            · have hsum : sI (τ2.1 203) (tW A.2.1) = nI (sN (rE A.2.1 r).2.2.2 (tW A.2.1)) := sI_nI _ (fun w hw => (h2 (rC_a e)).2.2.2.2 w hw)
              rw [if_neg (show ¬ true = false by decide), hsum]
              generalize hB : (if oX (bsF A.2.1 r).1 = -1 then true else (if nI (bsF A.2.1 r).2 ≤ nI (sN (rE A.2.1 r).2.2.2 (tW A.2.1)) then false else true : Bool) : Bool) = B
              cases y : (bsF A.2.1 r).1 with
              | none =>
                rw [bsF_y ⟨e, fun b hb => by rw [y] at hb; cases hb⟩] at go
                have hBt : B = true := by rw [← hB, y]; exact if_pos rfl
                subst hBt
                exact go
              | some b =>
                have hb3 := i1 b y
                by_cases w : (bsF A.2.1 r).2 ≤ sN (rE A.2.1 r).2.2.2 (tW A.2.1)
                · have hBt : B = false := by
                    rw [← hB, y, if_neg (show ¬ oX (some b) = -1 from nI_m1 (by omega)), gif (nI_leI (by omega) (by omega)), if_pos w]
                  subst hBt
                  rw [bsF_n (fun c => by have := c.2 b y; omega), y] at go
                  exact go
                · have hBt : B = true := by
                    rw [← hB, y, if_neg (show ¬ oX (some b) = -1 from nI_m1 (by omega)), gif (nI_leI (by omega) (by omega)), if_neg w]
                  subst hBt
                  rw [bsF_y ⟨e, fun b' hb => by rw [y] at hb; have q := Option.some.inj hb; omega⟩] at go
                  exact go
          · rw [gc1, m2.p.2.1, nI_le_iff (by omega) (by omega)]; omega
        | succ d ihd =>
          intro i hi
          refine sg_X8_bestRule_44 C hR hT _ _ _ _ _ _ τ2 ⟨fun q => ?_, fun _ => ⟨vp_in_nI (by omega) (by decide), ?_⟩⟩
          · rw [gc1, m2.p.2.1, nI_le_iff (by omega) (by omega)] at q; omega
          · rw [nI_clamp (by omega), nI_1]
            exact ihd (i + 1) (by omega)
      exact inn (tW A.2.1) 0 (by omega)
  exact key 3 0 (by omega) τ1 SX.rf
theorem rC_put (T : pT) (w n r : Nat) (ha : agB T = false) : rC (oPut T w n) r = false := by
  have : agB (oPut T w n) = agB T := rfl
  unfold rC; rw [this, ha]; rfl
theorem g_fewest (h : MI σ A) (hv : VA A) (w : Int32) : gw_M l G yX8_fewest cX8_fewest 3 (some .int) 5 [.ref (G.1 + 189), .int w] σ (fi (mA [1] (anFewest A w) σ)) := by
  have h14 := hv.2.1.2.1
  refine gw_met (by decide) (Nat.le_of_ble_eq_true rfl) (fun x C hR hT => sg_X8_fewest_0 C hR hT _ σ ?_)
  rw [gc1, h.p.2.1, wr_ref w hv.2.1, ifd]
  refine rfE (mp [1] (anFewest A w).1) ?_ (mp_lt _ _ (by decide)) (fun z τ1 h1 => ?_) (fun z τ1 h1 => mA_no h ?_ z h1)
  · unfold anFewest
    by_cases z : wrF A.2.1 w = 0
    · rw [if_pos z, if_pos z]; rfl
    · rw [if_neg z, if_neg z]; rfl
  · have q : wrF A.2.1 w = 0 := by
      have z' := mp_0 z
      unfold anFewest at z'
      by_cases q : wrF A.2.1 w = 0
      · exact q
      · rw [if_neg q] at z'; cases z'
    obtain ⟨i, hi, rfl⟩ := wrF_0 hv.2.1 q
    have ea : anFewest A (nI i) = (0, fwI A.2.1 i, A) := by unfold anFewest; rw [if_pos q, nI_clamp (by omega)]
    have key : ∀ d n, n + d = 100 → ∀ τ, SX SqR SqF τ1 τ → (∀ j, j < n → rC (oPut A.2.1 i j) 0 = false) → PW x G 3 24 [(0, .ref (G.1 + 189)), (1, .int (nI i)), (2, .int (nI n))] [] τ := by
      intro d
      induction d with
      | zero =>
        intro n hn τ hS hf
        refine sg_X8_fewest_24 C hR hT _ _ τ ⟨fun _ => mA_q h h1 hS (by decide) (by rw [ea, fwI_no (fun k hk => hf k (by omega))]), fun q => absurd ?_ q⟩
        rw [show (99 : Int32) = nI 99 from rfl, nI_lt_iff (by omega) (by omega)]; omega
      | succ d ih =>
        intro n hn τ hS hf
        have m := (h.u0 h1).q hS (by decide)
        refine sg_X8_fewest_24 C hR hT _ _ τ ⟨fun q => ?_, fun _ => ⟨_, k_X8_tryIt m.p hv.2.1, ?_⟩⟩
        · rw [show (99 : Int32) = nI 99 from rfl, nI_lt_iff (by omega) (by omega)] at q; omega
        rintro τ2 ⟨S2, p2⟩
        rw [wc4 (by omega)]
        refine ⟨wv4 (by omega), ?_⟩
        intro τ4 h4
        have p4 : RR (τ4.1 193) (oPut A.2.1 i n) := by rw [h4, gw_u_r0, gw_r_at]; exact RR_put p2 hv.2.1
        have v4 : VT (oPut A.2.1 i n) := VT_put hv.2.1 (by omega)
        have S4 : SX SqR SqF τ1 τ4 := (hS.tr (S2.sq (by decide) (by decide))).tr (uSk h4 (by decide) (by decide))
        refine ⟨_, k_X8_layWorks ia193 p4 v4, ?_⟩
        rintro b τ6 ⟨rfl, S6, h15, hd⟩
        have S6' := S4.tr (S6.sq (by decide) (by decide))
        refine ⟨fun e => ?_, fun e => mA_q h h1 S6' (by decide) (by rw [ea, fwI_no (T := A.2.1) (w := i) (fun k hk => rC_put A.2.1 i k 0 e)])⟩
        have ha : agB (oPut A.2.1 i n) = true := by simpa using e
        refine ⟨_, k_X8_play (r := 0) (by decide) (by rw [S6.row (by decide) (by decide)]; exact p4) v4 ha (fun k hk => hd _ (rD_ok ha) k hk), ?_⟩
        rintro τ9 ⟨S9, g1, g2, g3, g4, g5⟩
        have S9' := S6'.tr (S9.sq (by decide) (by decide))
        rw [g3]
        refine ⟨fun y => ?_, fun y => ?_⟩
        · have y' := (gz_0 _).mp y
          rw [nI_1]
          refine ih (n + 1) (by omega) τ9 S9' (fun j hj => ?_)
          by_cases c : j = n
          · rw [c]; exact y'
          · exact hf j (by omega)
        · have y' : rC (oPut A.2.1 i n) 0 = true := by
            cases c : rC (oPut A.2.1 i n) 0
            · rw [c] at y; exact absurd rfl y
            · rfl
          exact mA_q h h1 S9' (by decide) (by rw [ea, fwI_n (by omega) y' hf])
    exact key 100 0 (by omega) τ1 SX.rf (fun j hj => absurd hj (Nat.not_lt_zero j))
  · unfold anFewest
    by_cases q : wrF A.2.1 w = 0
    · rw [if_pos q]
    · rw [if_neg q]
theorem RR_rate {f : Nat → Int32} {T : pT} {w c v : Nat} (hp : RR f T) (hv : VT T) : RR (upd (upd f (26 + 5 * w + 2) (nI c)) (26 + 5 * w + 3) (nI v)) (oRate T w c v) := by
  have h8 := hv.1
  refine ⟨?_, ?_, fun j hj => ?_, fun i hi => ?_⟩
  · rw [pk_un (by omega), pk_un (by omega)]; exact hp.1
  · rw [pk_un (by omega), pk_un (by omega)]; exact hp.2.1
  · have hj8 : j < tM T := hj
    rw [pk_un (by omega), pk_un (by omega), pk_un (by omega), pk_un (by omega), pk_un (by omega), pk_un (by omega)]; exact hp.2.2.1 j hj
  · obtain ⟨r1, r2, r3, r4, r5⟩ := hp.2.2.2 i hi
    rw [pk_un (j := 26 + 5 * i) (by omega), pk_un (j := 26 + 5 * i) (by omega), pk_un (j := 26 + 5 * i + 1) (by omega), pk_un (j := 26 + 5 * i + 1) (by omega), pk_un (j := 26 + 5 * i + 2) (by omega), pk_un (j := 26 + 5 * i + 4) (by omega), pk_un (j := 26 + 5 * i + 4) (by omega)]
    refine ⟨r1, r2, ?_, ?_, r5⟩
    · show _ = nI (if i = w then c else tC T i)
      by_cases e : i = w
      · rw [if_pos e, e, pk_us]
      · rw [if_neg e, pk_un (by omega)]; exact r3
    · show _ = nI (if i = w then v else tV T i)
      by_cases e : i = w
      · rw [if_pos e, e, pk_us]
      · rw [if_neg e, pk_un (by omega), pk_un (by omega)]; exact r4
theorem g_agrees (h : MI σ A) (hv : VA A) (w c : Int32) : gw_M l G yX8_agrees cX8_agrees 4 (some .int) 5 [.ref (G.1 + 189), .int w, .int c] σ (fi (mA [1, 2] (anAgrees A w c) σ)) := by
  have h14 := hv.2.1.2.1
  refine gw_met (by decide) (Nat.le_of_ble_eq_true rfl) (fun x C hR hT => sg_X8_agrees_0 C hR hT _ _ σ ?_)
  have er : (if lg_cmp c.toInt64 1 < 0 then false else (if 0 < lg_cmp c.toInt64 6 then false else true : Bool) : Bool) = decide (rgI 1 6 c = 0) := rg_ref c (lo := 1) (hi := 6) (by decide) (by decide)
  rw [gc1, h.p.2.1, wr_ref w hv.2.1, er, ifd, ifd]
  refine rfE (mp [1, 2] (anAgrees A w c).1) ?_ (mp_lt _ _ (by decide)) (fun z τ1 h1 => ?_) (fun z τ1 h1 => mA_no h ?_ z h1)
  · unfold anAgrees
    by_cases z : wrF A.2.1 w = 0
    · rw [if_pos z, if_pos z]
      by_cases y : rgI 1 6 c = 0
      · rw [if_pos y, if_pos y]; rfl
      · rw [if_neg y, if_neg y]; rfl
    · rw [if_neg z, if_neg z]; rfl
  · have q : wrF A.2.1 w = 0 ∧ rgI 1 6 c = 0 := by
      have z' := mp_0 z
      unfold anAgrees at z'
      by_cases q : wrF A.2.1 w = 0
      · rw [if_pos q] at z'
        by_cases y : rgI 1 6 c = 0
        · exact ⟨q, y⟩
        · rw [if_neg y] at z'; cases z'
      · rw [if_neg q] at z'; cases z'
    obtain ⟨q1, q2⟩ := q
    obtain ⟨i, hi, rfl⟩ := wrF_0 hv.2.1 q1
    obtain ⟨j, hj1, hj, rfl⟩ := rgI_0 (lo := 1) (hi := 6) (by decide) (by decide) q2
    have ea : anAgrees A (nI i) (nI j) = (0, agF A.2.1 i j 6 1, A) := by unfold anAgrees; rw [if_pos q1, if_pos q2, nI_clamp (by omega), nI_clamp (by omega)]
    have key : ∀ f u, u + f = 7 → 1 ≤ u → ∀ τ, SX SqR SqF τ1 τ → agF A.2.1 i j f u = agF A.2.1 i j 6 1 → PW x G 4 35 [(0, .ref (G.1 + 189)), (1, .int (nI i)), (2, .int (nI j)), (3, .int (nI u))] [] τ := by
      intro f
      induction f with
      | zero =>
        intro u hu hu1 τ hS he
        refine sg_X8_agrees_35 C hR hT _ _ _ τ ⟨fun _ => mA_q h h1 hS (by decide) (by rw [ea, ← he]; rfl), fun q => absurd ?_ q⟩
        rw [show (6 : Int32) = nI 6 from rfl, nI_lt_iff (by omega) (by omega)]; omega
      | succ f ih =>
        intro u hu hu1 τ hS he
        have m := (h.u0 h1).q hS (by decide)
        refine sg_X8_agrees_35 C hR hT _ _ _ τ ⟨fun q => ?_, fun _ => ⟨_, k_X8_tryIt m.p hv.2.1, ?_⟩⟩
        · rw [show (6 : Int32) = nI 6 from rfl, nI_lt_iff (by omega) (by omega)] at q; omega
        rintro τ2 ⟨S2, p2⟩
        rw [wc2 (by omega), wc3 (by omega)]
        refine ⟨wv2 (by omega), ?_⟩
        intro τ4 h4
        refine ⟨wv3 (by omega), ?_⟩
        intro τ6 h6
        have p6 : RR (τ6.1 193) (oRate A.2.1 i j u) := by
          rw [(uk h6).2.1, (uk h4).2.1]; exact RR_rate p2 hv.2.1
        have S6 : SX SqR SqF τ1 τ6 := ((hS.tr (S2.sq (by decide) (by decide))).tr (uSk h4 (by decide) (by decide))).tr (uSk h6 (by decide) (by decide))
        refine ⟨_, k_X8_layWorks ia193 p6 (VT_rate hv.2.1 hj1 hj hu1 (by omega)), ?_⟩
        rintro b τ8 ⟨rfl, S8, h15, hd⟩
        have S8' := S6.tr (S8.sq (by decide) (by decide))
        refine ⟨fun e => ?_, fun e => mA_q h h1 S8' (by decide) ?_⟩
        · rw [nI_1]
          exact ih (u + 1) (by omega) (by omega) τ8 S8' (by rw [← he, agF, if_neg (by rw [e]; decide)])
        · have e' : agB (oRate A.2.1 i j u) = true := by simpa using e
          rw [ea, ← he, agF, if_pos e']
    exact key 6 1 (by omega) (by omega) τ1 SX.rf rfl
  · unfold anAgrees
    by_cases q : wrF A.2.1 w = 0
    · rw [if_pos q]
      by_cases y : rgI 1 6 c = 0
      · rw [if_pos y]
      · rw [if_neg y]
    · rw [if_neg q]
end RC
