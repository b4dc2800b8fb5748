/-! the reference plays a round -/
/-- only the rows S and fields of 189 in F -/
theorem SX.row {S F : List Nat} {σ τ : gw_S} {k : Nat} (h : SX S F σ τ) (h1 : k ∉ S) (h2 : k ≠ 189) : τ.1 k = σ.1 k := h.1 k h1 h2
/-- the reference at the step t of a round on the row k -/
def QS (k : Nat) (s : qS) (σ : gw_S) : Prop := RR (σ.1 k) s.1 ∧ (∀ m, m < tM s.1 → σ.1 201 m = nI (s.2.1 m)) ∧ ∀ w, w < tW s.1 → σ.1 203 w = nI (s.2.2.2 w)
section PL
variable {l : Launch} {G : gw_G} {σ : gw_S} {T : pT}
theorem k_X8_choice {k r t : Nat} {D : Nat → Nat} {s : qS} {v3 : Int32} (hk : gw_ia k 96) (hr : r < 3) (hp : RR (σ.1 k) s.1) (hI : QI T D s t) (hdn : ∀ m, m < tM s.1 → σ.1 201 m = nI (s.2.1 m)) (hdu : ∀ m, m < tM s.1 → σ.1 197 m = nI (D m) ∧ D m ≤ 60) (h3 : v3 + 1 = nI s.2.2.1) : gw_M l G yX8_choice cX8_choice 10 (some .int) 2 [.ref (G.1 + 189), .ref (G.1 + k), .int (nI r), .int v3] σ (fi (fun q τ => q = oI (qN D r s) ∧ τ = σ)) := by
  obtain ⟨i1, i2, i3, i4, i5, i6, i7, i8, i9⟩ := hI
  have h8 := i1.1
  refine gw_met (by decide) (Nat.le_of_ble_eq_true rfl) (fun x C hR hT => sg_X8_choice_0 C hR hT k _ _ hk σ ?_)
  rw [gc0, hp.1]
  have key : ∀ d i, i + d = tM s.1 → PW x G 10 11 [(0, .ref (G.1 + 189)), (1, .ref (G.1 + k)), (2, .int (nI r)), (3, .int v3), (4, .int (oI (qB D r s i))), (5, .int (nI (tM s.1))), (6, .int (nI i))] [] σ := by
    intro d
    induction d with
    | zero =>
      intro i hi
      refine sg_X8_choice_11 C hR hT k hk _ _ _ _ _ σ ⟨fun _ => ⟨by rw [show i = tM s.1 by omega]; rfl, rfl⟩, fun z => absurd ?_ z⟩
      rw [nI_le_iff (by omega) (by omega)]; omega
    | succ d ih =>
      intro i hi
      have hiM : i < tM s.1 := by omega
      have hq := qI_lt (r := r) hiM
      have em : (if nI r = 2 then ((v3 + 1) + nI i) - ((v3 + 1) + nI i) / nI (tM s.1) * nI (tM s.1) else nI i : Int32) = nI (qI r s i) := by
        rw [h3, nI_add, pk_rem (by omega) (by omega) (by omega), show (2 : Int32) = nI 2 from rfl, gif (nI_eq (by omega) (by omega))]
        unfold qI; split <;> rfl
      obtain ⟨d1, d2⟩ := hdu _ hq
      have hdone := i4 (qI r s i) (by omega)
      refine sg_X8_choice_11 C hR hT k hk _ _ _ _ _ σ ⟨fun z => ?_, fun _ => ?_⟩
      · rw [nI_le_iff (by omega) (by omega)] at z; omega
      · have nxt := ih (i + 1) (by omega)
        rw [em, nI_clamp (by omega), d1, hdn _ hq, nI_le_iff (by omega) (by omega), nI_1]
        have hno : (¬ qC D s (qI r s i) = true) → PW x G 10 11 [(0, .ref (G.1 + 189)), (1, .ref (G.1 + k)), (2, .int (nI r)), (3, .int v3), (4, .int (oI (qB D r s i))), (5, .int (nI (tM s.1))), (6, .int (nI (i + 1)))] [] σ := fun hc => by
          have e : qB D r s (i + 1) = qB D r s i := by rw [qB, if_neg (fun z => hc z.1)]
          rw [e] at nxt
          exact nxt
        have gb : ¬ oI (qB D r s i) = -1 → ∃ b, qB D r s i = some b ∧ b < tM s.1 := fun h => by
          cases hb : qB D r s i with
          | none => rw [hb] at h; exact absurd rfl h
          | some b => exact ⟨b, rfl, (qB_some i (by omega) b hb).1⟩
        refine ⟨⟨fun _ => trivial, fun _ => ⟨nI_ne0 (by omega) (by omega), trivial⟩⟩, vp_in_nI (by omega) (by decide), fun e => ?_, fun e => ⟨_, k_X8_canWork hk hp i1 (by omega), ?_⟩⟩
        · have hc : ¬ qC D s (qI r s i) = true := fun z => by
            unfold qC at z; rw [Bool.and_eq_true, decide_eq_true_eq] at z; omega
          refine ⟨fun _ => hno hc, fun eb => ⟨fun _ => hno hc, fun _ => ⟨_, k_X8_gain hk hp i1 (by omega), ?_⟩⟩⟩
          obtain ⟨b, hb, hbM⟩ := gb eb
          rintro q τ ⟨rfl, rfl⟩
          have := hno hc
          rw [hb] at this ⊢
          refine ⟨_, k_X8_gain hk hp i1 (m := b) (by omega), ?_⟩
          rintro q τ' ⟨rfl, rfl⟩
          exact this
        · rintro q τ ⟨rfl, rfl⟩
          have ec : canB s.1 (qI r s i) = qC D s (qI r s i) := by unfold qC; simp [show s.2.1 (qI r s i) < D (qI r s i) by omega]
          have e2 : (if canB s.1 (qI r s i) = false then false else true : Bool) = qC D s (qI r s i) := by rw [ec]; cases qC D s (qI r s i) <;> rfl
          rw [e2]
          refine ⟨fun eb => ?_, fun eb => ⟨fun er => ?_, fun er => ⟨_, k_X8_gain hk hp i1 (by omega), ?_⟩⟩⟩
          · have hb : qB D r s i = none := by
              cases hb : qB D r s i with
              | none => rfl
              | some b =>
                rw [hb] at eb
                have := (qB_some i (by omega) b hb).1
                exact absurd eb (nI_m1 (by omega))
            by_cases z : qC D s (qI r s i) = true
            · have e : qB D r s (i + 1) = some (qI r s i) := by rw [qB, if_pos ⟨z, fun b h => by rw [hb] at h; cases h⟩]
              rw [e] at nxt
              rw [if_neg (by rw [z]; decide)]; exact nxt
            · rw [if_pos (by simpa using z)]; exact hno z
          · obtain ⟨b, hb, hbM⟩ := gb eb
            have er' : r ≠ 1 := fun z => er (by rw [z]; rfl)
            have e : qB D r s (i + 1) = qB D r s i := by rw [qB, if_neg (fun z => er' (z.2 b hb).1)]
            rw [e] at nxt
            exact nxt
          · obtain ⟨b, hb, hbM⟩ := gb eb
            have er' : r = 1 := by rw [show (1 : Int32) = nI 1 from rfl, nI_eq_iff (by omega) (by omega)] at er; exact er
            rintro q τ ⟨rfl, rfl⟩
            have hnob : (¬ (qC D s (qI r s i) = true ∧ gI s.1 (qI r s i) < gI s.1 b)) → PW x G 10 11 [(0, .ref (G.1 + 189)), (1, .ref (G.1 + k)), (2, .int (nI r)), (3, .int v3), (4, .int (nI b)), (5, .int (nI (tM s.1))), (6, .int (nI (i + 1)))] [] τ := fun hc => by
              have e : qB D r s (i + 1) = some b := by rw [qB, if_neg (fun z => hc ⟨z.1, (z.2 b hb).2⟩), hb]
              rw [e] at nxt
              exact nxt
            have hyb : qC D s (qI r s i) = true ∧ gI s.1 (qI r s i) < gI s.1 b → PW x G 10 11 [(0, .ref (G.1 + 189)), (1, .ref (G.1 + k)), (2, .int (nI r)), (3, .int v3), (4, .int (nI (qI r s i))), (5, .int (nI (tM s.1))), (6, .int (nI (i + 1)))] [] τ := fun hc => by
              have e : qB D r s (i + 1) = some (qI r s i) := by rw [qB, if_pos ⟨hc.1, fun b' h => by rw [hb] at h; cases h; exact ⟨er', hc.2⟩⟩]
              rw [e] at nxt
              exact nxt
            rw [hb]
            refine ⟨_, k_X8_gain hk hp i1 (m := b) (by omega), ?_⟩
            rintro q τ' ⟨rfl, rfl⟩
            rw [show oI (some b) = nI b from rfl]
            by_cases z : qC D s (qI r s i) = true
            · by_cases y : gI s.1 (qI r s i) < gI s.1 b
              · rw [if_neg (by rw [z]; decide), if_neg (by rw [if_neg (Int32.not_le.mpr y)]; decide)]
                exact hyb ⟨z, y⟩
              · rw [if_neg (by rw [z]; decide), if_pos (by rw [if_pos (Int32.not_lt.mp y)])]
                exact hnob (fun w => y w.2)
            · rw [if_pos (by simpa using z)]
              exact hnob (fun w => z w.1)
  exact key (tM s.1) 0 (by omega)
theorem k_X8_note {k : Nat} {mo : Nat → Nat} (hk : gw_ia k 96) (hk3 : k ≠ 203) (hp : RR (σ.1 k) T) (hv : VT T) (hm : ∀ w, w < tW T → σ.1 203 w = nI (mo w) ∧ mo w < 2 ^ 31) : gw_M l G yX8_note cX8_note 3 none 1 [.ref (G.1 + 189), .ref (G.1 + k)] σ (fv (fun τ => ∃ g, τ = gw_r σ 203 g ∧ ∀ w, w < tW T → g w = nI (if mo w < tH T w then tH T w else mo w))) := by
  have h14 := hv.2.1
  refine gw_met (by decide) (Nat.le_of_ble_eq_true rfl) (fun x C hR hT => sg_X8_note_0 C hR hT k hk σ ?_)
  have key : ∀ d i, i + d = tW T → ∀ g : Nat → Int32, (∀ w, w < tW T → g w = nI (if w < i then (if mo w < tH T w then tH T w else mo w) else mo w)) → PW x G 3 2 [(0, .ref (G.1 + 189)), (1, .ref (G.1 + k)), (2, .int (nI i))] [] (gw_r σ 203 g) := by
    intro d
    induction d with
    | zero =>
      intro i hi g hg
      refine sg_X8_note_2 C hR hT k hk _ _ ⟨fun _ => ⟨g, rfl, fun w hw => by rw [hg w hw, if_pos (by omega)]⟩, fun z => absurd ?_ z⟩
      rw [gc1, gw_r_ne _ _ hk3, hp.2.1, nI_le_iff (by omega) (by omega)]; omega
    | succ d ih =>
      intro i hi g hg
      have hiT : i < tW T := by omega
      have h7 := (hv.2.2.2 i hiT).2.2.2.2.2.2
      refine sg_X8_note_2 C hR hT k hk _ _ ⟨fun z => ?_, fun _ => ⟨wv4 (by omega), vp_in_nI (by omega) (by decide), ?_⟩⟩
      · rw [gc1, gw_r_ne _ _ hk3, hp.2.1, nI_le_iff (by omega) (by omega)] at z; omega
      · rintro τ rfl
        rw [wc4 (by omega), nI_clamp (by omega), gw_u_r, gw_r_at, gw_r_ne _ _ hk3, (hp.2.2.2 i hiT).2.2.2.2, hg i hiT, if_neg (Nat.lt_irrefl i), gif (nI_leI (by omega) (hm i hiT).2), nI_1]
        refine ih (i + 1) (by omega) _ (fun w hw => ?_)
        by_cases e : w = i
        · subst e
          rw [pk_us, if_pos (show w < w + 1 by omega)]
          by_cases z : mo w < tH T w
          · rw [if_neg (by omega), if_pos z]
          · rw [if_pos (by omega), if_neg z]
        · rw [pk_un e, hg w hw]
          by_cases e2 : w < i
          · rw [if_pos e2, if_pos (show w < i + 1 by omega)]
          · rw [if_neg e2, if_neg (show ¬ w < i + 1 by omega)]
  have := key (tW T) 0 (by omega) (σ.1 203) (fun w hw => by rw [if_neg (Nat.not_lt_zero w)]; exact (hm w hw).1)
  rw [gw_r_self] at this
  exact this
end PL
