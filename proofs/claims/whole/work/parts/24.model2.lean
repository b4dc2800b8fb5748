section ML
variable {l : Launch} {x : gw_X} {G : gw_G} {σ : gw_S} {k : Nat} {T : pT}
theorem k_X8_marks (hk : gw_ia k 96) (hp : RR (σ.1 k) T) (hv : VT T) : gw_M l G yX8_marks cX8_marks 3 (some .int) 1 [.ref (G.1 + k)] σ (fi (fun r τ => r = nI (sN (tH T) (tW T)) ∧ τ = σ)) := by
  refine gw_met (by decide) (Nat.le_of_ble_eq_true rfl) (fun x C hR hT => sg_X8_marks_0 C hR hT k hk σ ?_)
  have hw := hv.2.1
  have key : ∀ n i, i + n = tW T → PW x G 3 4 [(0, .ref (G.1 + k)), (1, .int (nI (sN (tH T) i))), (2, .int (nI i))] [] σ := by
    intro n
    induction n with
    | zero =>
      intro i hi
      refine sg_X8_marks_4 C hR hT k hk _ _ σ ⟨fun _ => ⟨by rw [show i = tW T by omega], rfl⟩, fun q => absurd ?_ q⟩
      rw [gc1, hp.2.1, nI_le_iff (by omega) (by omega)]; omega
    | succ n ih =>
      intro i hi
      refine sg_X8_marks_4 C hR hT k hk _ _ σ ⟨fun q => ?_, fun _ => ⟨wv4 (by omega), ?_⟩⟩
      · rw [gc1, hp.2.1, nI_le_iff (by omega) (by omega)] at q; omega
      · rw [wc4 (by omega), (hp.2.2.2 i (by omega)).2.2.2.2, nI_add, nI_1]; exact ih (i + 1) (by omega)
  exact key (tW T) 0 (by omega)
theorem k_X8_works (hk : gw_ia k 96) (hp : RR (σ.1 k) T) (hv : VT T) : gw_M l G yX8_works cX8_works 3 (some .int) 1 [.ref (G.1 + k)] σ (fi (fun r τ => r = sI (tD T) (tM T) ∧ τ = σ)) := by
  refine gw_met (by decide) (Nat.le_of_ble_eq_true rfl) (fun x C hR hT => sg_X8_works_0 C hR hT k hk σ ?_)
  have hw := hv.1
  have key : ∀ n i, i + n = tM T → PW x G 3 4 [(0, .ref (G.1 + k)), (1, .int (sI (tD T) i)), (2, .int (nI i))] [] σ := by
    intro n
    induction n with
    | zero =>
      intro i hi
      refine sg_X8_works_4 C hR hT k hk _ _ σ ⟨fun _ => ⟨by rw [show i = tM T by omega], rfl⟩, fun q => absurd ?_ q⟩
      rw [gc0, hp.1, nI_le_iff (by omega) (by omega)]; omega
    | succ n ih =>
      intro i hi
      refine sg_X8_works_4 C hR hT k hk _ _ σ ⟨fun q => ?_, fun _ => ⟨mv2 (by omega), ?_⟩⟩
      · rw [gc0, hp.1, nI_le_iff (by omega) (by omega)] at q; omega
      · rw [mc2 (by omega), (hp.2.2.1 i (by omega)).2.2, nI_1]; exact ih (i + 1) (by omega)
  exact key (tM T) 0 (by omega)
theorem pw_z2 {nL pc : Nat} {A B : List (Nat × Value)} {j : Nat} {b b' : Bool} (e : b = b') (h : PW x G nL pc (A ++ (j, .int (gz b')) :: B) [] σ) : PW x G nL pc (A ++ (j, .int (gz b)) :: B) [] σ := by rw [e]; exact h
theorem k_X8_canWork {m : Nat} (hk : gw_ia k 96) (hp : RR (σ.1 k) T) (hv : VT T) (hm : m < 2 ^ 31) : gw_M l G yX8_canWork cX8_canWork 7 (some .boolean) 1 [.ref (G.1 + k), .int (nI m)] σ (fz (fun r τ => r = canB T m ∧ τ = σ)) := by
  refine gw_met (by decide) (Nat.le_of_ble_eq_true rfl) (fun x C hR hT => sg_X8_canWork_0 C hR hT k _ hk σ ?_)
  have hw := hv.2.1
  have key : ∀ n i, i + n = tW T → PW x G 7 4 [(0, .ref (G.1 + k)), (1, .int (nI m)), (2, .int (gz (bA (canb T m) i))), (3, .int (nI i))] [] σ := by
    intro n
    induction n with
    | zero =>
      intro i hi
      refine sg_X8_canWork_4 C hR hT k hk _ _ _ σ ⟨fun _ => ⟨by rw [show i = tW T by omega]; rfl, rfl⟩, fun q => absurd ?_ q⟩
      rw [gc1, hp.2.1, nI_le_iff (by omega) (by omega)]; omega
    | succ n ih =>
      intro i hi
      have hiT : i < tW T := by omega
      obtain ⟨r1, r2, r3, r4, r5⟩ := hp.2.2.2 i hiT
      obtain ⟨h1, h2, h3, h4, h5, h6, h7⟩ := hv.2.2.2 i hiT
      have h8 := hv.1
      refine sg_X8_canWork_4 C hR hT k hk _ _ _ σ ⟨fun q => ?_, fun _ => ⟨wv4 (by omega), wv1 (by omega), ⟨fun _ => trivial, fun _ => ⟨fun _ => trivial, fun _ => ⟨wv3 (by omega), trivial⟩⟩⟩, ⟨fun _ => trivial, fun _ => ⟨wv3 (by omega), trivial⟩⟩, wv2 (by omega), ⟨fun _ => trivial, fun _ => ⟨wv0 (by omega), trivial⟩⟩, ?_⟩⟩
      · rw [gc1, hp.2.1, nI_le_iff (by omega) (by omega)] at q; omega
      · rw [wc0 (by omega), wc1 (by omega), wc2 (by omega), wc3 (by omega), wc4 (by omega), nI_1, show 26 + 5 * i + 0 = 26 + 5 * i from rfl, r1, r2, r3, r4, r5]
        refine pw_z2 (A := [(0, .ref (G.1 + k)), (1, .int (nI m))]) (B := [(3, .int (nI (i + 1)))]) ?_ (ih (i + 1) (by omega))
        rw [bA]
        generalize bA (canb T m) i = is
        cases is with
        | false => simp
        | true =>
          by_cases e1 : tO T i = m
          · by_cases e2 : tH T i < tV T i
            · have : canb T m i = false := by simp [canb, e1]; omega
              rw [this]
              simp [e1, nI_lt_iff (show tH T i < 2 ^ 31 by omega) (show tV T i < 2 ^ 31 by omega), e2]
            · have q2 : ¬ (nI (tH T i) < nI (tV T i)) := by rw [nI_lt_iff (by omega) (by omega)]; exact e2
              by_cases e3 : tF T i = m
              · have eb : bh T m i = tH T i - tV T i + tC T i := by simp [bh, e1, e3]
                have hc : canb T m i = decide (tH T i - tV T i + tC T i ≤ 999) := by simp [canb, e1, eb]; omega
                rw [hc]
                simp [e1, e3, q2, pk_sub (show tV T i ≤ tH T i by omega), nI_add, show (999 : Int32) = nI 999 from rfl, nI_lt_iff (show 999 < 2 ^ 31 by decide) (show tH T i - tV T i + tC T i < 2 ^ 31 by omega)]
                by_cases e4 : 999 < tH T i - tV T i + tC T i
                · simp [e4]
                · simp [e4]; omega
              · have eb : bh T m i = tH T i - tV T i := by simp [bh, e1, e3]
                have hc : canb T m i = true := by simp [canb, e1, eb]; omega
                have q3 : ¬ nI (tF T i) = nI m := by rw [nI_eq_iff (by omega) hm]; exact e3
                rw [hc]
                simp [e1, q2, q3]
          · have q1 : ¬ nI (tO T i) = nI m := by rw [nI_eq_iff (by omega) hm]; exact e1
            by_cases e3 : tF T i = m
            · have eb : bh T m i = tH T i + tC T i := by simp [bh, e1, e3]
              have hc : canb T m i = decide (tH T i + tC T i ≤ 999) := by simp [canb, e1, eb]
              rw [hc]
              have z0 : nI (tH T i) - 0 = nI (tH T i) := by rw [← nI_0, pk_sub (Nat.zero_le _)]; rfl
              simp [q1, e3, z0, nI_add, show (999 : Int32) = nI 999 from rfl, nI_lt_iff (show 999 < 2 ^ 31 by decide) (show tH T i + tC T i < 2 ^ 31 by omega)]
              by_cases e4 : 999 < tH T i + tC T i
              · simp [e4]
              · simp [e4]; omega
            · have eb : bh T m i = tH T i := by simp [bh, e1, e3]
              have hc : canb T m i = true := by simp [canb, e1, eb]; omega
              have q3 : ¬ nI (tF T i) = nI m := by rw [nI_eq_iff (by omega) hm]; exact e3
              rw [hc]
              simp [q1, q3]
  exact key (tW T) 0 (by omega)
theorem k_X8_gain {m : Nat} (hk : gw_ia k 96) (hp : RR (σ.1 k) T) (hv : VT T) (hm : m < 2 ^ 31) : gw_M l G yX8_gain cX8_gain 4 (some .int) 1 [.ref (G.1 + k), .int (nI m)] σ (fi (fun r τ => r = gI T m ∧ τ = σ)) := by
  refine gw_met (by decide) (Nat.le_of_ble_eq_true rfl) (fun x C hR hT => sg_X8_gain_0 C hR hT k _ hk σ ?_)
  have hw := hv.2.1
  have key : ∀ n i, i + n = tW T → PW x G 4 4 [(0, .ref (G.1 + k)), (1, .int (nI m)), (2, .int (sI (fun w => (if tF T w = m then nI (tC T w) else 0) - (if tO T w = m then nI (tV T w) else 0)) i)), (3, .int (nI i))] [] σ := by
    intro n
    induction n with
    | zero =>
      intro i hi
      refine sg_X8_gain_4 C hR hT k hk _ _ _ σ ⟨fun _ => ⟨by rw [show i = tW T by omega]; rfl, rfl⟩, fun q => absurd ?_ q⟩
      rw [gc1, hp.2.1, nI_le_iff (by omega) (by omega)]; omega
    | succ n ih =>
      intro i hi
      have hiT : i < tW T := by omega
      obtain ⟨r1, r2, r3, r4, r5⟩ := hp.2.2.2 i hiT
      obtain ⟨h1, h2, h3, h4, h5, h6, h7⟩ := hv.2.2.2 i hiT
      have h8 := hv.1
      refine sg_X8_gain_4 C hR hT k hk _ _ _ σ ⟨fun q => ?_, fun _ => ⟨wv0 (by omega), ⟨fun _ => trivial, fun _ => ⟨wv2 (by omega), trivial⟩⟩, wv1 (by omega), ⟨fun _ => trivial, fun _ => ⟨wv3 (by omega), trivial⟩⟩, ?_⟩⟩
      · rw [gc1, hp.2.1, nI_le_iff (by omega) (by omega)] at q; omega
      · have := ih (i + 1) (by omega)
        rw [sI] at this
        have g1 : (if nI (tF T i) = nI m then nI (tC T i) else 0) = (if tF T i = m then nI (tC T i) else 0) := gif (nI_eq (by omega) hm) _ _
        have g2 : (if nI (tO T i) = nI m then nI (tV T i) else 0) = (if tO T i = m then nI (tV T i) else 0) := gif (nI_eq (by omega) hm) _ _
        rw [wc0 (by omega), wc1 (by omega), wc2 (by omega), wc3 (by omega), nI_1, show 26 + 5 * i + 0 = 26 + 5 * i from rfl, r1, r2, r3, r4, g1, g2]
        exact this
  exact key (tW T) 0 (by omega)
end ML
