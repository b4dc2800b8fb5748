/-! commands of scripts and turns of simulations: the reference -/
section GR
variable {l : Launch} {G : gw_G} {σ : gw_S} {T : pT}
theorem sxR {S F : List Nat} {σ τ : gw_S} (h : SX S F σ τ) (h1 : ∀ k, k ∈ S → k ∈ RSc) (h2 : ∀ k, k ∈ F → k ∈ [15, 20, 22]) : SX RSc [15, 20, 22] σ τ := h.mono h1 h2
theorem k_X8_does {g : Nat} (hg : g < 2 ^ 31) (hp : RR (σ.1 193) T) (hv : VT T) : gw_M l G yX8_does cX8_does 6 (some .boolean) 6 [.ref (G.1 + 189), .int (nI g)] σ (fz (fun q τ => q = gB T (g / 100000) (g % 100000) ∧ RR (τ.1 193) (gT T (g / 100000) (g % 100000)) ∧ SX RSc [15, 20, 22] σ τ)) := by
  have h8 := hv.1
  have h14 := hv.2.1
  refine gw_met (by decide) (Nat.le_of_ble_eq_true rfl) (fun x C hR hT => sg_X8_does_0 C hR hT _ σ ?_)
  have hq : g / 100000 < 2 ^ 31 := Nat.lt_of_le_of_lt (Nat.div_le_self _ _) hg
  have hr : g % 100000 < 100000 := Nat.mod_lt _ (by decide)
  have h100 : nI g - nI g / nI 100 * nI 100 = nI (g % 100000 % 100) := by
    rw [pk_rem hg (by decide) (by decide)]; congr 1; omega
  rw [show (100 : Int32) = nI 100 from rfl, h100, dv5 hg, md5 hg, nI_toInt hq]
  generalize g / 100000 = q at *
  generalize g % 100000 = r at *
  have d1 : ∀ k d, k < 2 ^ 31 → 0 < d → d < 2 ^ 31 → nI k / nI d = nI (k / d) := fun k d h1 h2 h3 => pk_div h1 h2 h3
  have d2 : ∀ k d, k < 2 ^ 31 → 0 < d → d < 2 ^ 31 → nI k - nI (k / d) * nI d = nI (k % d) := fun k d h1 h2 h3 => by rw [← pk_div h1 h2 h3]; exact pk_rem h1 h2 h3
  rw [show (10000 : Int32) = nI 10000 from rfl, show (1000 : Int32) = nI 1000 from rfl, show (10 : Int32) = nI 10 from rfl, d1 r 10000 (by omega) (by decide) (by decide), d1 r 1000 (by omega) (by decide) (by decide), d1 r 100 (by omega) (by decide) (by decide), d1 r 10 (by omega) (by decide) (by decide), d1 (r / 1000) 10 (by omega) (by decide) (by decide), d1 (r / 100) 10 (by omega) (by decide) (by decide), d1 (r / 10) 10 (by omega) (by decide) (by decide), d1 (r / 100) 100 (by omega) (by decide) (by decide), d2 (r / 1000) 10 (by omega) (by decide) (by decide), d2 (r / 100) 10 (by omega) (by decide) (by decide), d2 (r / 10) 10 (by omega) (by decide) (by decide), d2 r 10 (by omega) (by decide) (by decide), d2 (r / 100) 100 (by omega) (by decide) (by decide)]
  refine ⟨fun h => ?_, fun h => ?_, fun h => ?_, fun h => ?_, fun h => ?_, fun h => ?_, fun h => ?_, fun h => ?_, fun h => ?_, fun h => ?_⟩
  · have e : q = 0 ∨ 10 ≤ q := by omega
    rcases e with e | e
    · subst e; exact ⟨rfl, hp, SX.rf⟩
    · obtain ⟨k, rfl⟩ : ∃ k, q = k + 10 := ⟨q - 10, by omega⟩
      exact ⟨rfl, hp, SX.rf⟩
  · obtain rfl : q = 1 := by omega
    refine ⟨_, k_X8_lays hp hv (by omega) (by omega) (by omega) (by omega) (by omega), ?_⟩
    rintro b τ ⟨rfl, h1, h2⟩
    exact ⟨rfl, h1, sxR h2 (fun k h => by simp at h; simp; omega) (fun k h => by cases h)⟩
  · obtain rfl : q = 2 := by omega
    rw [nI_le_iff (a := 100) (by omega) (by omega)]
    refine ⟨fun z => ⟨?_, ?_, SX.rf⟩, fun z => ⟨_, k_X8_cuts hp hv (by omega), ?_⟩⟩
    · show false = (decide (r < 100) && decide (r < tW T)); simp [show ¬ r < 100 by omega]
    · show RR (σ.1 193) (if r < 100 then oTC T r else T); rw [if_neg (by omega)]; exact hp
    · rintro b τ ⟨rfl, h1, h2⟩
      rw [bI]
      rw [show r % 100 = r by omega] at h1 ⊢
      refine ⟨?_, ?_, sxR h2 (fun k h => by simp at h; simp; omega) (fun k h => by cases h)⟩
      · show decide (r < tW T) = (decide (r < 100) && decide (r < tW T)); simp [show r < 100 by omega]
      · show RR (τ.1 193) (if r < 100 then oTC T r else T); rw [if_pos (by omega)]; exact h1
  · obtain rfl : q = 3 := by omega
    rw [nI_le_iff (a := 10000) (by omega) (by omega)]
    refine ⟨fun z => ⟨?_, ?_, SX.rf⟩, fun z => ⟨_, k_X8_puts hp hv (by omega) (by omega), ?_⟩⟩
    · show false = (decide (r < 10000) && tpB T (r / 100) (r % 100)); simp [show ¬ r < 10000 by omega]
    · show RR (σ.1 193) (if r < 10000 then oTP T (r / 100) (r % 100) else T); rw [if_neg (by omega)]; exact hp
    · rintro b τ ⟨rfl, h1, h2⟩
      rw [bI]
      rw [show r / 100 % 100 = r / 100 by omega] at h1 ⊢
      refine ⟨?_, ?_, sxR h2 (fun k h => by simp at h; simp; omega) (fun k h => by cases h)⟩
      · show tpB T (r / 100) (r % 100) = (decide (r < 10000) && tpB T (r / 100) (r % 100)); simp [show r < 10000 by omega]
      · show RR (τ.1 193) (if r < 10000 then oTP T (r / 100) (r % 100) else T); rw [if_pos (by omega)]; exact h1
  · obtain rfl : q = 4 := by omega
    rw [nI_le_iff (a := 10) (by omega) (by omega)]
    refine ⟨fun z => ⟨?_, ?_, SX.rf⟩, fun z => ⟨_, k_X8_worksOne hp hv (by omega), ?_⟩⟩
    · show false = (decide (r < 10) && tfB T r); simp [show ¬ r < 10 by omega]
    · show RR (σ.1 193) (if r < 10 then oTF T r else T); rw [if_neg (by omega)]; exact hp
    · rintro b τ ⟨rfl, h1, h2⟩
      rw [bI]
      refine ⟨?_, ?_, sxR h2 (fun k h => by simp at h; simp; omega) (fun k h => by cases h)⟩
      · show tfB T r = (decide (r < 10) && tfB T r); simp [show r < 10 by omega]
      · show RR (τ.1 193) (if r < 10 then oTF T r else T); rw [if_pos (by omega)]; exact h1
  · obtain rfl : q = 5 := by omega
    rw [nI_le_iff (a := 10) (by omega) (by omega)]
    refine ⟨fun z => ⟨?_, ?_, SX.rf⟩, fun z => ⟨_, k_X8_rounds hp hv (by omega), ?_⟩⟩
    · show false = (decide (r < 10) && tRB T r); simp [show ¬ r < 10 by omega]
    · show RR (σ.1 193) (if r < 10 then oTR T r else T); rw [if_neg (by omega)]; exact hp
    · rintro b τ ⟨rfl, h1, h2, -⟩
      rw [bI]
      refine ⟨?_, ?_, sxR h2 (fun k h => by simp at h; simp; omega) (fun k h => h)⟩
      · show tRB T r = (decide (r < 10) && tRB T r); simp [show r < 10 by omega]
      · show RR (τ.1 193) (if r < 10 then oTR T r else T); rw [if_pos (by omega)]; exact h1
  · obtain rfl : q = 6 := by omega
    rw [show (0 : Int32) = nI 0 from rfl, nI_eq_iff (by omega) (by omega)]
    refine ⟨fun z => ⟨?_, hp, SX.rf⟩, fun z => ⟨_, k_X8_layWorks ia193 hp hv, ?_⟩⟩
    · show false = (decide (r = 0) && agB T); simp [z]
    · rintro b τ ⟨rfl, S2, -⟩
      rw [bI]
      refine ⟨?_, ?_, sxR S2 (fun k h => by simp at h; simp; omega) (fun k h => by simp at h; simp [h])⟩
      · show agB T = (decide (r = 0) && agB T); simp [z]
      · show RR (τ.1 193) T; rw [S2.row (by decide) (by decide)]; exact hp
  · obtain rfl : q = 7 := by omega
    rw [gc1, hp.2.1]
    have hz := Eq.to_iff <| nI_le_iff (a := 10000) (b := r) (by omega) (by omega)
    by_cases z : 10000 ≤ r
    · refine ⟨⟨fun _ => trivial, fun y => absurd (hz.mpr z) y⟩, ?_, hp, SX.rf⟩
      rw [if_pos (hz.mpr z)]
      show false = (decide (r < 10000) && _); simp [show ¬ r < 10000 by omega]
    · rw [show r / 100 % 100 = r / 100 by omega, gif hz, if_neg z]
      have hy := Eq.to_iff <| nI_le_iff (a := tW T) (b := r / 100) (by omega) (by omega)
      by_cases y : tW T ≤ r / 100
      · refine ⟨⟨fun w => absurd (hz.mp w) z, fun _ => ⟨fun _ => trivial, fun w => absurd (hy.mpr y) w⟩⟩, ?_, hp, SX.rf⟩
        rw [if_pos (hy.mpr y)]
        show false = (_ && (decide (r / 100 < tW T) && _)); simp [show ¬ r / 100 < tW T by omega]
      · have h7 := (hv.2.2.2 (r / 100) (by omega)).2.2.2.2.2.2
        refine ⟨⟨fun w => absurd (hz.mp w) z, fun _ => ⟨fun w => absurd (hy.mp w) y, fun _ => ⟨wv4 (by omega), trivial⟩⟩⟩, ?_, hp, SX.rf⟩
        rw [if_neg (fun w => y (hy.mp w)), wc4 (by omega), (hp.2.2.2 (r / 100) (by omega)).2.2.2.2, gif (nI_ltI (by omega) (by omega))]
        show _ = (decide (r < 10000) && (decide (r / 100 < tW T) && decide (r % 100 ≤ tH T (r / 100))))
        rw [decide_eq_true (show r < 10000 by omega), decide_eq_true (show r / 100 < tW T by omega), Bool.true_and, Bool.true_and]
        by_cases w : r % 100 ≤ tH T (r / 100)
        · rw [if_neg (by omega), decide_eq_true w]
        · rw [if_pos (by omega), decide_eq_false w]
  · obtain rfl : q = 8 := by omega
    rw [nI_le_iff (a := 1000) (by omega) (by omega)]
    refine ⟨fun z => ⟨?_, hp, SX.rf⟩, fun z => ⟨_, k_X8_marks ia193 hp hv, ?_⟩⟩
    · show false = (decide (r < 1000) && _); simp [show ¬ r < 1000 by omega]
    · rintro b τ ⟨rfl, rfl⟩
      have hb := sN_le (c := 999) (tW T) (fun w hw => (hv.2.2.2 w hw).2.2.2.2.2.2)
      have hb2 : tW T * 999 ≤ 14 * 999 := Nat.mul_le_mul_right _ hv.2.1
      refine ⟨?_, hp, SX.rf⟩
      show _ = (decide (r < 1000) && decide (sN (tH T) (tW T) ≤ r))
      rw [decide_eq_true (show r < 1000 by omega), Bool.true_and, gif (nI_ltI (by omega) (by omega))]
      by_cases y : sN (tH T) (tW T) ≤ r
      · rw [if_neg (by omega), decide_eq_true y]
      · rw [if_pos (by omega), decide_eq_false y]
  · obtain rfl : q = 9 := by omega
    rw [gc0, hp.1]
    have hz := Eq.to_iff <| nI_le_iff (a := 1000) (b := r) (by omega) (by omega)
    by_cases z : 1000 ≤ r
    · refine ⟨⟨fun _ => trivial, fun y => absurd (hz.mpr z) y⟩, ?_, hp, SX.rf⟩
      rw [if_pos (hz.mpr z)]
      show false = (decide (r < 1000) && _); simp [show ¬ r < 1000 by omega]
    · rw [gif hz, if_neg z]
      have hy := Eq.to_iff <| nI_le_iff (a := tM T) (b := r / 100) (by omega) (by omega)
      by_cases y : tM T ≤ r / 100
      · refine ⟨⟨fun w => absurd (hz.mp w) z, fun _ => ⟨fun _ => trivial, fun w => absurd (hy.mpr y) w⟩⟩, ?_, hp, SX.rf⟩
        rw [if_pos (hy.mpr y)]
        show false = (_ && (decide (r / 100 < tM T) && _)); simp [show ¬ r / 100 < tM T by omega]
      · refine ⟨⟨fun w => absurd (hz.mp w) z, fun _ => ⟨fun w => absurd (hy.mp w) y, fun _ => ⟨mv2 (by omega), trivial⟩⟩⟩, ?_, hp, SX.rf⟩
        rw [if_neg (fun w => y (hy.mp w)), mc2 (by omega), (hp.2.2.1 (r / 100) (by omega)).2.2]
        show _ = (decide (r < 1000) && (decide (r / 100 < tM T) && decide (nI (r % 100) ≤ tD T (r / 100))))
        rw [decide_eq_true (show r < 1000 by omega), decide_eq_true (show r / 100 < tM T by omega), Bool.true_and, Bool.true_and]
        by_cases w : nI (r % 100) ≤ tD T (r / 100)
        · rw [if_neg (Int32.not_lt.mpr w), decide_eq_true w]
        · rw [if_pos (Int32.not_le.mp w), decide_eq_false w]
theorem k_X8_stir {n : Nat} (hn : n < 2 ^ 31) (hp : RR (σ.1 193) T) (hv : VT T) : gw_M l G yX8_stir cX8_stir 3 none 6 [.ref (G.1 + 189), .int (nI n)] σ (fv (fun τ => RR (τ.1 193) (uT T n).1 ∧ SX RSc [15, 20, 22] σ τ)) := by
  refine gw_met (by decide) (Nat.le_of_ble_eq_true rfl) (fun x C hR hT => sg_X8_stir_0 C hR hT _ σ ?_)
  have d1 : ∀ k d, k < 2 ^ 31 → 0 < d → d < 2 ^ 31 → nI k / nI d = nI (k / d) := fun k d h1 h2 h3 => pk_div h1 h2 h3
  have d2 : ∀ k d, k < 2 ^ 31 → 0 < d → d < 2 ^ 31 → nI k - nI (k / d) * nI d = nI (k % d) := fun k d h1 h2 h3 => by rw [← pk_div h1 h2 h3]; exact pk_rem h1 h2 h3
  rw [show (8 : Int32) = nI 8 from rfl, show (64 : Int32) = nI 64 from rfl, show (512 : Int32) = nI 512 from rfl, show (2048 : Int32) = nI 2048 from rfl, show (8192 : Int32) = nI 8192 from rfl, show (3 : Int32) = nI 3 from rfl, show (14 : Int32) = nI 14 from rfl, d1 n 8 (by omega) (by decide) (by decide), d1 n 64 (by omega) (by decide) (by decide), d1 n 512 (by omega) (by decide) (by decide), d1 n 2048 (by omega) (by decide) (by decide), d1 n 8192 (by omega) (by decide) (by decide), d2 n 8 (by omega) (by decide) (by decide), d1 (n / 8) 8 (by omega) (by decide) (by decide), d1 (n / 64) 8 (by omega) (by decide) (by decide), d1 (n / 512) 3 (by omega) (by decide) (by decide), d1 (n / 2048) 3 (by omega) (by decide) (by decide), d1 (n / 8192) 8 (by omega) (by decide) (by decide), d1 (n / 512) 14 (by omega) (by decide) (by decide), d2 (n / 8) 8 (by omega) (by decide) (by decide), d2 (n / 64) 8 (by omega) (by decide) (by decide), d2 (n / 512) 3 (by omega) (by decide) (by decide), d2 (n / 2048) 3 (by omega) (by decide) (by decide), d2 (n / 8192) 8 (by omega) (by decide) (by decide), d2 (n / 512) 14 (by omega) (by decide) (by decide), nI_toInt (by omega), show (1 : Int32) = nI 1 from rfl, nI_add, nI_add]
  refine ⟨fun h => ⟨_, k_X8_worksOne hp hv (by omega), ?_⟩, fun h => ⟨_, k_X8_lays hp hv (by omega) (by omega) (by omega) (by omega) (by omega), ?_⟩, fun h => ⟨_, k_X8_cuts hp hv (by omega), ?_⟩, fun h => ⟨_, k_X8_rounds hp hv (by omega), ?_⟩⟩
  · rintro b τ ⟨rfl, h1, h2⟩
    refine ⟨?_, sxR h2 (fun k h => by simp at h; simp; omega) (fun k h => by cases h)⟩
    unfold uT; rw [if_neg (by omega), if_neg (by omega), if_neg (by omega)]; exact h1
  · rintro b τ ⟨rfl, h1, h2⟩
    refine ⟨?_, sxR h2 (fun k h => by simp at h; simp; omega) (fun k h => by cases h)⟩
    unfold uT; rw [if_pos (by omega)]; exact h1
  · rintro b τ ⟨rfl, h1, h2⟩
    refine ⟨?_, sxR h2 (fun k h => by simp at h; simp; omega) (fun k h => by cases h)⟩
    unfold uT; rw [if_neg (by omega), if_pos (by omega)]; exact h1
  · rintro b τ ⟨rfl, h1, h2, -⟩
    refine ⟨?_, sxR h2 (fun k h => by simp at h; simp; omega) (fun k h => h)⟩
    unfold uT; rw [if_neg (by omega), if_neg (by omega), if_pos (by omega)]; exact h1
end GR
