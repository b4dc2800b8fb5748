/-! commands of scripts and turns of simulations, on both sides -/
noncomputable def gB (T : pT) : Nat → Nat → Bool
  | 1, r => twB T (r / 10000) (r / 1000 % 10) (r / 100 % 10) (r / 10 % 10) (r % 10)
  | 2, r => decide (r < 100) && decide (r < tW T)
  | 3, r => decide (r < 10000) && tpB T (r / 100) (r % 100)
  | 4, r => decide (r < 10) && tfB T r
  | 5, r => decide (r < 10) && tRB T r
  | 6, r => decide (r = 0) && agB T
  | 7, r => decide (r < 10000) && (decide (r / 100 < tW T) && decide (r % 100 ≤ tH T (r / 100)))
  | 8, r => decide (r < 1000) && decide (sN (tH T) (tW T) ≤ r)
  | 9, r => decide (r < 1000) && (decide (r / 100 < tM T) && decide (nI (r % 100) ≤ tD T (r / 100)))
  | _, _ => false
noncomputable def gT (T : pT) : Nat → Nat → pT
  | 1, r => oTW T (r / 10000) (r / 1000 % 10) (r / 100 % 10) (r / 10 % 10) (r % 10)
  | 2, r => if r < 100 then oTC T r else T
  | 3, r => if r < 10000 then oTP T (r / 100) (r % 100) else T
  | 4, r => if r < 10 then oTF T r else T
  | 5, r => if r < 10 then oTR T r else T
  | _, _ => T
theorem VTif (c : Prop) [Decidable c] {A B : pT} (h1 : VT A) (h2 : VT B) : VT (if c then A else B) := by split <;> assumption
theorem VT_g {T : pT} (hv : VT T) : ∀ q r, VT (gT T q r)
  | 0, _ => hv
  | 1, r => VT_tw hv (by omega)
  | 2, r => VTif _ (VT_tc hv) hv
  | 3, r => VTif _ (VT_tp hv (by omega)) hv
  | 4, r => VTif _ (VT_tf hv) hv
  | 5, r => VTif _ (VT_tr hv) hv
  | 6, _ => hv
  | 7, _ => hv
  | 8, _ => hv
  | 9, _ => hv
  | _ + 10, _ => hv
noncomputable def uT (T : pT) (n : Nat) : pT × Nat :=
  if n % 8 = 0 then (oTW T (n / 8 % 8) (n / 64 % 8) (1 + n / 512 % 3) (1 + n / 2048 % 3) (n / 8192 % 8), 0)
  else if n % 8 = 1 then (oTC T (n / 512 % 14), 0)
  else if n % 8 = 2 then (oTR T (n / 512 % 3), if tRB T (n / 512 % 3) = true then rL T (n / 512 % 3) else 0)
  else (oTF T (n / 8 % 8), if tfB T (n / 8 % 8) = true then 1 else 0)
theorem VT_u {T : pT} (hv : VT T) (n : Nat) : VT (uT T n).1 := by
  unfold uT
  split
  · exact VT_tw hv (by omega)
  · split
    · exact VT_tc hv
    · split
      · exact VT_tr hv
      · exact VT_tf hv
theorem bI (b : Bool) : (if b = false then false else true : Bool) = b := by cases b <;> rfl
theorem SP.x142 {σ τ : gw_S} (h : SP 142 σ τ) : FX 142 169 σ τ := h.fx.mono (by decide) (by decide)
abbrev RSc : List Nat := [193, 197, 198, 199, 200, 201, 202, 203, 204, 205]
section GR
variable {l : Launch} {G : gw_G} {σ : gw_S} {T : pT}
theorem dv5 {g : Nat} (hg : g < 2 ^ 31) : nI g / 100000 = nI (g / 100000) := by rw [show (100000 : Int32) = nI 100000 from rfl, pk_div hg (by decide) (by decide)]
theorem md5 {g : Nat} (hg : g < 2 ^ 31) : nI g - nI (g / 100000) * 100000 = nI (g % 100000) := by rw [← dv5 hg, show (100000 : Int32) = nI 100000 from rfl, pk_rem hg (by decide) (by decide)]
theorem k_X7_obeysGroup {g : Nat} (hg : g < 2 ^ 31) (hp : RP σ 142 T) (hv : VT T) : gw_M l G yX7_obeysGroup cX7_obeysGroup 3 (some .boolean) 5 [.ref (G.1 + 0), .int (nI g)] σ (fz (fun q τ => q = gB T (g / 100000) (g % 100000) ∧ RP τ 142 (gT T (g / 100000) (g % 100000)) ∧ FX 142 169 σ τ)) := by
  refine gw_met (by decide) (Nat.le_of_ble_eq_true rfl) (fun x C hR hT => sg_X7_obeysGroup_0 C hR hT _ σ ?_)
  have hq : g / 100000 < 2 ^ 31 := Nat.lt_of_le_of_lt (Nat.div_le_self _ _) hg
  have hr : g % 100000 < 100000 := Nat.mod_lt _ (by decide)
  rw [dv5 hg, md5 hg, nI_toInt hq]
  generalize g / 100000 = q at *
  generalize g % 100000 = r at *
  have d1 : ∀ k d, k < 2 ^ 31 → 0 < d → d < 2 ^ 31 → nI k / nI d = nI (k / d) := fun k d h1 h2 h3 => pk_div h1 h2 h3
  have d2 : ∀ k d, k < 2 ^ 31 → 0 < d → d < 2 ^ 31 → nI k - nI (k / d) * nI d = nI (k % d) := fun k d h1 h2 h3 => by rw [← pk_div h1 h2 h3]; exact pk_rem h1 h2 h3
  rw [show (10000 : Int32) = nI 10000 from rfl, show (1000 : Int32) = nI 1000 from rfl, show (100 : Int32) = nI 100 from rfl, show (10 : Int32) = nI 10 from rfl, d1 r 10000 (by omega) (by decide) (by decide), d1 r 1000 (by omega) (by decide) (by decide), d1 r 100 (by omega) (by decide) (by decide), d1 r 10 (by omega) (by decide) (by decide), d1 (r / 1000) 10 (by omega) (by decide) (by decide), d1 (r / 100) 10 (by omega) (by decide) (by decide), d1 (r / 10) 10 (by omega) (by decide) (by decide), d2 (r / 1000) 10 (by omega) (by decide) (by decide), d2 (r / 100) 10 (by omega) (by decide) (by decide), d2 (r / 10) 10 (by omega) (by decide) (by decide), d2 r 10 (by omega) (by decide) (by decide), d2 r 100 (by omega) (by decide) (by decide), nI_le_iff (by omega) (by omega), nI_le_iff (by omega) (by omega), nI_le_iff (by omega) (by omega), nI_le_iff (by omega) (by omega)]
  refine ⟨fun h => ?_, fun h => ?_, fun h => ?_, fun h => ?_, fun h => ?_, fun h => ?_, fun h => ?_, fun h => ?_, fun h => ?_, fun h => ?_⟩
  · have e : q = 0 ∨ 10 ≤ q := by omega
    rcases e with e | e
    · subst e; exact ⟨rfl, hp, FX.rf⟩
    · obtain ⟨k, rfl⟩ : ∃ k, q = k + 10 := ⟨q - 10, by omega⟩
      exact ⟨rfl, hp, FX.rf⟩
  · obtain rfl : q = 1 := by omega
    refine ⟨_, k_X3_triesWire gp142 hp hv (by omega) (by omega) (by omega) (by omega) (by omega), ?_⟩
    rintro b τ ⟨rfl, h1, h2⟩
    exact ⟨rfl, h1, h2.x142⟩
  · obtain rfl : q = 2 := by omega
    refine ⟨fun z => ⟨?_, ?_, FX.rf⟩, fun z => ⟨_, k_X3_triesCut gp142 hp hv (by omega), ?_⟩⟩
    · show false = (decide (r < 100) && decide (r < tW T)); simp [show ¬ r < 100 by omega]
    · show RP σ 142 (if r < 100 then oTC T r else T); rw [if_neg (by omega)]; exact hp
    · rintro b τ ⟨rfl, h1, h2⟩
      rw [bI]
      refine ⟨?_, ?_, h2.x142⟩
      · show decide (r < tW T) = (decide (r < 100) && decide (r < tW T)); simp [show r < 100 by omega]
      · show RP τ 142 (if r < 100 then oTC T r else T); rw [if_pos (by omega)]; exact h1
  · obtain rfl : q = 3 := by omega
    refine ⟨fun z => ⟨?_, ?_, FX.rf⟩, fun z => ⟨_, k_X3_triesMarks gp142 hp hv (by omega) (by omega), ?_⟩⟩
    · show false = (decide (r < 10000) && tpB T (r / 100) (r % 100)); simp [show ¬ r < 10000 by omega]
    · show RP σ 142 (if r < 10000 then oTP T (r / 100) (r % 100) else T); rw [if_neg (by omega)]; exact hp
    · rintro b τ ⟨rfl, h1, h2⟩
      rw [bI]
      refine ⟨?_, ?_, h2.x142⟩
      · show tpB T (r / 100) (r % 100) = (decide (r < 10000) && tpB T (r / 100) (r % 100)); simp [show r < 10000 by omega]
      · show RP τ 142 (if r < 10000 then oTP T (r / 100) (r % 100) else T); rw [if_pos (by omega)]; exact h1
  · obtain rfl : q = 4 := by omega
    refine ⟨fun z => ⟨?_, ?_, FX.rf⟩, fun z => ⟨_, k_X3_triesWork gp142 hp hv (by omega), ?_⟩⟩
    · show false = (decide (r < 10) && tfB T r); simp [show ¬ r < 10 by omega]
    · show RP σ 142 (if r < 10 then oTF T r else T); rw [if_neg (by omega)]; exact hp
    · rintro b τ ⟨rfl, h1, h2⟩
      rw [bI]
      refine ⟨?_, ?_, h2.x142⟩
      · show tfB T r = (decide (r < 10) && tfB T r); simp [show r < 10 by omega]
      · show RP τ 142 (if r < 10 then oTF T r else T); rw [if_pos (by omega)]; exact h1
  · obtain rfl : q = 5 := by omega
    refine ⟨fun z => ⟨?_, ?_, FX.rf⟩, fun z => ⟨_, k_X0_tries hp hv (by omega), ?_⟩⟩
    · show false = (decide (r < 10) && tRB T r); simp [show ¬ r < 10 by omega]
    · show RP σ 142 (if r < 10 then oTR T r else T); rw [if_neg (by omega)]; exact hp
    · rintro b τ ⟨rfl, h1, h2, -⟩
      rw [bI]
      refine ⟨?_, ?_, h2.mono (by decide) (by decide)⟩
      · show tRB T r = (decide (r < 10) && tRB T r); simp [show r < 10 by omega]
      · show RP τ 142 (if r < 10 then oTR T r else T); rw [if_pos (by omega)]; exact h1
  · obtain rfl : q = 6 := by omega
    rw [show (0 : Int32) = nI 0 from rfl, nI_eq_iff (by omega) (by omega)]
    refine ⟨fun z => ⟨?_, hp, FX.rf⟩, fun z => ⟨_, k_X4_agreeIn gr_167 gp142 (by decide) hp hv, ?_⟩⟩
    · show false = (decide (r = 0) && agB T); simp [z]
    · rintro b τ ⟨rfl, g', rfl, -⟩
      rw [bI]
      have hX : FX 142 169 σ (gw_r (gw_u σ 167 1 (nI (tM T))) (167 + 1) g') := (FX.u (by decide) (by decide)).tr (FX.r (by decide) (by decide))
      refine ⟨?_, ?_, hX⟩
      · show agB T = (decide (r = 0) && agB T); simp [z]
      · exact hp.cong (fun i hi => by rw [gw_r_ne _ _ (by omega), gw_u_k _ _ _ (by omega)])
  · obtain rfl : q = 7 := by omega
    refine ⟨fun z => ⟨?_, hp, FX.rf⟩, fun z => ⟨_, k_X3_hasMarks gp142 hp hv (by omega) (by omega), ?_⟩⟩
    · show false = (decide (r < 10000) && _); simp [show ¬ r < 10000 by omega]
    · rintro b τ ⟨rfl, rfl⟩
      rw [bI]
      refine ⟨?_, hp, FX.rf⟩
      show _ = (decide (r < 10000) && _); rw [decide_eq_true (show r < 10000 by omega), Bool.true_and]
  · obtain rfl : q = 8 := by omega
    refine ⟨fun z => ⟨?_, hp, FX.rf⟩, fun z => ⟨_, k_X3_allMarks gp142 hp hv, ?_⟩⟩
    · show false = (decide (r < 1000) && _); simp [show ¬ r < 1000 by omega]
    · rintro b τ ⟨rfl, rfl⟩
      have hb := sN_le (c := 999) (tW T) (fun w hw => (hv.2.2.2 w hw).2.2.2.2.2.2)
      have hb2 : tW T * 999 ≤ 14 * 999 := Nat.mul_le_mul_right _ hv.2.1
      refine ⟨?_, hp, FX.rf⟩
      show _ = (decide (r < 1000) && decide (sN (tH T) (tW T) ≤ r))
      rw [decide_eq_true (show r < 1000 by omega), Bool.true_and, gif (nI_ltI (by omega) (by omega))]
      by_cases y : sN (tH T) (tW T) ≤ r
      · rw [if_neg (by omega), decide_eq_true y]
      · rw [if_pos (by omega), decide_eq_false y]
  · obtain rfl : q = 9 := by omega
    refine ⟨fun z => ⟨?_, hp, FX.rf⟩, fun z => ⟨_, k_X3_hasWorked gp142 hp hv (by omega), ?_⟩⟩
    · show false = (decide (r < 1000) && _); simp [show ¬ r < 1000 by omega]
    · rintro b τ ⟨rfl, rfl⟩
      rw [bI]
      refine ⟨?_, hp, FX.rf⟩
      show _ = (decide (r < 1000) && _); rw [decide_eq_true (show r < 1000 by omega), Bool.true_and]
theorem k_X7_takeTurn {n : Nat} (hn : n < 2 ^ 31) (hp : RP σ 142 T) (hv : VT T) : gw_M l G yX7_takeTurn cX7_takeTurn 3 (some .int) 5 [.ref (G.1 + 0), .int (nI n)] σ (fi (fun q τ => q = nI (uT T n).2 ∧ RP τ 142 (uT T n).1 ∧ FX 142 169 σ τ)) := by
  refine gw_met (by decide) (Nat.le_of_ble_eq_true rfl) (fun x C hR hT => sg_X7_takeTurn_0 C hR hT _ σ ?_)
  have d1 : ∀ k d, k < 2 ^ 31 → 0 < d → d < 2 ^ 31 → nI k / nI d = nI (k / d) := fun k d h1 h2 h3 => pk_div h1 h2 h3
  have d2 : ∀ k d, k < 2 ^ 31 → 0 < d → d < 2 ^ 31 → nI k - nI (k / d) * nI d = nI (k % d) := fun k d h1 h2 h3 => by rw [← pk_div h1 h2 h3]; exact pk_rem h1 h2 h3
  rw [show (8 : Int32) = nI 8 from rfl, show (64 : Int32) = nI 64 from rfl, show (512 : Int32) = nI 512 from rfl, show (2048 : Int32) = nI 2048 from rfl, show (8192 : Int32) = nI 8192 from rfl, show (3 : Int32) = nI 3 from rfl, show (14 : Int32) = nI 14 from rfl, d1 n 8 (by omega) (by decide) (by decide), d1 n 64 (by omega) (by decide) (by decide), d1 n 512 (by omega) (by decide) (by decide), d1 n 2048 (by omega) (by decide) (by decide), d1 n 8192 (by omega) (by decide) (by decide), d2 n 8 (by omega) (by decide) (by decide), d1 (n / 8) 8 (by omega) (by decide) (by decide), d1 (n / 64) 8 (by omega) (by decide) (by decide), d1 (n / 512) 3 (by omega) (by decide) (by decide), d1 (n / 2048) 3 (by omega) (by decide) (by decide), d1 (n / 8192) 8 (by omega) (by decide) (by decide), d1 (n / 512) 14 (by omega) (by decide) (by decide), d2 (n / 8) 8 (by omega) (by decide) (by decide), d2 (n / 64) 8 (by omega) (by decide) (by decide), d2 (n / 512) 3 (by omega) (by decide) (by decide), d2 (n / 2048) 3 (by omega) (by decide) (by decide), d2 (n / 8192) 8 (by omega) (by decide) (by decide), d2 (n / 512) 14 (by omega) (by decide) (by decide), nI_toInt (by omega), show (1 : Int32) = nI 1 from rfl, nI_add, nI_add]
  refine ⟨fun h => ⟨_, k_X3_triesWork gp142 hp hv (by omega), ?_⟩, fun h => ⟨_, k_X3_triesWire gp142 hp hv (by omega) (by omega) (by omega) (by omega) (by omega), ?_⟩, fun h => ⟨_, k_X3_triesCut gp142 hp hv (by omega), ?_⟩, fun h => ⟨_, k_X0_tries hp hv (by omega), ?_⟩⟩
  · have e : uT T n = (oTF T (n / 8 % 8), if tfB T (n / 8 % 8) = true then 1 else 0) := by
      unfold uT; rw [if_neg (by omega), if_neg (by omega), if_neg (by omega)]
    rintro b τ ⟨rfl, h1, h2⟩
    rw [e, bI]
    refine ⟨?_, h1, h2.x142⟩
    cases tfB T (n / 8 % 8) <;> rfl
  · have e : uT T n = (oTW T (n / 8 % 8) (n / 64 % 8) (1 + n / 512 % 3) (1 + n / 2048 % 3) (n / 8192 % 8), 0) := by
      unfold uT; rw [if_pos (by omega)]
    rintro b τ ⟨rfl, h1, h2⟩
    rw [e]
    exact ⟨rfl, h1, h2.x142⟩
  · have e : uT T n = (oTC T (n / 512 % 14), 0) := by
      unfold uT; rw [if_neg (by omega), if_pos (by omega)]
    rintro b τ ⟨rfl, h1, h2⟩
    rw [e]
    exact ⟨rfl, h1, h2.x142⟩
  · have e : uT T n = (oTR T (n / 512 % 3), if tRB T (n / 512 % 3) = true then rL T (n / 512 % 3) else 0) := by
      unfold uT; rw [if_neg (by omega), if_neg (by omega), if_pos (by omega)]
    rintro b τ ⟨rfl, h1, h2, h3⟩
    rw [e]
    refine ⟨?_, h1, h2.mono (by decide) (by decide)⟩
    cases hb : tRB T (n / 512 % 3)
    · rfl
    · rw [h3 hb]; rfl
end GR
