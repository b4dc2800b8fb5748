/-! the reference reads a text -/
def gP (σ : gw_S) (g : Bool) (p : Nat) : Prop := σ.1 189 4 = gz g ∧ σ.1 189 3 = nI p
def RDs (X : xT) (i k : Nat) (g : Bool) (p : Nat) : Prop := (g = true ∧ p = i + k ∧ ∀ j, 1 ≤ j → j < k → okd X i j = true) ∨ (g = false ∧ ∃ j, 1 ≤ j ∧ j < k ∧ okd X i j = false ∧ (∀ j', 1 ≤ j' → j' < j → okd X i j' = true) ∧ p = i + j)
theorem RDs_end {X : xT} {i : Nat} {g : Bool} {p : Nat} (h : RDs X i (dg (tAt X i) + 1) g p) (hd : dg (tAt X i) ≠ 0) : (g = true → cmdE X i = none ∧ p = i + (1 + dg (tAt X i))) ∧ (g = false → cmdE X i = some p) := by
  rcases h with ⟨h1, h2, h3⟩ | ⟨h1, j, h2, h3, h4, h5, h6⟩
  · refine ⟨fun _ => ⟨?_, by omega⟩, fun z => absurd (h1.symm.trans z) (by decide)⟩
    unfold cmdE; rw [if_neg hd]
    exact cmE_all _ _ (fun j a b => h3 j a (by omega))
  · refine ⟨fun z => absurd (h1.symm.trans z) (by decide), fun _ => ?_⟩
    unfold cmdE; rw [if_neg hd, h6]
    exact cmE_some _ _ h2 (by omega) h4 h5
theorem xRf.sx {S F : List Nat} {σ τ : gw_S} {X : xT} (h : xRf σ X) (hS : SX S F σ τ) (h1 : 190 ∉ S) (h2 : 2 ∉ F) : xRf τ X := ⟨by rw [hS.2.2 2 h2]; exact h.1, fun i hi => by rw [hS.row h1 (by decide)]; exact h.2 i hi⟩
section RT
variable {l : Launch} {G : gw_G} {σ : gw_S} {X : xT} {T : pT}
theorem k_X8_accept {g v : Bool} {p : Nat} (h : gP σ g p) : gw_M l G yX8_accept cX8_accept 2 none 0 [.ref (G.1 + 189), .int (gz v)] σ (fv (fun τ => gP τ (g && v) (if (g && v) = true then p + 1 else p) ∧ SX [] [3, 4] σ τ)) := by
  refine gw_met (by decide) (Nat.le_of_ble_eq_true rfl) (fun x C hR hT => sg_X8_accept_0 C hR hT _ σ ?_)
  intro τ1 h1 τ2 h2
  rw [h.1] at h1
  have e : (if gz g = 0 then false else (if v = false then false else true : Bool) : Bool) = (g && v) := by cases g <;> cases v <;> rfl
  rw [e] at h1
  obtain ⟨a1, a2, a3⟩ := uk h1
  rw [a2, pk_us, pk_un (by decide), h.2] at h2
  have e2 : (if gz (g && v) = 0 then false else true : Bool) = (g && v) := by cases g <;> cases v <;> rfl
  rw [e2] at h2
  obtain ⟨b1, b2, b3⟩ := uk h2
  refine ⟨⟨by rw [b2, pk_un (by decide), a2, pk_us], ?_⟩, (uS189 h1 (by decide)).tr (uS189 h2 (by decide))⟩
  rw [b2, pk_us]
  cases (g && v)
  · rw [gz_f, show (0 : Int32) = nI 0 from rfl, nI_add]; rfl
  · rw [gz_t, nI_1]; rfl
theorem k_X8_goes {g v : Bool} {q : Nat} (h : σ.1 189 4 = gz g) (h5 : σ.1 189 5 = nI q) : gw_M l G yX8_goes cX8_goes 2 (some .boolean) 0 [.ref (G.1 + 189), .int (gz v)] σ (fz (fun r τ => r = (g && v) ∧ τ.1 189 5 = nI (if g = true ∧ v = false then q + 1 else q) ∧ SX [] [5] σ τ)) := by
  refine gw_met (by decide) (Nat.le_of_ble_eq_true rfl) (fun x C hR hT => sg_X8_goes_0 C hR hT _ σ ?_)
  intro τ1 h1
  rw [h, h5] at h1
  obtain ⟨a1, a2, a3⟩ := uk h1
  refine ⟨?_, ?_, uS189 h1 (by decide)⟩
  · rw [a2, pk_un (by decide), h]; cases g <;> cases v <;> rfl
  · rw [a2, pk_us]
    cases g <;> cases v
    · show nI q + 0 = nI q; rw [show (0 : Int32) = nI 0 from rfl, nI_add]; rfl
    · show nI q + 0 = nI q; rw [show (0 : Int32) = nI 0 from rfl, nI_add]; rfl
    · show nI q + 1 = nI (q + 1); rw [nI_1]
    · show nI q + 0 = nI q; rw [show (0 : Int32) = nI 0 from rfl, nI_add]; rfl
theorem neg_iR {v : Int32} (h : v < 0) : iR 0 9 v = false := by
  unfold iR; rw [if_pos (by rw [nI_0]; exact h)]
theorem k_X8_digit {g : Bool} {p lo hi : Nat} (hx : xRf σ X) (hX : xV X) (hg : gP σ g p) (hp : p ≤ X.1) (hlo : lo ≤ 9) (hhi : hi ≤ 9) : gw_M l G yX8_digit cX8_digit 4 (some .int) 1 [.ref (G.1 + 189), .int (nI lo), .int (nI hi)] σ (fi (fun r τ => ∃ ok : Bool, ok = (g && (decide (p < X.1) && decide (48 + lo ≤ tAt X p) && decide (tAt X p ≤ 48 + hi))) ∧ r = nI (if ok = true then tAt X p - 48 else lo) ∧ gP τ ok (if ok = true then p + 1 else p) ∧ SX [] [3, 4] σ τ)) := by
  have h120 := hX.1
  refine gw_met (by decide) (Nat.le_of_ble_eq_true rfl) (fun x C hR hT => sg_X8_digit_0 C hR hT _ _ σ ?_)
  have hc := tAt_lt hX p
  have hv : ∃ v : Int32, v = (if nI X.1 ≤ nI p then (-1) else (σ.1 190 (nI p).toNatClampNeg) - 48 : Int32) ∧ (iR 0 9 v && iR lo hi v) = (decide (p < X.1) && decide (48 + lo ≤ tAt X p) && decide (tAt X p ≤ 48 + hi)) ∧ ((iR 0 9 v && iR lo hi v) = true → v = nI (tAt X p - 48)) := by
    refine ⟨_, rfl, ?_⟩
    rw [gif (nI_leI (by omega) (by omega)), nI_clamp (by omega)]
    by_cases q : X.1 ≤ p
    · rw [if_pos q]
      have e : iR 0 9 (-1) = false := by decide
      rw [e]
      simp [show ¬ p < X.1 by omega]
    · rw [if_neg q, hx.2 p (by omega)]
      have et : X.2 p = tAt X p := by unfold tAt; rw [if_pos (by omega)]
      rw [et, show (48 : Int32) = nI 48 from rfl]
      by_cases z : 48 ≤ tAt X p
      · rw [pk_sub z, iR_n (by decide) (by decide) (by omega), iR_n (by omega) (by omega) (by omega)]
        refine ⟨?_, fun _ => rfl⟩
        have e1 : decide (lo ≤ tAt X p - 48) = decide (48 + lo ≤ tAt X p) := by
          by_cases y : 48 + lo ≤ tAt X p
          · rw [decide_eq_true y, decide_eq_true (by omega)]
          · rw [decide_eq_false y, decide_eq_false (by omega)]
        have e2 : decide (tAt X p - 48 ≤ hi) = decide (tAt X p ≤ 48 + hi) := by
          by_cases y : tAt X p ≤ 48 + hi
          · rw [decide_eq_true y, decide_eq_true (by omega)]
          · rw [decide_eq_false y, decide_eq_false (by omega)]
        rw [e1, e2, decide_eq_true (show p < X.1 by omega), decide_eq_true (Nat.zero_le _)]
        by_cases y : tAt X p ≤ 48 + hi
        · rw [decide_eq_true (show tAt X p - 48 ≤ 9 by omega)]; simp
        · rw [decide_eq_false y]; simp
      · have hn : nI (tAt X p) - nI 48 < 0 := pk_sneg (by decide) (by omega)
        rw [neg_iR hn]
        refine ⟨?_, fun y => by rw [Bool.false_and] at y; cases y⟩
        rw [decide_eq_false (show ¬ 48 + lo ≤ tAt X p by omega)]; simp
  obtain ⟨v, ev, e1, e2⟩ := hv
  rw [hx.1, hg.2, ← ev, nI_le_iff (by omega) (by omega), show (0 : Int64) = lN 0 from rfl, show (9 : Int64) = lN 9 from rfl, nI_l (by omega), nI_l (by omega), rngI v (by decide) (by decide), rngI v (by omega) (by omega)]
  have e3 : (if iR 0 9 v = false then false else (if iR lo hi v = false then false else true : Bool) : Bool) = (iR 0 9 v && iR lo hi v) := by cases iR 0 9 v <;> cases iR lo hi v <;> rfl
  rw [e3, e1]
  refine ⟨⟨fun _ => trivial, fun z => ⟨vp_in_nI (by omega) (by decide), trivial⟩⟩, _, k_X8_accept hg, ?_⟩
  rintro τ ⟨g1, S1⟩
  refine ⟨_, rfl, ?_, g1, S1⟩
  rw [g1.1]
  cases hk : (g && (decide (p < X.1) && decide (48 + lo ≤ tAt X p) && decide (tAt X p ≤ 48 + hi)))
  · rw [if_pos gz_f]; rfl
  · rw [if_neg (by decide), if_pos rfl]
    rw [Bool.and_eq_true] at hk
    exact e2 (e1.trans hk.2)
theorem k_X8_digitS {g : Bool} {p lo hi i k : Nat} (hx : xRf σ X) (hX : xV X) (hg : gP σ g p) (hr : RDs X i k g p) (hi' : i < X.1) (h1k : 1 ≤ k) (hlo : lo ≤ 9) (hhi : hi ≤ 9) (el : loC (tAt X i) k = 48 + lo) (eh : g = true → hiC (tAt X i) k (tAt X (i + k - 1)) = 48 + hi) : gw_M l G yX8_digit cX8_digit 4 (some .int) 1 [.ref (G.1 + 189), .int (nI lo), .int (nI hi)] σ (fi (fun r τ => ∃ g' p', gP τ g' p' ∧ RDs X i (k + 1) g' p' ∧ (g' = true → g = true ∧ r = nI (tAt X (i + k) - 48) ∧ okd X i k = true) ∧ (g' = false → r = nI lo) ∧ SX [] [3, 4] σ τ)) := by
  have hpX : p ≤ X.1 := by
    rcases hr with ⟨_, h2, h3⟩ | ⟨_, j, h2, h3, h4, h5, h6⟩
    · by_cases z : k = 1
      · omega
      · have := (okd_i (h3 (k - 1) (by omega) (by omega))).1; omega
    · by_cases z : j = 1
      · omega
      · have := (okd_i (h5 (j - 1) (by omega) (by omega))).1; omega
  refine (k_X8_digit hx hX hg hpX hlo hhi).imp (fun v τ hv => ?_)
  obtain ⟨r, rfl, ok, hok, hr', hg', hS'⟩ := hv
  refine ⟨r, rfl, ok, _, hg', ?_, ?_, ?_, hS'⟩
  · rcases hr with ⟨z1, z2, z3⟩ | ⟨z1, j, z2, z3, z4, z5, z6⟩
    · have e : ok = okd X i k := by
        rw [hok, z1, Bool.true_and, z2]
        unfold okd
        rw [el, eh z1]
      cases hb : ok
      · refine Or.inr ⟨rfl, k, h1k, by omega, by rw [← e]; exact hb, z3, ?_⟩
        rw [if_neg (by decide)]; exact z2
      · refine Or.inl ⟨rfl, ?_, fun j a b => ?_⟩
        · rw [if_pos rfl]; omega
        · by_cases y : j = k
          · rw [y, ← e]; exact hb
          · exact z3 j a (by omega)
    · have e : ok = false := by rw [hok, z1]; rfl
      rw [e]
      refine Or.inr ⟨rfl, j, z2, by omega, z4, z5, ?_⟩
      rw [if_neg (by decide)]; exact z6
  · intro hb
    rw [hb] at hok
    have hok' := hok.symm
    rw [Bool.and_eq_true] at hok'
    obtain ⟨q1, q2⟩ := hok'
    rcases hr with ⟨z1, z2, z3⟩ | ⟨z1, _⟩
    · refine ⟨q1, by rw [hr', if_pos hb, z2], ?_⟩
      unfold okd
      rw [el, eh q1, ← z2]; exact q2
    · rw [q1] at z1; cases z1
  · intro hb
    rw [hr', if_neg (by rw [hb]; decide)]
end RT
