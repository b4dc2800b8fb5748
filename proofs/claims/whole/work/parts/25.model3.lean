theorem gw_r_r (σ : gw_S) (k : Nat) (f g : Nat → Int32) : gw_r (gw_r σ k f) k g = gw_r σ k g := by
  refine Prod.ext (funext fun k' => ?_) rfl
  by_cases h : k' = k
  · subst h; rw [gw_r_at, gw_r_at]
  · rw [gw_r_ne _ _ h, gw_r_ne _ _ h, gw_r_ne _ _ h]
theorem gw_r_self (σ : gw_S) (k : Nat) : gw_r σ k (σ.1 k) = σ := by
  refine Prod.ext (funext fun k' => ?_) rfl
  by_cases h : k' = k
  · subst h; rw [gw_r_at]
  · rw [gw_r_ne _ _ h]
theorem gw_u_r (σ : gw_S) (k j : Nat) (f : Nat → Int32) (v : Int32) : gw_u (gw_r σ k f) k j v = gw_r σ k (upd f j v) := by
  show gw_r (gw_r σ k f) k (upd ((gw_r σ k f).1 k) j v) = _
  rw [gw_r_at, gw_r_r]
theorem gw_u_r0 (σ : gw_S) (k j : Nat) (v : Int32) : gw_u σ k j v = gw_r σ k (upd (σ.1 k) j v) := rfl
/-- only the row k is other, and it holds T -/
def SR (k : Nat) (σ τ : gw_S) (T : pT) : Prop := ∃ f, τ = gw_r σ k f ∧ RR f T
section ML
variable {l : Launch} {x : gw_X} {G : gw_G} {σ : gw_S} {k : Nat} {T : pT}
theorem k_X8_workIn {m : Nat} (hk : gw_ia k 96) (hp : RR (σ.1 k) T) (hv : VT T) (hm : m < tM T) (hc : canW T m) : gw_M l G yX8_workIn cX8_workIn 3 none 1 [.ref (G.1 + k), .int (nI m)] σ (fv (fun τ => SR k σ τ (oWork T m))) := by
  have h8 := hv.1
  have h14 := hv.2.1
  refine gw_met (by decide) (Nat.le_of_ble_eq_true rfl) (fun x C hR hT => sg_X8_workIn_0 C hR hT k _ hk σ ?_)
  have key : ∀ n i, i + n = tW T → ∀ f : Nat → Int32, (∀ j, (∀ w, w < i → j ≠ 26 + 5 * w + 4) → f j = σ.1 k j) → (∀ w, w < i → f (26 + 5 * w + 4) = nI (bh T m w)) → PW x G 3 2 [(0, .ref (G.1 + k)), (1, .int (nI m)), (2, .int (nI i))] [] (gw_r σ k f) := by
    intro n
    induction n with
    | zero =>
      intro i hi f h0 h1
      refine sg_X8_workIn_2 C hR hT k hk _ _ _ ⟨fun _ => ⟨mv2 (by omega), ?_⟩, fun q => absurd ?_ q⟩
      · rintro τ rfl
        rw [mc2 (by omega), gw_u_r, gw_r_at]
        refine ⟨_, rfl, ?_, ?_, fun j hj => ?_, fun w hw => ?_⟩
        · rw [pk_un (by omega), h0 0 (by omega)]; exact hp.1
        · rw [pk_un (by omega), h0 1 (by omega)]; exact hp.2.1
        · have hj : j < tM T := hj
          obtain ⟨r1, r2, r3⟩ := hp.2.2.1 j hj
          rw [pk_un (by omega), pk_un (by omega), h0 _ (by omega), h0 _ (by omega)]
          refine ⟨r1, r2, ?_⟩
          show _ = (if j = m then tD T j + 1 else tD T j)
          by_cases e : j = m
          · subst e; rw [if_pos rfl, pk_us, h0 _ (by omega), r3]
          · rw [if_neg e, pk_un (by omega), h0 _ (by omega)]; exact r3
        · have hw : w < tW T := hw
          obtain ⟨r1, r2, r3, r4, r5⟩ := hp.2.2.2 w hw
          rw [pk_un (by omega), pk_un (by omega), pk_un (by omega), pk_un (by omega), pk_un (by omega), h0 _ (by omega), h0 _ (by omega), h0 _ (by omega), h0 _ (by omega), h1 w (by omega)]
          exact ⟨r1, r2, r3, r4, rfl⟩
      · rw [gc1, gw_r_at, h0 1 (by omega), hp.2.1, nI_le_iff (by omega) (by omega)]; omega
    | succ n ih =>
      intro i hi f h0 h1
      have hiT : i < tW T := by omega
      obtain ⟨r1, r2, r3, r4, r5⟩ := hp.2.2.2 i hiT
      have f1 : f (26 + 5 * i) = nI (tF T i) := by rw [h0 _ (by omega)]; exact r1
      have f2 : f (26 + 5 * i + 1) = nI (tO T i) := by rw [h0 _ (by omega)]; exact r2
      have f3 : f (26 + 5 * i + 2) = nI (tC T i) := by rw [h0 _ (by omega)]; exact r3
      have f4 : f (26 + 5 * i + 3) = nI (tV T i) := by rw [h0 _ (by omega)]; exact r4
      have f5 : f (26 + 5 * i + 4) = nI (tH T i) := by rw [h0 _ (by omega)]; exact r5
      refine sg_X8_workIn_2 C hR hT k hk _ _ _ ⟨fun q => ?_, fun _ => ⟨wv4 (by omega), wv1 (by omega), ⟨fun _ => trivial, fun _ => ⟨wv3 (by omega), trivial⟩⟩, ?_⟩⟩
      · rw [gc1, gw_r_at, h0 1 (by omega), hp.2.1, nI_le_iff (by omega) (by omega)] at q; omega
      · rintro τ rfl
        refine ⟨wv0 (by omega), ⟨fun _ => trivial, fun _ => ⟨wv2 (by omega), trivial⟩⟩, ?_⟩
        rintro τ rfl
        rw [wc0 (by omega), wc1 (by omega), wc2 (by omega), wc3 (by omega), wc4 (by omega), nI_1, show 26 + 5 * i + 0 = 26 + 5 * i from rfl, gw_u_r, gw_u_r, gw_r_at, gw_r_at, pk_us, pk_un (by omega), pk_un (by omega), f1, f2, f3, f4, f5, mb_eq hv hiT (by omega) (hc i hiT).1]
        refine ih (i + 1) (by omega) _ (fun j hj => ?_) (fun w hw => ?_)
        · have := hj i (by omega)
          rw [pk_un this, pk_un this]
          exact h0 j (fun w hw => hj w (by omega))
        · by_cases e : w = i
          · subst e; rw [pk_us]
          · rw [pk_un (by omega), pk_un (by omega)]; exact h1 w (by omega)
  have := key (tW T) 0 (by omega) (σ.1 k) (fun _ _ => rfl) (fun w hw => absurd hw (Nat.not_lt_zero w))
  rw [gw_r_self] at this
  exact this
theorem k_X8_add {u c : Nat} (hk : gw_ia k 96) (hp : RR (σ.1 k) T) (hv : VT T) (hm : tM T < 8) : gw_M l G yX8_add cX8_add 4 none 1 [.ref (G.1 + k), .int (nI u), .int (nI c)] σ (fv (fun τ => SR k σ τ (oAdd T u c))) := by
  have h14 := hv.2.1
  refine gw_met (by decide) (Nat.le_of_ble_eq_true rfl) (fun x C hR hT => sg_X8_add_0 C hR hT k _ _ hk σ ?_)
  rw [gc0, hp.1]
  refine ⟨mv0 hm, ?_⟩
  rintro τ1 rfl
  rw [mc0 hm]
  refine ⟨mv1 hm, ?_⟩
  rintro τ2 rfl
  rw [mc1 hm]
  refine ⟨mv2 hm, ?_⟩
  rintro τ3 rfl τ4 rfl
  rw [mc2 hm, gw_u_r0 σ, gw_u_r, gw_u_r, gw_u_r, gw_r_at, pk_un (by omega), pk_un (by omega), pk_un (by omega), hp.1, nI_1]
  refine ⟨_, rfl, ?_, ?_, fun j hj => ?_, fun w hw => ?_⟩
  · rw [pk_us]; rfl
  · rw [pk_un (by omega), pk_un (by omega), pk_un (by omega), pk_un (by omega)]; exact hp.2.1
  · have hj : j < tM T + 1 := hj
    show _ = nI (if j = tM T then u else tU T j) ∧ _ = nI (if j = tM T then c else tK T j) ∧ _ = (if j = tM T then 0 else tD T j)
    by_cases e : j = tM T
    · subst e
      rw [if_pos rfl, if_pos rfl, if_pos rfl]
      refine ⟨?_, ?_, ?_⟩
      · rw [pk_un (by omega), pk_un (by omega), pk_un (by omega), show 2 + 3 * tM T = 2 + 3 * tM T + 0 from rfl, pk_us]
      · rw [pk_un (by omega), pk_un (by omega), pk_us]
      · rw [pk_un (by omega), pk_us]
    · obtain ⟨r1, r2, r3⟩ := hp.2.2.1 j (by omega)
      rw [if_neg e, if_neg e, if_neg e]
      refine ⟨?_, ?_, ?_⟩
      · rw [pk_un (by omega), pk_un (by omega), pk_un (by omega), pk_un (by omega)]; exact r1
      · rw [pk_un (by omega), pk_un (by omega), pk_un (by omega), pk_un (by omega)]; exact r2
      · rw [pk_un (by omega), pk_un (by omega), pk_un (by omega), pk_un (by omega)]; exact r3
  · have hw : w < tW T := hw
    obtain ⟨r1, r2, r3, r4, r5⟩ := hp.2.2.2 w hw
    refine ⟨?_, ?_, ?_, ?_, ?_⟩
    · rw [pk_un (by omega), pk_un (by omega), pk_un (by omega), pk_un (by omega)]; exact r1
    · rw [pk_un (by omega), pk_un (by omega), pk_un (by omega), pk_un (by omega)]; exact r2
    · rw [pk_un (by omega), pk_un (by omega), pk_un (by omega), pk_un (by omega)]; exact r3
    · rw [pk_un (by omega), pk_un (by omega), pk_un (by omega), pk_un (by omega)]; exact r4
    · rw [pk_un (by omega), pk_un (by omega), pk_un (by omega), pk_un (by omega)]; exact r5
theorem k_X8_layIn {a c d v g : Nat} (hk : gw_ia k 96) (hp : RR (σ.1 k) T) (hv : VT T) (hw : tW T < 14) : gw_M l G yX8_layIn cX8_layIn 7 none 1 [.ref (G.1 + k), .int (nI a), .int (nI c), .int (nI d), .int (nI v), .int (nI g)] σ (fv (fun τ => SR k σ τ (oLay T a c d v g))) := by
  have h8 := hv.1
  refine gw_met (by decide) (Nat.le_of_ble_eq_true rfl) (fun x C hR hT => sg_X8_layIn_0 C hR hT k _ _ _ _ _ hk σ ?_)
  rw [gc1, hp.2.1]
  refine ⟨wv0 hw, ?_⟩
  rintro τ1 rfl
  refine ⟨wv1 hw, ?_⟩
  rintro τ2 rfl
  refine ⟨wv2 hw, ?_⟩
  rintro τ3 rfl
  refine ⟨wv3 hw, ?_⟩
  rintro τ4 rfl
  refine ⟨wv4 hw, ?_⟩
  rintro τ5 rfl τ6 rfl
  rw [wc0 hw, wc1 hw, wc2 hw, wc3 hw, wc4 hw, gw_u_r0 σ, gw_u_r, gw_u_r, gw_u_r, gw_u_r, gw_u_r, gw_r_at, pk_un (by omega), pk_un (by omega), pk_un (by omega), pk_un (by omega), pk_un (by omega), hp.2.1, nI_1]
  refine ⟨_, rfl, ?_, ?_, fun j hj => ?_, fun i hi => ?_⟩
  · rw [pk_un (by omega), pk_un (by omega), pk_un (by omega), pk_un (by omega), pk_un (by omega), pk_un (by omega)]; exact hp.1
  · rw [pk_us]; rfl
  · have hj : j < tM T := hj
    obtain ⟨r1, r2, r3⟩ := hp.2.2.1 j hj
    refine ⟨?_, ?_, ?_⟩
    · rw [pk_un (by omega), pk_un (by omega), pk_un (by omega), pk_un (by omega), pk_un (by omega), pk_un (by omega)]; exact r1
    · rw [pk_un (by omega), pk_un (by omega), pk_un (by omega), pk_un (by omega), pk_un (by omega), pk_un (by omega)]; exact r2
    · rw [pk_un (by omega), pk_un (by omega), pk_un (by omega), pk_un (by omega), pk_un (by omega), pk_un (by omega)]; exact r3
  · have hi : i < tW T + 1 := hi
    show _ = nI (if i = tW T then a else tF T i) ∧ _ = nI (if i = tW T then c else tO T i) ∧ _ = nI (if i = tW T then d else tC T i) ∧ _ = nI (if i = tW T then v else tV T i) ∧ _ = nI (if i = tW T then g else tH T i)
    by_cases e : i = tW T
    · subst e
      rw [if_pos rfl, if_pos rfl, if_pos rfl, if_pos rfl, if_pos rfl]
      refine ⟨?_, ?_, ?_, ?_, ?_⟩
      · rw [pk_un (by omega), pk_un (by omega), pk_un (by omega), pk_un (by omega), pk_un (by omega), show 26 + 5 * tW T = 26 + 5 * tW T + 0 from rfl, pk_us]
      · rw [pk_un (by omega), pk_un (by omega), pk_un (by omega), pk_un (by omega), pk_us]
      · rw [pk_un (by omega), pk_un (by omega), pk_un (by omega), pk_us]
      · rw [pk_un (by omega), pk_un (by omega), pk_us]
      · rw [pk_un (by omega), pk_us]
    · obtain ⟨r1, r2, r3, r4, r5⟩ := hp.2.2.2 i (by omega)
      rw [if_neg e, if_neg e, if_neg e, if_neg e, if_neg e]
      refine ⟨?_, ?_, ?_, ?_, ?_⟩
      · rw [pk_un (by omega), pk_un (by omega), pk_un (by omega), pk_un (by omega), pk_un (by omega), pk_un (by omega)]; exact r1
      · rw [pk_un (by omega), pk_un (by omega), pk_un (by omega), pk_un (by omega), pk_un (by omega), pk_un (by omega)]; exact r2
      · rw [pk_un (by omega), pk_un (by omega), pk_un (by omega), pk_un (by omega), pk_un (by omega), pk_un (by omega)]; exact r3
      · rw [pk_un (by omega), pk_un (by omega), pk_un (by omega), pk_un (by omega), pk_un (by omega), pk_un (by omega)]; exact r4
      · rw [pk_un (by omega), pk_un (by omega), pk_un (by omega), pk_un (by omega), pk_un (by omega), pk_un (by omega)]; exact r5
theorem k_X8_cutIn {w : Nat} (hk : gw_ia k 96) (hp : RR (σ.1 k) T) (hv : VT T) (hw : w < tW T) : gw_M l G yX8_cutIn cX8_cutIn 2 none 1 [.ref (G.1 + k), .int (nI w)] σ (fv (fun τ => SR k σ τ (oCut T w))) := by
  have h8 := hv.1
  have h14 := hv.2.1
  refine gw_met (by decide) (Nat.le_of_ble_eq_true rfl) (fun x C hR hT => sg_X8_cutIn_0 C hR hT k _ hk σ ?_)
  have e1 : (26 + (5 * (nI w + 1))) + 0 = nI (26 + 5 * (w + 1)) := by
    rw [nI_1]; show (26 + 5 * nI (w + 1)) + nI 0 = _; rw [wx]; rfl
  have e2 : (26 + (5 * nI w)) + 0 = nI (26 + 5 * w) := by
    show (26 + 5 * nI w) + nI 0 = _; rw [wx]; rfl
  have e3 : 5 * ((nI (tW T) - 1) - nI w) = nI (5 * (tW T - 1 - w)) := by
    rw [show (1 : Int32) = nI 1 from rfl, pk_sub (by omega), pk_sub (by omega), show (5 : Int32) = nI 5 from rfl, pk_mul]
  rw [gc1, hp.2.1, e1, e2, e3]
  refine ⟨_, k_X8_copy hk hk (by omega) (by omega) (by decide) (by decide) (fun _ => by omega), ?_⟩
  rintro τ rfl τ' rfl
  rw [gw_u_r, gw_r_at, pk_cpy_out (by omega), hp.2.1, show (1 : Int32) = nI 1 from rfl, pk_sub (by omega)]
  refine ⟨_, rfl, ?_, ?_, fun j hj => ?_, fun i hi => ?_⟩
  · rw [pk_un (by omega), pk_cpy_out (by omega)]; exact hp.1
  · rw [pk_us]; rfl
  · have hj : j < tM T := hj
    rw [pk_un (by omega), pk_un (by omega), pk_un (by omega), pk_cpy_out (by omega), pk_cpy_out (by omega), pk_cpy_out (by omega)]
    exact hp.2.2.1 j hj
  · have hi : i < tW T - 1 := hi
    rw [pk_un (by omega), pk_un (by omega), pk_un (by omega), pk_un (by omega), pk_un (by omega)]
    show _ = nI (if i < w then tF T i else tF T (i + 1)) ∧ _ = nI (if i < w then tO T i else tO T (i + 1)) ∧ _ = nI (if i < w then tC T i else tC T (i + 1)) ∧ _ = nI (if i < w then tV T i else tV T (i + 1)) ∧ _ = nI (if i < w then tH T i else tH T (i + 1))
    by_cases e : i < w
    · rw [if_pos e, if_pos e, if_pos e, if_pos e, if_pos e, pk_cpy_out (by omega), pk_cpy_out (by omega), pk_cpy_out (by omega), pk_cpy_out (by omega), pk_cpy_out (by omega)]
      exact hp.2.2.2 i (by omega)
    · rw [if_neg e, if_neg e, if_neg e, if_neg e, if_neg e, pk_cpy_in (by omega) (by omega), pk_cpy_in (by omega) (by omega), pk_cpy_in (by omega) (by omega), pk_cpy_in (by omega) (by omega), pk_cpy_in (by omega) (by omega)]
      have := hp.2.2.2 (i + 1) (by omega)
      rw [show 26 + 5 * (w + 1) + (26 + 5 * i - (26 + 5 * w)) = 26 + 5 * (i + 1) by omega, show 26 + 5 * (w + 1) + (26 + 5 * i + 1 - (26 + 5 * w)) = 26 + 5 * (i + 1) + 1 by omega, show 26 + 5 * (w + 1) + (26 + 5 * i + 2 - (26 + 5 * w)) = 26 + 5 * (i + 1) + 2 by omega, show 26 + 5 * (w + 1) + (26 + 5 * i + 3 - (26 + 5 * w)) = 26 + 5 * (i + 1) + 3 by omega, show 26 + 5 * (w + 1) + (26 + 5 * i + 4 - (26 + 5 * w)) = 26 + 5 * (i + 1) + 4 by omega]
      exact this
end ML
