/-! ranges in longs; what the reference tries -/
theorem lt64 (v : Int32) {n : Nat} (hn : n < 2 ^ 31) : (lg_cmp v.toInt64 (lN n) < 0) = (v < nI n) := by
  rw [propext (lg_cmp_lt _ _), Int64.lt_iff_toInt_lt, Int32.lt_iff_toInt_lt, Int32.toInt_toInt64, nI_toInt hn, pk_lT (by omega)]
theorem gt64 (v : Int32) {n : Nat} (hn : n < 2 ^ 31) : (0 < lg_cmp v.toInt64 (lN n)) = (nI n < v) := by
  rw [propext (lg_cmp_gt _ _), Int64.lt_iff_toInt_lt, Int32.lt_iff_toInt_lt, Int32.toInt_toInt64, nI_toInt hn, pk_lT (by omega)]
def iR (lo hi : Nat) (v : Int32) : Bool := if v < nI lo then false else (if nI hi < v then false else true)
theorem rngI (v : Int32) {lo hi : Nat} (h1 : lo < 2 ^ 31) (h2 : hi < 2 ^ 31) : (if lg_cmp v.toInt64 (lN lo) < 0 then false else (if 0 < lg_cmp v.toInt64 (lN hi) then false else true : Bool) : Bool) = iR lo hi v := by
  unfold iR
  rw [gif (Eq.to_iff (lt64 v h1)), gif (Eq.to_iff (gt64 v h2))]
theorem iR_n {lo hi d : Nat} (h1 : lo < 2 ^ 31) (h2 : hi < 2 ^ 31) (hd : d < 2 ^ 31) : iR lo hi (nI d) = (decide (lo ≤ d) && decide (d ≤ hi)) := by
  unfold iR
  rw [gif (nI_ltI hd h1), gif (nI_ltI h2 hd)]
  by_cases e1 : d < lo
  · rw [if_pos e1]; simp [show ¬ lo ≤ d by omega]
  · rw [if_neg e1]
    by_cases e2 : hi < d
    · rw [if_pos e2]; simp [show ¬ d ≤ hi by omega]
    · rw [if_neg e2]; simp [show lo ≤ d by omega, show d ≤ hi by omega]
theorem iM_ref (v : Int32) {n : Nat} (hn : n < 2 ^ 30) : (if lg_cmp v.toInt64 0 < 0 then false else (if 0 < lg_cmp v.toInt64 ((nI n - 1).toInt64) then false else true : Bool) : Bool) = iM n v := by
  unfold iM
  rw [show (0 : Int64) = lN 0 from rfl, gif (Eq.to_iff (lt64 v (n := 0) (by decide))), nI_0]
  by_cases e : v < 0
  · rw [if_pos e, if_pos e]
  · rw [if_neg e, if_neg e]
    obtain ⟨j, hj, rfl⟩ := nI_of e
    cases n with
    | zero =>
      rw [if_pos, if_pos]
      · rw [nI_le_iff (by omega) hj]; omega
      · rw [propext (lg_cmp_gt _ _), Int64.lt_iff_toInt_lt, Int32.toInt_toInt64, Int32.toInt_toInt64, nI_toInt hj, show (nI 0 - 1).toInt = -1 by decide]; omega
    | succ n =>
      rw [nI_pred, nI_l (n := n) (by omega), gif (Eq.to_iff (gt64 (nI j) (n := n) (by omega))), gif (nI_ltI (by omega) hj), gif (nI_leI (by omega) hj)]
      rfl
section RD
variable {l : Launch} {G : gw_G} {σ : gw_S} {T : pT}
theorem ia193 : gw_ia 193 96 := gk_193
theorem ia192 : gw_ia 192 96 := gk_192
theorem k_X8_wiresOf {m e : Nat} {f : Nat → Nat} (hp : RR (σ.1 192) T) (hv : VT T) (hm : m < 2 ^ 31) (he : e < 5) (hf : ∀ w, w < tW T → σ.1 192 (26 + 5 * w + e) = nI (f w) ∧ f w < 2 ^ 31) : gw_M l G yX8_wiresOf cX8_wiresOf 5 (some .int) 1 [.ref (G.1 + 189), .int (nI m), .int (nI e)] σ (fi (fun r τ => r = nI (cN (fun w => decide (f w = m)) (tW T)) ∧ τ = σ)) := by
  have h14 := hv.2.1
  refine gw_met (by decide) (Nat.le_of_ble_eq_true rfl) (fun x C hR hT => sg_X8_wiresOf_0 C hR hT _ _ σ ?_)
  have key : ∀ d i, i + d = tW T → PW x G 5 5 [(0, .ref (G.1 + 189)), (1, .int (nI m)), (2, .int (nI e)), (3, .int (nI (cN (fun w => decide (f w = m)) i))), (4, .int (nI i))] [] σ := by
    intro d
    induction d with
    | zero =>
      intro i hi
      refine sg_X8_wiresOf_5 C hR hT _ _ _ _ σ ⟨fun _ => ⟨by rw [show i = tW T by omega], rfl⟩, fun q => absurd ?_ q⟩
      rw [gc1, hp.2.1, nI_le_iff (by omega) (by omega)]; omega
    | succ d ih =>
      intro i hi
      refine sg_X8_wiresOf_5 C hR hT _ _ _ _ σ ⟨fun q => ?_, fun _ => ?_⟩
      · rw [gc1, hp.2.1, nI_le_iff (by omega) (by omega)] at q; omega
      · obtain ⟨f1, f2⟩ := hf i (by omega)
        have := ih (i + 1) (by omega)
        rw [wx, nI_clamp (by omega), f1, gif (nI_eq f2 hm), nI_1 i]
        refine ⟨vp_in_nI (by omega) (by decide), ?_⟩
        rw [cN] at this
        by_cases q : f i = m
        · rw [if_pos q, gz_t, nI_1]
          simp only [q, decide_true, if_true] at this
          exact this
        · rw [if_neg q, gz_f, show (0 : Int32) = nI 0 from rfl, nI_add, Nat.add_zero]
          simp only [q, decide_false, if_false, Bool.false_eq_true] at this
          exact this
  exact key (tW T) 0 (by omega)
theorem k_X8_lays {a c d v h : Nat} (hp : RR (σ.1 193) T) (hv : VT T) (ha : a < 2 ^ 31) (hc : c < 2 ^ 31) (hd : d < 2 ^ 31) (hv' : v < 2 ^ 31) (hh : h ≤ 99) : gw_M l G yX8_lays cX8_lays 6 (some .boolean) 4 [.ref (G.1 + 189), .int (nI a), .int (nI c), .int (nI d), .int (nI v), .int (nI h)] σ (fz (fun r τ => r = twB T a c d v h ∧ RR (τ.1 193) (oTW T a c d v h) ∧ SX [193, 204] [] σ τ)) := by
  have h8 := hv.1
  refine gw_met (by decide) (Nat.le_of_ble_eq_true rfl) (fun x C hR hT => sg_X8_lays_0 C hR hT _ _ _ _ _ σ ?_)
  have no : twB T a c d v h = false → (false = twB T a c d v h ∧ RR (σ.1 193) (oTW T a c d v h) ∧ SX [193, 204] [] σ σ) := fun e => ⟨e.symm, by unfold oTW; rw [if_neg (by rw [e]; decide)]; exact hp, SX.rf⟩
  rw [gc0, hp.1, nI_le_iff (by omega) ha, nI_le_iff (by omega) hc, show (1 : Int64) = lN 1 from rfl, show (6 : Int64) = lN 6 from rfl, rngI _ (by decide) (by decide), rngI _ (by decide) (by decide), iR_n (by decide) (by decide) hd, iR_n (by decide) (by decide) hv']
  refine ⟨fun e1 => no ?_, fun e1 => ⟨fun e2 => no ?_, fun e2 => ⟨fun e3 => no ?_, fun e3 => ⟨fun e4 => no ?_, fun e4 => ⟨_, k_X8_canLay ia193 (by decide) hp hv (by omega) (by omega) (by omega), ?_⟩⟩⟩⟩⟩
  · unfold twB; simp [show ¬ a < tM T by omega]
  · unfold twB; simp [show ¬ c < tM T by omega]
  · unfold twB
    cases z1 : decide (1 ≤ d)
    · simp
    · rw [z1, Bool.true_and] at e3; simp [e3]
  · unfold twB
    cases z1 : decide (1 ≤ v)
    · simp
    · rw [z1, Bool.true_and] at e4; simp [e4]
  · simp only [Bool.and_eq_false_imp, decide_eq_true_eq, decide_eq_false_iff_not, Classical.not_imp, Classical.not_not] at e3 e4
    have etw : twB T a c d v h = laysB T a c h := by
      unfold twB; simp [show a < tM T by omega, show c < tM T by omega, e3.1, e3.2, e4.1, e4.2]
    rintro r τ ⟨rfl, hS⟩
    rw [etw] at no
    have hrow : τ.1 193 = σ.1 193 := hS.1 193 (by decide) (by decide)
    refine ⟨fun e => ?_, fun e => ⟨by rw [etw, e], by unfold oTW; rw [if_neg (by rw [etw, e]; decide), hrow]; exact hp, hS.mono (fun _ h => List.mem_cons_of_mem _ h) (fun _ h => h)⟩⟩
    have e' : laysB T a c h = true := by simpa using e
    have hW := (twB_i (etw.trans e')).2.2.2.2.2.2.2
    refine ⟨_, k_X8_layIn ia193 (by rw [hrow]; exact hp) hv hW, ?_⟩
    rintro τ' ⟨f, rfl, hf⟩
    refine ⟨by rw [etw, e'], by unfold oTW; rw [if_pos (etw.trans e'), gw_r_at]; exact hf, (hS.mono (fun _ h => List.mem_cons_of_mem _ h) (fun _ h => h)).tr (SX.r (by decide) (by decide))⟩
theorem k_X8_cuts {w : Nat} (hp : RR (σ.1 193) T) (hv : VT T) (hw : w < 2 ^ 31) : gw_M l G yX8_cuts cX8_cuts 2 (some .boolean) 2 [.ref (G.1 + 189), .int (nI w)] σ (fz (fun r τ => r = decide (w < tW T) ∧ RR (τ.1 193) (oTC T w) ∧ SX [193] [] σ τ)) := by
  have h14 := hv.2.1
  refine gw_met (by decide) (Nat.le_of_ble_eq_true rfl) (fun x C hR hT => sg_X8_cuts_0 C hR hT _ σ ?_)
  rw [gc1, hp.2.1, nI_lt_iff hw (by omega)]
  refine ⟨fun e => ⟨_, k_X8_cutIn ia193 hp hv e, ?_⟩, fun e => ⟨by simp [e], by unfold oTC; rw [if_neg e]; exact hp, SX.rf⟩⟩
  rintro τ ⟨f, rfl, hf⟩
  exact ⟨by simp [e], by unfold oTC; rw [if_pos e, gw_r_at]; exact hf, SX.r (by decide) (by decide)⟩
theorem RR_put {f : Nat → Int32} {w h : Nat} (hp : RR f T) (hv : VT T) : RR (upd f (26 + 5 * w + 4) (nI h)) (oPut T w h) := by
  refine ⟨?_, ?_, fun j hj => ?_, fun i hi => ?_⟩
  · rw [pk_un (by omega)]; exact hp.1
  · rw [pk_un (by omega)]; exact hp.2.1
  · have hj8 : j < tM T := hj
    have h8 := hv.1
    rw [pk_un (by omega), pk_un (by omega), pk_un (by omega)]; exact hp.2.2.1 j hj
  · obtain ⟨r1, r2, r3, r4, r5⟩ := hp.2.2.2 i hi
    rw [pk_un (by omega), pk_un (by omega), pk_un (by omega), pk_un (by omega)]
    refine ⟨r1, r2, r3, r4, ?_⟩
    show _ = nI (if i = w then h else tH T i)
    by_cases e : i = w
    · subst e; rw [if_pos rfl, pk_us]
    · rw [if_neg e, pk_un (by omega)]; exact r5
theorem k_X8_puts {w h : Nat} (hp : RR (σ.1 193) T) (hv : VT T) (hw : w < 2 ^ 31) (hh : h ≤ 99) : gw_M l G yX8_puts cX8_puts 3 (some .boolean) 4 [.ref (G.1 + 189), .int (nI w), .int (nI h)] σ (fz (fun r τ => r = tpB T w h ∧ RR (τ.1 193) (oTP T w h) ∧ SX [193, 204] [] σ τ)) := by
  have h14 := hv.2.1
  refine gw_met (by decide) (Nat.le_of_ble_eq_true rfl) (fun x C hR hT => sg_X8_puts_0 C hR hT _ _ σ ?_)
  rw [gc1, hp.2.1, nI_le_iff (by omega) hw]
  refine ⟨fun e => ?_, fun e => ⟨_, k_X8_canPut ia193 (by decide) hp hv (by omega) (by omega), ?_⟩⟩
  · have z : tpB T w h = false := by unfold tpB; simp [show ¬ w < tW T by omega]
    exact ⟨z.symm, by unfold oTP; rw [if_neg (by rw [z]; decide)]; exact hp, SX.rf⟩
  · rintro r τ ⟨rfl, hS⟩
    have hrow : τ.1 193 = σ.1 193 := hS.1 193 (by decide) (by decide)
    have z : tpB T w h = putsB T w h := by unfold tpB; simp [show w < tW T by omega]
    have hS' : SX [193, 204] [] σ τ := hS.mono (fun _ h => List.mem_cons_of_mem _ h) (fun _ h => h)
    refine ⟨fun e => ⟨wv4 (by omega), ?_⟩, fun e => ⟨by rw [z, e], by unfold oTP; rw [if_neg (by rw [z, e]; decide), hrow]; exact hp, hS'⟩⟩
    have e' : putsB T w h = true := by simpa using e
    rintro τ' rfl
    rw [wc4 (by omega)]
    refine ⟨by rw [z, e'], ?_, hS'.tr (SX.u (by decide) (by decide))⟩
    unfold oTP
    rw [if_pos (z.trans e'), gw_u_r0, gw_r_at, hrow]
    exact RR_put hp hv
theorem k_X8_worksOne {m : Nat} (hp : RR (σ.1 193) T) (hv : VT T) (hm : m < 2 ^ 31) : gw_M l G yX8_worksOne cX8_worksOne 2 (some .boolean) 2 [.ref (G.1 + 189), .int (nI m)] σ (fz (fun r τ => r = tfB T m ∧ RR (τ.1 193) (oTF T m) ∧ SX [193] [] σ τ)) := by
  have h8 := hv.1
  refine gw_met (by decide) (Nat.le_of_ble_eq_true rfl) (fun x C hR hT => sg_X8_worksOne_0 C hR hT _ σ ?_)
  rw [gc0, hp.1, nI_le_iff (by omega) hm]
  refine ⟨fun e => ?_, fun e => ⟨_, k_X8_canWork ia193 hp hv hm, ?_⟩⟩
  · have z : tfB T m = false := by unfold tfB; simp [show ¬ m < tM T by omega]
    exact ⟨z.symm, by unfold oTF; rw [if_neg (by rw [z]; decide)]; exact hp, SX.rf⟩
  · rintro r τ ⟨rfl, rfl⟩
    have z : tfB T m = canB T m := by unfold tfB; simp [show m < tM T by omega]
    refine ⟨fun e => ?_, fun e => ⟨by rw [z, e], by unfold oTF; rw [if_neg (by rw [z, e]; decide)]; exact hp, SX.rf⟩⟩
    have e' : canB T m = true := by simpa using e
    refine ⟨_, k_X8_workIn ia193 hp hv (by omega) ((canB_iff T m).mp e'), ?_⟩
    rintro τ' ⟨f, rfl, hf⟩
    exact ⟨by rw [z, e'], by unfold oTF; rw [if_pos (z.trans e'), gw_r_at]; exact hf, SX.r (by decide) (by decide)⟩
end RD
