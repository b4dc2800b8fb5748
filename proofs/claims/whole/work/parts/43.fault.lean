/-! what a call would be refused for (class); changes that are tried -/
def iM (n : Nat) (v : Int32) : Bool := if v < 0 then false else (if nI n ≤ v then false else true)
theorem iM_t {n : Nat} {v : Int32} (hn : n < 2 ^ 31) (h : iM n v = true) : ∃ j, j < n ∧ v = nI j := by
  rcases pk_ix v hn with q | q | q
  · rw [iM, if_pos q] at h; cases h
  · by_cases q0 : v < 0
    · rw [iM, if_pos q0] at h; cases h
    · rw [iM, if_neg q0, if_pos q] at h; cases h
  · exact q
theorem iM_n {n j : Nat} (hn : n < 2 ^ 31) (hj : j < 2 ^ 31) : iM n (nI j) = decide (j < n) := by
  rw [iM, if_neg (nI_pos hj), gif (nI_leI hn hj)]
  by_cases q : j < n
  · rw [if_neg (by omega)]; simp [q]
  · rw [if_pos (by omega)]; simp [q]
noncomputable def wfM (T : pT) (u k : Int32) : Nat := if u < 0 then 2 else if 3 < u then 2 else if k < 0 then 2 else if k ≤ 3 then (if tM T < 8 then 0 else 3) else 2
noncomputable def wfW (T : pT) (a b c v h : Int32) : Nat := if iM (tM T) a = false then 1 else if iM (tM T) b = false then 1 else if c < 1 then 2 else if 6 < c then 2 else if v < 1 then 2 else if 6 < v then 2 else if h < 0 then 2 else if h ≤ 99 then (if laysB T a.toNatClampNeg b.toNatClampNeg h.toNatClampNeg = true then 0 else 3) else 2
noncomputable def wfH (T : pT) (w h : Int32) : Nat := if iM (tW T) w = false then 1 else if h < 0 then 2 else if h ≤ 99 then (if putsB T w.toNatClampNeg h.toNatClampNeg = true then 0 else 3) else 2
def wfF (T : pT) (m : Int32) : Nat := if iM (tM T) m = false then 1 else if canB T m.toNatClampNeg = true then 0 else 3
/-- tried with small numbers -/
noncomputable def twB (T : pT) (a b c v h : Nat) : Bool := decide (a < tM T) && decide (b < tM T) && decide (1 ≤ c) && decide (c ≤ 6) && decide (1 ≤ v) && decide (v ≤ 6) && laysB T a b h
noncomputable def oTW (T : pT) (a b c v h : Nat) : pT := if twB T a b c v h = true then oLay T a b c v h else T
def oTM (T : pT) (u k : Nat) : pT := if tM T < 8 then oAdd T u k else T
def oTC (T : pT) (w : Nat) : pT := if w < tW T then oCut T w else T
noncomputable def tpB (T : pT) (w h : Nat) : Bool := decide (w < tW T) && putsB T w h
noncomputable def oTP (T : pT) (w h : Nat) : pT := if tpB T w h = true then oPut T w h else T
def tfB (T : pT) (m : Nat) : Bool := decide (m < tM T) && canB T m
def oTF (T : pT) (m : Nat) : pT := if tfB T m = true then oWork T m else T
theorem twB_i {T : pT} {a b c v h : Nat} (e : twB T a b c v h = true) : a < tM T ∧ b < tM T ∧ 1 ≤ c ∧ c ≤ 6 ∧ 1 ≤ v ∧ v ≤ 6 ∧ laysB T a b h = true ∧ tW T < 14 := by
  have e' := e
  unfold twB at e'
  simp only [Bool.and_eq_true, decide_eq_true_eq] at e'
  obtain ⟨⟨⟨⟨⟨⟨h1, h2⟩, h3⟩, h4⟩, h5⟩, h6⟩, h7⟩ := e'
  refine ⟨h1, h2, h3, h4, h5, h6, h7, ?_⟩
  unfold laysB at h7
  simp only [Bool.and_eq_true, decide_eq_true_eq] at h7
  exact h7.1.2
theorem VT_tw {T : pT} {a b c v h : Nat} (hv : VT T) (hh : h ≤ 99) : VT (oTW T a b c v h) := by
  unfold oTW; split
  · next e =>
    obtain ⟨h1, h2, h3, h4, h5, h6, h7, h8⟩ := twB_i e
    exact VT_lay hv h1 h2 h3 h4 h5 h6 hh h8
  · exact hv
theorem VT_tm {T : pT} {u k : Nat} (hv : VT T) (hu : u < 4) (hk : k < 4) : VT (oTM T u k) := by
  unfold oTM; split
  · next e => exact VT_add hv hu hk e
  · exact hv
theorem VT_tc {T : pT} {w : Nat} (hv : VT T) : VT (oTC T w) := by
  unfold oTC; split
  · next e => exact VT_cut hv e
  · exact hv
theorem VT_tp {T : pT} {w h : Nat} (hv : VT T) (hh : h ≤ 99) : VT (oTP T w h) := by
  unfold oTP; split
  · exact VT_put hv hh
  · exact hv
theorem VT_tf {T : pT} {m : Nat} (hv : VT T) : VT (oTF T m) := by
  unfold oTF; split
  · next e =>
    unfold tfB at e
    rw [Bool.and_eq_true, decide_eq_true_eq] at e
    exact VT_work hv ((canB_iff T m).mp e.2)
  · exact hv
theorem i3 : (3 : Int32) = nI 3 := rfl
section FL
variable {l : Launch} {G : gw_G} {σ : gw_S} {b : Nat} {T : pT}
theorem k_X3_newModuleFault {u k : Int32} (hb : gw_plan b) (hp : RP σ b T) (hv : VT T) : gw_M l G yX3_newModuleFault cX3_newModuleFault 3 (some (.object "RateWires$Fault")) 0 [.ref (G.1 + b), .int u, .int k] σ (fe G (fun r τ => r = wfM T u k ∧ τ = σ)) := by
  have h8 := hv.1
  refine gw_met (by decide) (Nat.le_of_ble_eq_true rfl) (fun x C hR hT => sg_X3_newModuleFault_0 C hR hT b _ _ hb σ ?_)
  rw [hp.1, show (8 : Int32) = nI 8 from rfl, gif (nI_ltI (by omega) (by omega))]
  unfold wfM
  refine ⟨fun h => ⟨by rw [if_pos h], rfl⟩, fun h => ⟨fun h2 => ⟨by rw [if_neg h, if_pos h2], rfl⟩, fun h2 => ⟨fun h3 => ⟨by rw [if_neg h, if_neg h2, if_pos h3], rfl⟩, fun h3 => ⟨fun h4 => ⟨by rw [if_neg h, if_neg h2, if_neg h3, if_pos h4], rfl⟩, fun h4 => ⟨by rw [if_neg h, if_neg h2, if_neg h3, if_neg h4], rfl⟩⟩⟩⟩⟩
theorem k_X3_newWireFault {a c d v h : Int32} (hb : gw_plan b) (hp : RP σ b T) (hv : VT T) : gw_M l G yX3_newWireFault cX3_newWireFault 6 (some (.object "RateWires$Fault")) 2 [.ref (G.1 + b), .int a, .int c, .int d, .int v, .int h] σ (fe G (fun r τ => r = wfW T a c d v h ∧ τ = σ)) := by
  have h8 := hv.1
  have h14 := hv.2.1
  refine gw_met (by decide) (Nat.le_of_ble_eq_true rfl) (fun x C hR hT => sg_X3_newWireFault_0 C hR hT b _ _ _ _ _ hb σ ?_)
  rw [hp.1, hp.2.1]
  show (iM (tM T) a = false → _) ∧ (¬ iM (tM T) a = false → (¬ iM (tM T) c = false → _) ∧ (iM (tM T) c = false → _))
  refine ⟨fun e => ⟨by unfold wfW; rw [if_pos e], rfl⟩, fun e1 => ⟨fun e2 => ⟨fun e3 => ⟨by unfold wfW; rw [if_neg e1, if_neg e2, if_pos e3], rfl⟩, fun e3 => ⟨fun e4 => ⟨by unfold wfW; rw [if_neg e1, if_neg e2, if_neg e3, if_pos e4], rfl⟩, fun e4 => ⟨fun e5 => ⟨by unfold wfW; rw [if_neg e1, if_neg e2, if_neg e3, if_neg e4, if_pos e5], rfl⟩, fun e5 => ⟨fun e6 => ⟨by unfold wfW; rw [if_neg e1, if_neg e2, if_neg e3, if_neg e4, if_neg e5, if_pos e6], rfl⟩, fun e6 => ⟨fun e7 => ⟨by unfold wfW; rw [if_neg e1, if_neg e2, if_neg e3, if_neg e4, if_neg e5, if_neg e6, if_pos e7], rfl⟩, fun e7 => ⟨fun e8 => ?_, fun e8 => ⟨by unfold wfW; rw [if_neg e1, if_neg e2, if_neg e3, if_neg e4, if_neg e5, if_neg e6, if_neg e7, if_neg e8], rfl⟩⟩⟩⟩⟩⟩⟩, fun e2 => ⟨by unfold wfW; rw [if_neg e1, if_pos e2], rfl⟩⟩⟩
  obtain ⟨i, hi, rfl⟩ := iM_t (by omega) (show iM (tM T) a = true by simpa using e1)
  obtain ⟨j, hj, rfl⟩ := iM_t (by omega) (show iM (tM T) c = true by simpa using e2)
  obtain ⟨g, hg, rfl⟩ := nI_of2 (M := 99) (n := 99) (by decide) e7 e8
  have hw : wfW T (nI i) (nI j) d v (nI g) = if laysB T i j g = true then 0 else 3 := by
    unfold wfW
    rw [if_neg e1, if_neg e2, if_neg e3, if_neg e4, if_neg e5, if_neg e6, if_neg e7, if_pos e8, nI_clamp (by omega), nI_clamp (by omega), nI_clamp (by omega)]
  rw [hw]
  obtain ⟨u1, u2⟩ := hv.2.2.1 i hi
  obtain ⟨u3, u4⟩ := hv.2.2.1 j hj
  rw [nI_clamp (by omega), nI_clamp (by omega), (hp.2.2.1 i hi).2.1, (hp.2.2.1 j hj).1, nI_eq_iff (by omega) (by omega), show (14 : Int32) = nI 14 from rfl, nI_lt_iff (by omega) (by omega), show (0 : Int32) = nI 0 from rfl, nI_eq_iff (by omega) (by omega)]
  refine ⟨vp_in_nI (by omega) (by decide), vp_in_nI (by omega) (by decide), fun f1 => ⟨by unfold laysB; simp [f1], rfl⟩, fun f1 => ⟨fun f2 => ⟨fun f3 => ⟨?_, rfl⟩, fun f3 => ⟨_, k_X3_closesDeadLoop hb hp hv hi hj, ?_⟩⟩, fun f2 => ⟨by unfold laysB; simp [f2], rfl⟩⟩⟩
  · unfold laysB
    have : 0 < g := by omega
    simp [f1, f2, this]
  · rintro r τ ⟨rfl, rfl⟩
    refine ⟨?_, rfl⟩
    unfold laysB
    subst f3
    cases dd T i j <;> simp [f1, f2]
theorem k_X3_newMarksFault {w h : Int32} (hb : gw_plan b) (hp : RP σ b T) (hv : VT T) : gw_M l G yX3_newMarksFault cX3_newMarksFault 3 (some (.object "RateWires$Fault")) 2 [.ref (G.1 + b), .int w, .int h] σ (fe G (fun r τ => r = wfH T w h ∧ τ = σ)) := by
  have h8 := hv.1
  have h14 := hv.2.1
  refine gw_met (by decide) (Nat.le_of_ble_eq_true rfl) (fun x C hR hT => sg_X3_newMarksFault_0 C hR hT b _ _ hb σ ?_)
  rw [hp.2.1]
  show (¬ iM (tW T) w = false → _) ∧ (iM (tW T) w = false → _)
  refine ⟨fun e1 => ⟨fun e2 => ⟨by unfold wfH; rw [if_neg e1, if_pos e2], rfl⟩, fun e2 => ⟨fun e3 => ?_, fun e3 => ⟨by unfold wfH; rw [if_neg e1, if_neg e2, if_neg e3], rfl⟩⟩⟩, fun e1 => ⟨by unfold wfH; rw [if_pos e1], rfl⟩⟩
  obtain ⟨i, hi, rfl⟩ := iM_t (by omega) (show iM (tW T) w = true by simpa using e1)
  obtain ⟨g, hg, rfl⟩ := nI_of2 (M := 99) (n := 99) (by decide) e2 e3
  obtain ⟨q1, q2, _⟩ := hv.2.2.2 i hi
  obtain ⟨r1, r2, _⟩ := hp.2.2.2 i hi
  have hw : wfH T (nI i) (nI g) = if putsB T i g = true then 0 else 3 := by
    unfold wfH
    rw [if_neg e1, if_neg e2, if_pos e3, nI_clamp (by omega), nI_clamp (by omega)]
  rw [hw, nI_clamp (by omega), r1, r2, show (0 : Int32) = nI 0 from rfl, nI_eq_iff (by omega) (by omega)]
  refine ⟨fun f => ⟨?_, rfl⟩, fun f => ⟨vp_in_nI (by omega) (by decide), _, k_X3_closesDeadLoop hb hp hv q1 q2, ?_⟩⟩
  · unfold putsB
    have : 0 < g := by omega
    simp [this]
  · rintro r τ ⟨rfl, rfl⟩
    refine ⟨?_, rfl⟩
    unfold putsB
    subst f
    cases dd T (tF T i) (tO T i) <;> simp
theorem k_X3_workFault {m : Int32} (hb : gw_plan b) (hp : RP σ b T) (hv : VT T) : gw_M l G yX3_workFault cX3_workFault 2 (some (.object "RateWires$Fault")) 2 [.ref (G.1 + b), .int m] σ (fe G (fun r τ => r = wfF T m ∧ τ = σ)) := by
  have h8 := hv.1
  refine gw_met (by decide) (Nat.le_of_ble_eq_true rfl) (fun x C hR hT => sg_X3_workFault_0 C hR hT b _ hb σ ?_)
  rw [hp.1]
  show (¬ iM (tM T) m = false → _) ∧ (iM (tM T) m = false → _)
  refine ⟨fun e1 => ?_, fun e1 => ⟨by unfold wfF; rw [if_pos e1], rfl⟩⟩
  obtain ⟨i, hi, rfl⟩ := iM_t (by omega) (show iM (tM T) m = true by simpa using e1)
  refine ⟨_, k_X3_canWork hb hp hv (by omega), ?_⟩
  rintro r τ ⟨rfl, rfl⟩
  refine ⟨?_, rfl⟩
  unfold wfF
  rw [if_neg e1, nI_clamp (by omega)]
  cases canB T i <;> rfl
theorem k_X3_triesModule {u k : Nat} (hb : gw_plan b) (hp : RP σ b T) (hv : VT T) (hu : u < 4) (hk : k < 4) : gw_M l G yX3_triesModule cX3_triesModule 4 (some .boolean) 1 [.ref (G.1 + b), .int (nI u), .int (nI k)] σ (fz (fun r τ => r = decide (tM T < 8) ∧ RP τ b (oTM T u k) ∧ SP b σ τ)) := by
  refine gw_met (by decide) (Nat.le_of_ble_eq_true rfl) (fun x C hR hT => sg_X3_triesModule_0 C hR hT b _ _ hb σ ⟨_, k_X3_newModuleFault hb hp hv, ?_⟩)
  rintro r τ _ ⟨rfl, rfl⟩
  have hw : wfM T (nI u) (nI k) = if tM T < 8 then 0 else 3 := by
    unfold wfM
    rw [if_neg (nI_pos (by omega)), i3, if_neg (by rw [nI_lt_iff (by omega) (by omega)]; omega), if_neg (nI_pos (by omega)), if_pos (by rw [nI_le_iff (by omega) (by omega)]; omega)]
  rw [hw]
  by_cases h : tM T < 8
  · rw [if_pos h, if_pos rfl]
    refine ⟨fun z => absurd z (by decide), fun _ => ⟨_, k_X3_newModule hb hp hv h, ?_⟩⟩
    rintro r τ ⟨-, h1, h2⟩
    refine ⟨by simp [h], ?_, h2⟩
    unfold oTM; rw [if_pos h]; exact h1
  · rw [if_neg h, if_neg (by decide)]
    refine ⟨fun _ => ⟨by simp [h], ?_, SP.rf⟩, fun z => absurd rfl z⟩
    unfold oTM; rw [if_neg h]; exact hp
theorem k_X3_triesWire {a c d v h : Nat} (hb : gw_plan b) (hp : RP σ b T) (hv : VT T) (ha : a < 2 ^ 31) (hc : c < 2 ^ 31) (hd : d < 2 ^ 31) (hv' : v < 2 ^ 31) (hh : h ≤ 99) : gw_M l G yX3_triesWire cX3_triesWire 7 (some .boolean) 3 [.ref (G.1 + b), .int (nI a), .int (nI c), .int (nI d), .int (nI v), .int (nI h)] σ (fz (fun r τ => r = twB T a c d v h ∧ RP τ b (oTW T a c d v h) ∧ SP b σ τ)) := by
  have h8 := hv.1
  refine gw_met (by decide) (Nat.le_of_ble_eq_true rfl) (fun x C hR hT => sg_X3_triesWire_0 C hR hT b _ _ _ _ _ hb σ ⟨_, k_X3_newWireFault hb hp hv, ?_⟩)
  rintro r τ _ ⟨rfl, rfl⟩
  have hw : (if wfW T (nI a) (nI c) (nI d) (nI v) (nI h) = 0 then true else false : Bool) = twB T a c d v h := by
    unfold wfW twB
    rw [iM_n (by omega) ha, iM_n (by omega) hc, show (1 : Int32) = nI 1 from rfl, show (6 : Int32) = nI 6 from rfl, show (99 : Int32) = nI 99 from rfl, gif (nI_ltI hd (by omega)), gif (nI_ltI (a := 6) (by omega) hd), gif (nI_ltI hv' (by omega)), gif (nI_ltI (a := 6) (by omega) hv'), if_neg (nI_pos (n := h) (by omega)), if_pos (show nI h ≤ nI 99 by rw [nI_le_iff (by omega) (by omega)]; exact hh), nI_clamp ha, nI_clamp hc, nI_clamp (by omega)]
    by_cases e1 : a < tM T
    · by_cases e2 : c < tM T
      · by_cases e3 : d < 1
        · simp [e1, e2, e3, show ¬ 1 ≤ d by omega]
        · by_cases e4 : 6 < d
          · simp [e1, e2, e3, e4, show ¬ d ≤ 6 by omega]
          · by_cases e5 : v < 1
            · simp [e1, e2, e3, e4, e5, show ¬ 1 ≤ v by omega]
            · by_cases e6 : 6 < v
              · simp [e1, e2, e3, e4, e5, e6, show ¬ v ≤ 6 by omega]
              · cases e7 : laysB T a c h <;> simp [e1, e2, e3, e4, e5, e6, show 1 ≤ d by omega, show d ≤ 6 by omega, show 1 ≤ v by omega, show v ≤ 6 by omega]
      · simp [e1, e2]
    · simp [e1]
  rw [hw]
  refine ⟨fun z => ⟨rfl, ?_, SP.rf⟩, fun z => ?_⟩
  · unfold oTW; rw [if_neg (by rw [z]; decide)]; exact hp
  · have z' : twB T a c d v h = true := by simpa using z
    obtain ⟨h1, h2, h3, h4, h5, h6, h7, h9⟩ := twB_i z'
    refine ⟨_, k_X3_newWire hb hp hv h9, ?_⟩
    rintro r τ ⟨-, g1, g2⟩
    refine ⟨rfl, ?_, g2⟩
    unfold oTW; rw [if_pos z']; exact g1
theorem k_X3_triesCut {w : Nat} (hb : gw_plan b) (hp : RP σ b T) (hv : VT T) (hw : w < 2 ^ 31) : gw_M l G yX3_triesCut cX3_triesCut 3 (some .boolean) 1 [.ref (G.1 + b), .int (nI w)] σ (fz (fun r τ => r = decide (w < tW T) ∧ RP τ b (oTC T w) ∧ SP b σ τ)) := by
  have h14 := hv.2.1
  refine gw_met (by decide) (Nat.le_of_ble_eq_true rfl) (fun x C hR hT => sg_X3_triesCut_0 C hR hT b _ hb σ ?_)
  rw [hp.2.1]
  have e := iM_n (n := tW T) (j := w) (by omega) hw
  unfold iM at e
  rw [e]
  refine ⟨fun z => ⟨rfl, ?_, SP.rf⟩, fun z => ?_⟩
  · unfold oTC; rw [if_neg (by simpa using z)]; exact hp
  · have z' : w < tW T := by simpa using z
    refine ⟨_, k_X3_dropWire hb hp hv z', ?_⟩
    rintro r τ ⟨-, g1, g2⟩
    refine ⟨rfl, ?_, g2⟩
    unfold oTC; rw [if_pos z']; exact g1
theorem k_X3_triesMarks {w h : Nat} (hb : gw_plan b) (hp : RP σ b T) (hv : VT T) (hw : w < 2 ^ 31) (hh : h ≤ 99) : gw_M l G yX3_triesMarks cX3_triesMarks 4 (some .boolean) 3 [.ref (G.1 + b), .int (nI w), .int (nI h)] σ (fz (fun r τ => r = tpB T w h ∧ RP τ b (oTP T w h) ∧ SP b σ τ)) := by
  have h14 := hv.2.1
  refine gw_met (by decide) (Nat.le_of_ble_eq_true rfl) (fun x C hR hT => sg_X3_triesMarks_0 C hR hT b _ _ hb σ ⟨_, k_X3_newMarksFault hb hp hv, ?_⟩)
  rintro r τ _ ⟨rfl, rfl⟩
  have hwf : (if wfH T (nI w) (nI h) = 0 then true else false : Bool) = tpB T w h := by
    unfold wfH tpB
    rw [iM_n (by omega) hw, show (99 : Int32) = nI 99 from rfl, if_neg (nI_pos (n := h) (by omega)), if_pos (show nI h ≤ nI 99 by rw [nI_le_iff (by omega) (by omega)]; exact hh), nI_clamp hw, nI_clamp (by omega)]
    by_cases e1 : w < tW T
    · cases e7 : putsB T w h <;> simp [e1]
    · simp [e1]
  rw [hwf]
  refine ⟨fun z => ⟨rfl, ?_, SP.rf⟩, fun z => ?_⟩
  · unfold oTP; rw [if_neg (by rw [z]; decide)]; exact hp
  · have z' : tpB T w h = true := by simpa using z
    have z2 := z'
    unfold tpB at z2
    rw [Bool.and_eq_true, decide_eq_true_eq] at z2
    refine ⟨_, k_X3_newMarks hb hp hv z2.1, ?_⟩
    rintro r τ ⟨-, g1, g2⟩
    refine ⟨rfl, ?_, g2⟩
    unfold oTP; rw [if_pos z']; exact g1
theorem k_X3_triesWork {m : Nat} (hb : gw_plan b) (hp : RP σ b T) (hv : VT T) (hm : m < 2 ^ 31) : gw_M l G yX3_triesWork cX3_triesWork 3 (some .boolean) 3 [.ref (G.1 + b), .int (nI m)] σ (fz (fun r τ => r = tfB T m ∧ RP τ b (oTF T m) ∧ SP b σ τ)) := by
  have h8 := hv.1
  refine gw_met (by decide) (Nat.le_of_ble_eq_true rfl) (fun x C hR hT => sg_X3_triesWork_0 C hR hT b _ hb σ ⟨_, k_X3_workFault hb hp hv, ?_⟩)
  rintro r τ _ ⟨rfl, rfl⟩
  have hwf : (if wfF T (nI m) = 0 then true else false : Bool) = tfB T m := by
    unfold wfF tfB
    rw [iM_n (by omega) hm, nI_clamp hm]
    by_cases e1 : m < tM T
    · cases e7 : canB T m <;> simp [e1]
    · simp [e1]
  rw [hwf]
  refine ⟨fun z => ⟨rfl, ?_, SP.rf⟩, fun z => ?_⟩
  · unfold oTF; rw [if_neg (by rw [z]; decide)]; exact hp
  · have z' : tfB T m = true := by simpa using z
    have z2 := z'
    unfold tfB at z2
    rw [Bool.and_eq_true, decide_eq_true_eq] at z2
    refine ⟨_, k_X3_doWork hb hp hv z2.1 ((canB_iff T m).mp z2.2), ?_⟩
    rintro τ ⟨g1, g2⟩
    refine ⟨rfl, ?_, g2⟩
    unfold oTF; rw [if_pos z']; exact g1
theorem k_X3_hasMarks {w h : Nat} (hb : gw_plan b) (hp : RP σ b T) (hv : VT T) (hw : w < 2 ^ 31) (hh : h < 2 ^ 31) : gw_M l G yX3_hasMarks cX3_hasMarks 3 (some .boolean) 1 [.ref (G.1 + b), .int (nI w), .int (nI h)] σ (fz (fun r τ => r = (decide (w < tW T) && decide (h ≤ tH T w)) ∧ τ = σ)) := by
  have h14 := hv.2.1
  refine gw_met (by decide) (Nat.le_of_ble_eq_true rfl) (fun x C hR hT => sg_X3_hasMarks_0 C hR hT b _ _ hb σ ?_)
  rw [hp.2.1]
  have e := iM_n (n := tW T) (j := w) (by omega) hw
  unfold iM at e
  rw [e]
  by_cases z : w < tW T
  · have h7 := (hv.2.2.2 w z).2.2.2.2.2.2
    rw [nI_clamp hw, (hp.2.2.2 w z).2.2.2.2, gif (nI_ltI (by omega) hh)]
    refine ⟨⟨fun _ => trivial, fun _ => ⟨vp_in_nI (by omega) (by decide), trivial⟩⟩, ?_, rfl⟩
    by_cases q : tH T w < h
    · simp [z, q]
    · simp [z, q]; omega
  · exact ⟨⟨fun _ => trivial, fun y => absurd (by simp [z]) y⟩, by simp [z], rfl⟩
theorem k_X3_hasWorked {m h : Nat} (hb : gw_plan b) (hp : RP σ b T) (hv : VT T) (hm : m < 2 ^ 31) : gw_M l G yX3_hasWorked cX3_hasWorked 3 (some .boolean) 1 [.ref (G.1 + b), .int (nI m), .int (nI h)] σ (fz (fun r τ => r = (decide (m < tM T) && decide (nI h ≤ tD T m)) ∧ τ = σ)) := by
  have h8 := hv.1
  refine gw_met (by decide) (Nat.le_of_ble_eq_true rfl) (fun x C hR hT => sg_X3_hasWorked_0 C hR hT b _ _ hb σ ?_)
  rw [hp.1]
  have e := iM_n (n := tM T) (j := m) (by omega) hm
  unfold iM at e
  rw [e]
  by_cases z : m < tM T
  · rw [nI_clamp hm, (hp.2.2.1 m z).2.2]
    refine ⟨⟨fun _ => trivial, fun _ => ⟨vp_in_nI (by omega) (by decide), trivial⟩⟩, ?_, rfl⟩
    by_cases q : tD T m < nI h
    · have : ¬ nI h ≤ tD T m := Int32.not_le.mpr q
      simp [z, q, this]
    · have : nI h ≤ tD T m := Int32.not_lt.mp q
      simp [z, q, this]
  · exact ⟨⟨fun _ => trivial, fun y => absurd (by simp [z]) y⟩, by simp [z], rfl⟩
end FL
