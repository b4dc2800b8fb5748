/-! the state of a plan as a mathematical value, how a class's plan and a reference's row hold it, the operations on it -/
/-- modules, wires, uses, makes, worked, from, to, comes, used, marks -/
abbrev pT : Type := Nat × Nat × (Nat → Nat) × (Nat → Nat) × (Nat → Int32) × (Nat → Nat) × (Nat → Nat) × (Nat → Nat) × (Nat → Nat) × (Nat → Nat)
abbrev tM (T : pT) : Nat := T.1
abbrev tW (T : pT) : Nat := T.2.1
abbrev tU (T : pT) : Nat → Nat := T.2.2.1
abbrev tK (T : pT) : Nat → Nat := T.2.2.2.1
abbrev tD (T : pT) : Nat → Int32 := T.2.2.2.2.1
abbrev tF (T : pT) : Nat → Nat := T.2.2.2.2.2.1
abbrev tO (T : pT) : Nat → Nat := T.2.2.2.2.2.2.1
abbrev tC (T : pT) : Nat → Nat := T.2.2.2.2.2.2.2.1
abbrev tV (T : pT) : Nat → Nat := T.2.2.2.2.2.2.2.2.1
abbrev tH (T : pT) : Nat → Nat := T.2.2.2.2.2.2.2.2.2
/-- what holds of every state -/
def VT (T : pT) : Prop := tM T ≤ 8 ∧ tW T ≤ 14 ∧ (∀ m, m < tM T → tU T m < 4 ∧ tK T m < 4) ∧ ∀ w, w < tW T → tF T w < tM T ∧ tO T w < tM T ∧ 1 ≤ tC T w ∧ tC T w ≤ 6 ∧ 1 ≤ tV T w ∧ tV T w ≤ 6 ∧ tH T w ≤ 999
/-- a plan of the class at the cell b -/
def RP (σ : gw_S) (b : Nat) (T : pT) : Prop := σ.1 b 0 = nI (tM T) ∧ σ.1 b 4 = nI (tW T) ∧ (∀ m, m < tM T → σ.1 (b + 1) m = nI (tU T m) ∧ σ.1 (b + 2) m = nI (tK T m) ∧ σ.1 (b + 3) m = tD T m) ∧ ∀ w, w < tW T → σ.1 (b + 4) w = nI (tF T w) ∧ σ.1 (b + 5) w = nI (tO T w) ∧ σ.1 (b + 6) w = nI (tC T w) ∧ σ.1 (b + 7) w = nI (tV T w) ∧ σ.1 (b + 8) w = nI (tH T w)
/-- a row of the reference -/
def RR (f : Nat → Int32) (T : pT) : Prop := f 0 = nI (tM T) ∧ f 1 = nI (tW T) ∧ (∀ m, m < tM T → f (2 + 3 * m) = nI (tU T m) ∧ f (2 + 3 * m + 1) = nI (tK T m) ∧ f (2 + 3 * m + 2) = tD T m) ∧ ∀ w, w < tW T → f (26 + 5 * w) = nI (tF T w) ∧ f (26 + 5 * w + 1) = nI (tO T w) ∧ f (26 + 5 * w + 2) = nI (tC T w) ∧ f (26 + 5 * w + 3) = nI (tV T w) ∧ f (26 + 5 * w + 4) = nI (tH T w)
/-- nothing but the plan at b is other -/
def SP (b : Nat) (σ τ : gw_S) : Prop := τ.2 = σ.2 ∧ ∀ k, (k < b ∨ b + 9 ≤ k) → τ.1 k = σ.1 k
theorem SP.rf {b : Nat} {σ : gw_S} : SP b σ σ := ⟨rfl, fun _ _ => rfl⟩
theorem SP.tr {b : Nat} {σ τ υ : gw_S} (h1 : SP b σ τ) (h2 : SP b τ υ) : SP b σ υ := ⟨h2.1.trans h1.1, fun k hk => (h2.2 k hk).trans (h1.2 k hk)⟩
theorem SP.u {b k j : Nat} {v : Int32} {σ : gw_S} (h1 : b ≤ k) (h2 : k < b + 9) : SP b σ (gw_u σ k j v) := ⟨rfl, fun q hq => gw_r_ne σ _ (by omega)⟩
theorem SP.r {b k : Nat} {f : Nat → Int32} {σ : gw_S} (h1 : b ≤ k) (h2 : k < b + 9) : SP b σ (gw_r σ k f) := ⟨rfl, fun q hq => gw_r_ne σ _ (by omega)⟩
theorem gw_u_at (σ : gw_S) (k j : Nat) (v : Int32) : (gw_u σ k j v).1 k j = v := by simp [gw_u, gw_r, upd]
theorem gw_u_k (σ : gw_S) {k k' : Nat} (j : Nat) (v : Int32) (h : k' ≠ k) : (gw_u σ k j v).1 k' = σ.1 k' := gw_r_ne σ _ h
theorem gw_u_j (σ : gw_S) (k : Nat) {j j' : Nat} (v : Int32) (h : j' ≠ j) : (gw_u σ k j v).1 k j' = σ.1 k j' := by simp [gw_u, gw_r, upd, h]
theorem gw_u_l (σ : gw_S) (k j : Nat) (v : Int32) : (gw_u σ k j v).2 = σ.2 := rfl
theorem gw_ul_at (σ : gw_S) (k j : Nat) (v : Int64) : (gw_ul σ k j v).2 k j = v := by simp [gw_ul, gw_rl, vp_updL]
theorem gw_ul_k (σ : gw_S) {k k' : Nat} (j : Nat) (v : Int64) (h : k' ≠ k) : (gw_ul σ k j v).2 k' = σ.2 k' := gw_rl_ne σ _ h
theorem gw_ul_j (σ : gw_S) (k : Nat) {j j' : Nat} (v : Int64) (h : j' ≠ j) : (gw_ul σ k j v).2 k j' = σ.2 k j' := by simp [gw_ul, gw_rl, vp_updL, h]
theorem gw_ul_i (σ : gw_S) (k j : Nat) (v : Int64) : (gw_ul σ k j v).1 = σ.1 := rfl
theorem RP.cong {σ τ : gw_S} {b : Nat} {T : pT} (h : RP σ b T) (he : ∀ i, i < 9 → τ.1 (b + i) = σ.1 (b + i)) : RP τ b T := by
  have h0 := he 0 (by omega)
  simp only [Nat.add_zero] at h0
  refine ⟨by rw [h0]; exact h.1, by rw [h0]; exact h.2.1, fun m hm => ?_, fun w hw => ?_⟩
  · rw [he 1 (by omega), he 2 (by omega), he 3 (by omega)]; exact h.2.2.1 m hm
  · rw [he 4 (by omega), he 5 (by omega), he 6 (by omega), he 7 (by omega), he 8 (by omega)]; exact h.2.2.2 w hw
theorem RP.out {σ τ : gw_S} {b b' : Nat} {T : pT} (h : RP σ b T) (hS : SP b' σ τ) (hd : b + 9 ≤ b' ∨ b' + 9 ≤ b) : RP τ b T := h.cong (fun i hi => hS.2 _ (by omega))
/-- the marks on a wire behind a work -/
def bh (T : pT) (m w : Nat) : Nat := tH T w - (if tO T w = m then tV T w else 0) + (if tF T w = m then tC T w else 0)
def canW (T : pT) (m : Nat) : Prop := ∀ w, w < tW T → (tO T w = m → tV T w ≤ tH T w) ∧ bh T m w ≤ 999
/-- the operations -/
def oWork (T : pT) (m : Nat) : pT := (tM T, tW T, tU T, tK T, fun k => if k = m then tD T k + 1 else tD T k, tF T, tO T, tC T, tV T, fun w => bh T m w)
def oPut (T : pT) (w h : Nat) : pT := (tM T, tW T, tU T, tK T, tD T, tF T, tO T, tC T, tV T, fun k => if k = w then h else tH T k)
def oRate (T : pT) (w c v : Nat) : pT := (tM T, tW T, tU T, tK T, tD T, tF T, tO T, fun k => if k = w then c else tC T k, fun k => if k = w then v else tV T k, tH T)
def oAdd (T : pT) (u k : Nat) : pT := (tM T + 1, tW T, fun i => if i = tM T then u else tU T i, fun i => if i = tM T then k else tK T i, fun i => if i = tM T then 0 else tD T i, tF T, tO T, tC T, tV T, tH T)
def oLay (T : pT) (a b c v h : Nat) : pT := (tM T, tW T + 1, tU T, tK T, tD T, fun i => if i = tW T then a else tF T i, fun i => if i = tW T then b else tO T i, fun i => if i = tW T then c else tC T i, fun i => if i = tW T then v else tV T i, fun i => if i = tW T then h else tH T i)
def oCut (T : pT) (w : Nat) : pT := (tM T, tW T - 1, tU T, tK T, tD T, fun i => if i < w then tF T i else tF T (i + 1), fun i => if i < w then tO T i else tO T (i + 1), fun i => if i < w then tC T i else tC T (i + 1), fun i => if i < w then tV T i else tV T (i + 1), fun i => if i < w then tH T i else tH T (i + 1))
def oNil : pT := (0, 0, fun _ => 0, fun _ => 0, fun _ => 0, fun _ => 0, fun _ => 0, fun _ => 0, fun _ => 0, fun _ => 0)
theorem VT_nil : VT oNil := ⟨by decide, by decide, fun m hm => absurd hm (Nat.not_lt_zero m), fun w hw => absurd hw (Nat.not_lt_zero w)⟩
theorem VT_work {T : pT} {m : Nat} (h : VT T) (hc : canW T m) : VT (oWork T m) := ⟨h.1, h.2.1, h.2.2.1, fun w hw => by
  obtain ⟨h1, h2, h3, h4, h5, h6, h7⟩ := h.2.2.2 w hw
  exact ⟨h1, h2, h3, h4, h5, h6, (hc w hw).2⟩⟩
theorem VT_put {T : pT} {w v : Nat} (h : VT T) (hv : v ≤ 99) : VT (oPut T w v) := ⟨h.1, h.2.1, h.2.2.1, fun k hk => by
  obtain ⟨h1, h2, h3, h4, h5, h6, h7⟩ := h.2.2.2 k hk
  refine ⟨h1, h2, h3, h4, h5, h6, ?_⟩
  show (if k = w then v else tH T k) ≤ 999
  split <;> omega⟩
theorem VT_rate {T : pT} {w c v : Nat} (h : VT T) (hc1 : 1 ≤ c) (hc : c ≤ 6) (hv1 : 1 ≤ v) (hv : v ≤ 6) : VT (oRate T w c v) := ⟨h.1, h.2.1, h.2.2.1, fun k hk => by
  obtain ⟨h1, h2, h3, h4, h5, h6, h7⟩ := h.2.2.2 k hk
  refine ⟨h1, h2, ?_, ?_, ?_, ?_, h7⟩
  · show 1 ≤ (if k = w then c else tC T k); split <;> omega
  · show (if k = w then c else tC T k) ≤ 6; split <;> omega
  · show 1 ≤ (if k = w then v else tV T k); split <;> omega
  · show (if k = w then v else tV T k) ≤ 6; split <;> omega⟩
theorem VT_add {T : pT} {u k : Nat} (h : VT T) (hu : u < 4) (hk : k < 4) (hm : tM T < 8) : VT (oAdd T u k) := ⟨hm, h.2.1, fun i hi => by
  have hi : i < tM T + 1 := hi
  refine ⟨?_, ?_⟩
  · show (if i = tM T then u else tU T i) < 4
    split
    · exact hu
    · exact (h.2.2.1 i (by omega)).1
  · show (if i = tM T then k else tK T i) < 4
    split
    · exact hk
    · exact (h.2.2.1 i (by omega)).2, fun w hw => by
  obtain ⟨h1, h2, h3⟩ := h.2.2.2 w hw
  exact ⟨Nat.lt_succ_of_lt h1, Nat.lt_succ_of_lt h2, h3⟩⟩
theorem VT_lay {T : pT} {a b c v g : Nat} (h : VT T) (ha : a < tM T) (hb : b < tM T) (hc1 : 1 ≤ c) (hc : c ≤ 6) (hv1 : 1 ≤ v) (hv : v ≤ 6) (hg : g ≤ 99) (hw : tW T < 14) : VT (oLay T a b c v g) := ⟨h.1, hw, h.2.2.1, fun i hi => by
  have hi : i < tW T + 1 := hi
  by_cases e : i = tW T
  · refine ⟨?_, ?_, ?_, ?_, ?_, ?_, ?_⟩
    · show (if i = tW T then a else tF T i) < tM T; rw [if_pos e]; exact ha
    · show (if i = tW T then b else tO T i) < tM T; rw [if_pos e]; exact hb
    · show 1 ≤ (if i = tW T then c else tC T i); rw [if_pos e]; exact hc1
    · show (if i = tW T then c else tC T i) ≤ 6; rw [if_pos e]; exact hc
    · show 1 ≤ (if i = tW T then v else tV T i); rw [if_pos e]; exact hv1
    · show (if i = tW T then v else tV T i) ≤ 6; rw [if_pos e]; exact hv
    · show (if i = tW T then g else tH T i) ≤ 999; rw [if_pos e]; exact Nat.le_trans hg (by decide)
  · obtain ⟨h1, h2, h3, h4, h5, h6, h7⟩ := h.2.2.2 i (by omega)
    refine ⟨?_, ?_, ?_, ?_, ?_, ?_, ?_⟩
    · show (if i = tW T then a else tF T i) < tM T; rw [if_neg e]; exact h1
    · show (if i = tW T then b else tO T i) < tM T; rw [if_neg e]; exact h2
    · show 1 ≤ (if i = tW T then c else tC T i); rw [if_neg e]; exact h3
    · show (if i = tW T then c else tC T i) ≤ 6; rw [if_neg e]; exact h4
    · show 1 ≤ (if i = tW T then v else tV T i); rw [if_neg e]; exact h5
    · show (if i = tW T then v else tV T i) ≤ 6; rw [if_neg e]; exact h6
    · show (if i = tW T then g else tH T i) ≤ 999; rw [if_neg e]; exact h7⟩
theorem VT_cut {T : pT} {w : Nat} (h : VT T) (hw : w < tW T) : VT (oCut T w) := ⟨h.1, Nat.le_trans (Nat.sub_le _ _) h.2.1, h.2.2.1, fun i hi => by
  have hi : i < tW T - 1 := hi
  by_cases e : i < w
  · obtain ⟨h1, h2, h3, h4, h5, h6, h7⟩ := h.2.2.2 i (by omega)
    refine ⟨?_, ?_, ?_, ?_, ?_, ?_, ?_⟩
    · show (if i < w then tF T i else tF T (i + 1)) < tM T; rw [if_pos e]; exact h1
    · show (if i < w then tO T i else tO T (i + 1)) < tM T; rw [if_pos e]; exact h2
    · show 1 ≤ (if i < w then tC T i else tC T (i + 1)); rw [if_pos e]; exact h3
    · show (if i < w then tC T i else tC T (i + 1)) ≤ 6; rw [if_pos e]; exact h4
    · show 1 ≤ (if i < w then tV T i else tV T (i + 1)); rw [if_pos e]; exact h5
    · show (if i < w then tV T i else tV T (i + 1)) ≤ 6; rw [if_pos e]; exact h6
    · show (if i < w then tH T i else tH T (i + 1)) ≤ 999; rw [if_pos e]; exact h7
  · obtain ⟨h1, h2, h3, h4, h5, h6, h7⟩ := h.2.2.2 (i + 1) (by omega)
    refine ⟨?_, ?_, ?_, ?_, ?_, ?_, ?_⟩
    · show (if i < w then tF T i else tF T (i + 1)) < tM T; rw [if_neg e]; exact h1
    · show (if i < w then tO T i else tO T (i + 1)) < tM T; rw [if_neg e]; exact h2
    · show 1 ≤ (if i < w then tC T i else tC T (i + 1)); rw [if_neg e]; exact h3
    · show (if i < w then tC T i else tC T (i + 1)) ≤ 6; rw [if_neg e]; exact h4
    · show 1 ≤ (if i < w then tV T i else tV T (i + 1)); rw [if_neg e]; exact h5
    · show (if i < w then tV T i else tV T (i + 1)) ≤ 6; rw [if_neg e]; exact h6
    · show (if i < w then tH T i else tH T (i + 1)) ≤ 999; rw [if_neg e]; exact h7⟩
/-- sums -/
def sN (f : Nat → Nat) : Nat → Nat
  | 0 => 0
  | n + 1 => sN f n + f n
def sI (f : Nat → Int32) : Nat → Int32
  | 0 => 0
  | n + 1 => sI f n + f n
theorem sN_le {f : Nat → Nat} {c : Nat} : ∀ n, (∀ i, i < n → f i ≤ c) → sN f n ≤ n * c
  | 0, _ => Nat.zero_le _
  | n + 1, h => by
    have h1 := sN_le n (fun i hi => h i (by omega))
    have h2 := h n (by omega)
    rw [sN, Nat.succ_mul]; omega
theorem sN_cong {f g : Nat → Nat} : ∀ n, (∀ i, i < n → f i = g i) → sN f n = sN g n
  | 0, _ => rfl
  | n + 1, h => by rw [sN, sN, sN_cong n (fun i hi => h i (by omega)), h n (by omega)]
theorem sI_cong {f g : Nat → Int32} : ∀ n, (∀ i, i < n → f i = g i) → sI f n = sI g n
  | 0, _ => rfl
  | n + 1, h => by rw [sI, sI, sI_cong n (fun i hi => h i (by omega)), h n (by omega)]
/-- small numbers -/
theorem nI_le_iff {a b : Nat} (ha : a < 2 ^ 31) (hb : b < 2 ^ 31) : (nI a ≤ nI b) = (a ≤ b) := propext (nI_leI ha hb)
theorem nI_lt_iff {a b : Nat} (ha : a < 2 ^ 31) (hb : b < 2 ^ 31) : (nI a < nI b) = (a < b) := propext (nI_ltI ha hb)
theorem nI_eq_iff {a b : Nat} (ha : a < 2 ^ 31) (hb : b < 2 ^ 31) : (nI a = nI b) = (a = b) := propext (nI_eq ha hb)
