/-! what every call answers (fault, value, state behind it) -/
abbrev aF : Type := Nat × Int32 × aS
def rgI (lo hi v : Int32) : Nat := if v < lo then 2 else (if v ≤ hi then 0 else 2)
def mdF (T : pT) (v : Int32) : Nat := if iM (tM T) v = false then 1 else 0
def wrF (T : pT) (v : Int32) : Nat := if iM (tW T) v = false then 1 else 0
def slF (v : Int32) : Nat := if v < 0 then 1 else (if v < 2 then 0 else 1)
def anAppend (A : aS) (c : Int32) : aF := if rgI 0 255 c = 0 then (if A.1.1 < 120 then (0, nI (A.1.1 + 1), ((A.1.1 + 1, uN A.1.2 A.1.1 c.toNatClampNeg), A.2)) else (3, 0, A)) else (2, 0, A)
def anClear (A : aS) : aF := (0, nI A.1.1, ((0, A.1.2), A.2))
def anError (A : aS) : aF := (0, oX (errX A.1), A)
noncomputable def anLoad (A : aS) : aF := if errX A.1 = none then (0, nI (ldX A.1).2, (A.1, (ldX A.1).1, A.2.2.1, 0, fun _ => none)) else (3, 0, A)
noncomputable def abV (T : pT) : Nat → Int32
  | 0 => nI (tM T)
  | 1 => nI (tW T)
  | 2 => nI (sN (tH T) (tW T))
  | 3 => sI (tD T) (tM T)
  | 4 => gz (agB T)
  | 5 => nI (cN (rtB T) (tM T))
  | 6 => if agB T = true then nI (sN (rD T) (tM T)) else -1
  | 7 => nI (bN (canB T) (tM T))
  | _ => nI (bN (lpB T) (tM T))
noncomputable def anAbout (A : aS) (v : Int32) : aF := if rgI 0 8 v = 0 then (0, abV A.2.1 v.toNatClampNeg, A) else (2, 0, A)
noncomputable def mdV (T : pT) (m : Nat) : Nat → Int32
  | 0 => nI (tU T m)
  | 1 => nI (tK T m)
  | 2 => tD T m
  | 3 => if agB T = true then nI (rD T m) else -1
  | 4 => nI (cN (fun w => decide (tO T w = m)) (tW T))
  | _ => nI (cN (fun w => decide (tF T w = m)) (tW T))
noncomputable def anModule (A : aS) (m v : Int32) : aF := if mdF A.2.1 m = 0 then (if rgI 0 5 v = 0 then (0, mdV A.2.1 m.toNatClampNeg v.toNatClampNeg, A) else (2, 0, A)) else (1, 0, A)
def wrV (T : pT) (w : Nat) : Nat → Int32
  | 0 => nI (tF T w)
  | 1 => nI (tO T w)
  | 2 => nI (tC T w)
  | 3 => nI (tV T w)
  | _ => nI (tH T w)
def anWire (A : aS) (w v : Int32) : aF := if wrF A.2.1 w = 0 then (if rgI 0 4 v = 0 then (0, wrV A.2.1 w.toNatClampNeg v.toNatClampNeg, A) else (2, 0, A)) else (1, 0, A)
noncomputable def anBetween (A : aS) (a b : Int32) : aF := if mdF A.2.1 a = 0 then (if mdF A.2.1 b = 0 then (0, btw A.2.1 a.toNatClampNeg b.toNatClampNeg, A) else (1, 0, A)) else (1, 0, A)
noncomputable def anAdd (A : aS) (u k : Int32) : aF := if wfM A.2.1 u k = 0 then (0, nI (tM A.2.1), aRem A (oAdd A.2.1 u.toNatClampNeg k.toNatClampNeg)) else (wfM A.2.1 u k, 0, A)
noncomputable def anLay (A : aS) (a b c v h : Int32) : aF := if wfW A.2.1 a b c v h = 0 then (0, nI (tW A.2.1), aRem A (oLay A.2.1 a.toNatClampNeg b.toNatClampNeg c.toNatClampNeg v.toNatClampNeg h.toNatClampNeg)) else (wfW A.2.1 a b c v h, 0, A)
def anCut (A : aS) (w : Int32) : aF := if wrF A.2.1 w = 0 then (0, nI (tH A.2.1 w.toNatClampNeg), aRem A (oCut A.2.1 w.toNatClampNeg)) else (1, 0, A)
noncomputable def anPut (A : aS) (w h : Int32) : aF := if wfH A.2.1 w h = 0 then (0, nI (tH A.2.1 w.toNatClampNeg), aRem A (oPut A.2.1 w.toNatClampNeg h.toNatClampNeg)) else (wfH A.2.1 w h, 0, A)
def anWork (A : aS) (m : Int32) : aF := if wfF A.2.1 m = 0 then (0, nI (sN (tH (oWork A.2.1 m.toNatClampNeg)) (tW A.2.1)), aRem A (oWork A.2.1 m.toNatClampNeg)) else (wfF A.2.1 m, 0, A)
noncomputable def anRound (A : aS) (r : Int32) : aF := if rgI 0 2 r = 0 then (if rC A.2.1 r.toNatClampNeg = true then (0, nI (rL A.2.1 r.toNatClampNeg), aRem A (rE A.2.1 r.toNatClampNeg).1) else (3, 0, A)) else (2, 0, A)
def anUndo (A : aS) : aF := if A.2.2.2.1 = 0 then (3, 0, A) else (0, nI (A.2.2.2.1 - 1), (A.1, A.2.2.1 (A.2.2.2.1 - 1), A.2.2.1, A.2.2.2.1 - 1, A.2.2.2.2))
noncomputable def anOrder (A : aS) (r k : Int32) : aF := if rgI 0 2 r = 0 then (if 0 ≤ k then (0, if agB A.2.1 = true then (if nI (rL A.2.1 r.toNatClampNeg) ≤ k then -1 else nI (rK A.2.1 r.toNatClampNeg k.toNatClampNeg)) else -1, A) else (2, 0, A)) else (2, 0, A)
noncomputable def anSticks (A : aS) (r : Int32) : aF := if rgI 0 2 r = 0 then (0, if agB A.2.1 = true then (if rC A.2.1 r.toNatClampNeg = false then nI (rL A.2.1 r.toNatClampNeg) else -1) else -1, A) else (2, 0, A)
noncomputable def anHolds (A : aS) (w r : Int32) : aF := if wrF A.2.1 w = 0 then (if rgI 0 2 r = 0 then (0, if agB A.2.1 = true then nI ((rE A.2.1 r.toNatClampNeg).2.2.2 w.toNatClampNeg) else -1, A) else (2, 0, A)) else (1, 0, A)
noncomputable def bsF (T : pT) : Nat → Option Nat × Nat
  | 0 => (none, 0)
  | r + 1 => @ite _ (rC T r = true ∧ ∀ b, (bsF T r).1 = some b → sN (rE T r).2.2.2 (tW T) < (bsF T r).2) (Classical.propDecidable _) (some r, sN (rE T r).2.2.2 (tW T)) (bsF T r)
noncomputable def anBest (A : aS) : aF := (0, oX (bsF A.2.1 3).1, A)
noncomputable def anFewest (A : aS) (w : Int32) : aF := if wrF A.2.1 w = 0 then (0, fwI A.2.1 w.toNatClampNeg, A) else (1, 0, A)
noncomputable def agF (T : pT) (w c : Nat) : Nat → Nat → Int32
  | 0, _ => -1
  | f + 1, u => if agB (oRate T w c u) = true then nI u else agF T w c f (u + 1)
noncomputable def anAgrees (A : aS) (w c : Int32) : aF := if wrF A.2.1 w = 0 then (if rgI 1 6 c = 0 then (0, agF A.2.1 w.toNatClampNeg c.toNatClampNeg 6 1, A) else (2, 0, A)) else (1, 0, A)
noncomputable def scF (v n : Nat) : Nat → Nat → pT → Int32
  | 0, _, _ => -1
  | f + 1, i, T => if gB T (v / 1000000 ^ (n - 1 - i) % 1000000 / 100000) (v / 1000000 ^ (n - 1 - i) % 1000000 % 100000) = true then scF v n f (i + 1) (gT T (v / 1000000 ^ (n - 1 - i) % 1000000 / 100000) (v / 1000000 ^ (n - 1 - i) % 1000000 % 100000)) else nI i
noncomputable def anScript (A : aS) (n : Int32) (v : Int64) : aF := if rgI 1 3 n = 0 then (if v < 0 then (2, 0, A) else (if v.toInt.toNat < 1000000 ^ n.toNatClampNeg then (0, scF v.toInt.toNat n.toNatClampNeg n.toNatClampNeg 0 A.2.1, A) else (2, 0, A))) else (2, 0, A)
def nxS (x : Int64) : Int64 := (x * 6364136223846793005) + 1442695040888963407
def shS (x : Int64) : Int32 := (((x.toUInt64 >>> ((33 : Int32).toInt64.toUInt64 &&& Int64.toUInt64 63)).toInt64).toInt32)
noncomputable def smG (nx : Int64 → Int64) (sh : Int64 → Int32) : Nat → Int64 → pT × Nat → pT × Nat
  | 0, _, s => s
  | f + 1, x, s => smG nx sh f (nx x) ((uT s.1 (sh (nx x)).toNatClampNeg).1, s.2 + (uT s.1 (sh (nx x)).toNatClampNeg).2)
theorem smG_0 (nx : Int64 → Int64) (sh : Int64 → Int32) (x : Int64) (s : pT × Nat) : smG nx sh 0 x s = s := rfl
theorem smG_s (nx : Int64 → Int64) (sh : Int64 → Int32) (f : Nat) (x : Int64) (s : pT × Nat) : smG nx sh (f + 1) x s = smG nx sh f (nx x) ((uT s.1 (sh (nx x)).toNatClampNeg).1, s.2 + (uT s.1 (sh (nx x)).toNatClampNeg).2) := rfl
noncomputable def smF : Nat → Int64 → pT × Nat → pT × Nat := smG nxS shS
def mnI (n : Nat) : Nat := if 999 < n then 999 else n
noncomputable def anSim (A : aS) (x : Int64) (m : Int32) : aF := if rgI 1 99 m = 0 then (0, nI (1000 * mnI (smF m.toNatClampNeg x (A.2.1, 0)).2 + mnI (sN (tH (smF m.toNatClampNeg x (A.2.1, 0)).1) (tW (smF m.toNatClampNeg x (A.2.1, 0)).1))), A) else (2, 0, A)
def anSave (A : aS) (s : Int32) : aF := if slF s = 0 then (0, nI (tW A.2.1), (A.1, A.2.1, A.2.2.1, A.2.2.2.1, fun i => if i = s.toNatClampNeg then some A.2.1 else A.2.2.2.2 i)) else (1, 0, A)
def anRestore (A : aS) (s : Int32) : aF := if slF s = 0 then (match A.2.2.2.2 s.toNatClampNeg with
  | none => (3, 0, A)
  | some U => (0, nI (tW U), (A.1, U, A.2.2.1, 0, A.2.2.2.2))) else (1, 0, A)
/-- contracts of calls: class, reference -/
def cA (F : aF) (σ : gw_S) : Int32 → gw_S → Prop := fun r τ => F.1 = 0 ∧ r = F.2.1 ∧ CI τ F.2.2 ∧ KC σ τ
def cK (F : aF) (σ : gw_S) : Nat → gw_S → Prop := fun i τ => i = F.1 ∧ CI τ F.2.2 ∧ KC σ τ
def mp (L : List Nat) (f : Nat) : Nat := if f = 0 then 0 else L.idxOf f + 1
def mA (L : List Nat) (F : aF) (σ : gw_S) : Int32 → gw_S → Prop := fun r τ => τ.1 189 0 = nI (mp L F.1) ∧ (F.1 = 0 → r = F.2.1) ∧ MI τ F.2.2 ∧ KM σ τ
theorem rgI_0 {lo hi : Nat} {v : Int32} (hh : hi < 2 ^ 31) (hl : lo < 2 ^ 31) (h : rgI (nI lo) (nI hi) v = 0) : ∃ j, lo ≤ j ∧ j ≤ hi ∧ v = nI j := by
  unfold rgI at h
  by_cases e1 : v < nI lo
  · rw [if_pos e1] at h; cases h
  · rw [if_neg e1] at h
    by_cases e2 : v ≤ nI hi
    · have : ¬ v < 0 := fun z => e1 (Int32.lt_of_lt_of_le z (by rw [← nI_0]; exact nI_le (Nat.zero_le _) hl))
      obtain ⟨j, hj, rfl⟩ := nI_of this
      rw [nI_le_iff hj hh] at e2
      rw [nI_lt_iff hj hl] at e1
      exact ⟨j, by omega, e2, rfl⟩
    · rw [if_neg e2] at h; cases h
theorem rgI_n {lo hi v : Int32} (h : ¬ rgI lo hi v = 0) : rgI lo hi v = 2 := by
  unfold rgI at h ⊢
  split
  · rfl
  · next e => rw [if_neg e] at h; split
              · next e2 => rw [if_pos e2] at h; exact absurd rfl h
              · rfl
theorem mdF_0 {T : pT} {v : Int32} (hv : VT T) (h : mdF T v = 0) : ∃ j, j < tM T ∧ v = nI j := by
  have h8 := hv.1
  unfold mdF at h
  cases e : iM (tM T) v
  · rw [e, if_pos rfl] at h; cases h
  · exact iM_t (by omega) e
theorem mdF_n {T : pT} {v : Int32} (h : ¬ mdF T v = 0) : mdF T v = 1 := by
  unfold mdF at h ⊢
  cases e : iM (tM T) v
  · rw [if_pos rfl]
  · rw [e, if_neg (by decide)] at h; exact absurd rfl h
theorem wrF_0 {T : pT} {v : Int32} (hv : VT T) (h : wrF T v = 0) : ∃ j, j < tW T ∧ v = nI j := by
  have h14 := hv.2.1
  unfold wrF at h
  cases e : iM (tW T) v
  · rw [e, if_pos rfl] at h; cases h
  · exact iM_t (by omega) e
theorem wrF_n {T : pT} {v : Int32} (h : ¬ wrF T v = 0) : wrF T v = 1 := by
  unfold wrF at h ⊢
  cases e : iM (tW T) v
  · rw [if_pos rfl]
  · rw [e, if_neg (by decide)] at h; exact absurd rfl h
theorem slF_0 {v : Int32} (h : slF v = 0) : ∃ j, j < 2 ∧ v = nI j := by
  unfold slF at h
  by_cases e1 : v < 0
  · rw [if_pos e1] at h; cases h
  · rw [if_neg e1] at h
    by_cases e2 : v < 2
    · obtain ⟨j, hj, rfl⟩ := nI_of e1
      rw [show (2 : Int32) = nI 2 from rfl, nI_lt_iff hj (by omega)] at e2
      exact ⟨j, e2, rfl⟩
    · rw [if_neg e2] at h; cases h
theorem slF_n {v : Int32} (h : ¬ slF v = 0) : slF v = 1 := by
  unfold slF at h ⊢
  split
  · rfl
  · next e => rw [if_neg e] at h; split
              · next e2 => rw [if_pos e2] at h; exact absurd rfl h
              · rfl
theorem gw_face {l : Launch} {G : gw_G} {y : MethodName} {bytes : ByteArray} {maxL : Nat} {as : List Value} {σ : gw_S} {Φ : Int32 → gw_S → Prop} {K : Nat → gw_S → Prop} (hst : l.stackTraces = false) (hy : y.cls = RX7) (ha : (lg_sl as).length ≤ maxL) (h : ∀ x : gw_X, XC x G RX7 bytes maxL (some .int) → gw_ok x 7 → RT x G (fi Φ) → TX x G RX7 bytes maxL K → PW x G maxL 0 (lv_args 0 as) [] σ) : gw_MX l G y bytes maxL (some .int) 7 as σ (fi Φ) K := by
  refine gw_metX (by rw [hy]; decide) ha (fun x hl C hR hout hX => ?_)
  rw [hy] at C
  exact h x C (hR.ok hX) (gw_RT hX) (gw_TX C (by rw [hl]; exact hst) hR hout hX)
