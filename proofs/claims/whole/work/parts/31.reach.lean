/-! bits of an int; the class's closing of sets -/
theorem rb_s : ∀ n, n < 32 → ((nI n &&& 31).toBitVec.smod 32).toNat = n := by decide +kernel
theorem rb_bv (n : Nat) : (nI n).toBitVec = BitVec.ofNat 32 n := rfl
theorem rb_or (a b : Nat) : nI a ||| nI b = nI (a ||| b) := by
  apply Int32.toBitVec_inj.mp
  rw [Int32.toBitVec_or, rb_bv, rb_bv, rb_bv]
  apply BitVec.eq_of_toNat_eq
  simp only [BitVec.toNat_or, BitVec.toNat_ofNat]
  apply Nat.eq_of_testBit_eq
  intro i
  simp only [Nat.testBit_or, Nat.testBit_mod_two_pow]
  cases decide (i < 32) <;> simp
theorem rb_and (a b : Nat) : nI a &&& nI b = nI (a &&& b) := by
  apply Int32.toBitVec_inj.mp
  rw [Int32.toBitVec_and, rb_bv, rb_bv, rb_bv]
  apply BitVec.eq_of_toNat_eq
  simp only [BitVec.toNat_and, BitVec.toNat_ofNat]
  apply Nat.eq_of_testBit_eq
  intro i
  simp only [Nat.testBit_and, Nat.testBit_mod_two_pow]
  cases decide (i < 32) <;> simp
theorem rb_sh {k : Nat} (hk : k < 31) : (1 : Int32) <<< (nI k &&& 31) = nI (2 ^ k) := by
  have h1 : 2 ^ k < 2 ^ 31 := Nat.pow_lt_pow_right (by decide) hk
  have := pk_shlN (n := 1) (nI k &&& 31) k (rb_s k (by omega)) (by omega)
  rw [Nat.one_mul] at this
  exact this
theorem rb_t {n k : Nat} (hn : n < 2 ^ 31) (hk : k < 31) : (((nI n >>> (nI k &&& 31)) &&& 1) = 0) ↔ n.testBit k = false := by
  rw [pk_shrN hn _ k (rb_s k (by omega)), pk_andN (Nat.lt_of_le_of_lt (Nat.div_le_self _ _) (by omega)) 1 (by decide), show (0 : Int32) = nI 0 from rfl, nI_eq (by omega) (by decide), Nat.testBit_eq_decide_div_mod_eq]
  rw [decide_eq_false_iff_not]; omega
theorem rS_lt {T : pT} (hv : VT T) {B n : Nat} (hn : n < 256) : ∀ k, k ≤ tW T → rS T B n k < 256 := by
  intro k
  induction k with
  | zero => intro _; exact hn
  | succ k ih =>
    intro hk
    have h1 := ih (by omega)
    rw [rS]
    split
    · have h2 := (hv.2.2.2 k (by omega)).2.1
      have h3 := hv.1
      exact Nat.or_lt_two_pow (n := 8) h1 (Nat.pow_lt_pow_right (by decide) (by omega))
    · exact h1
theorem rP_lt {T : pT} (hv : VT T) {B n : Nat} (hn : n < 256) : ∀ p, rP T B n p < 256
  | 0 => hn
  | p + 1 => rS_lt hv (rP_lt hv hn p) _ (Nat.le_refl _)
noncomputable def dd (T : pT) (a b : Nat) : Bool := @decide (Rc T 0 b a) (Classical.propDecidable _)
theorem dd_iff {T : pT} {a b : Nat} : dd T a b = true ↔ Rc T 0 b a := by
  unfold dd; exact @decide_eq_true_iff _ (Classical.propDecidable _)
section RE
variable {l : Launch} {G : gw_G} {σ : gw_S} {b : Nat} {T : pT}
theorem k_X3_reached {n B : Nat} (hb : gw_plan b) (hp : RP σ b T) (hv : VT T) (hn : n < 256) (hB : B < 2 ^ 31) : gw_M l G yX3_reached cX3_reached 6 (some .int) 0 [.ref (G.1 + b), .int (nI n), .int (nI B)] σ (fi (fun r τ => r = nI (rP T B n (tM T - 1)) ∧ τ = σ)) := by
  have h8 := hv.1
  have h14 := hv.2.1
  refine gw_met (by decide) (Nat.le_of_ble_eq_true rfl) (fun x C hR hT => sg_X3_reached_0 C hR hT b _ _ hb σ ?_)
  have inner : ∀ p (s0 : Nat), s0 < 256 → PW x G 6 5 [(0, .ref (G.1 + b)), (1, .int (nI n)), (2, .int (nI B)), (3, .int (nI (rS T B s0 (tW T)))), (4, .int (nI p + 1))] [] σ → ∀ d i, i + d = tW T → PW x G 6 17 [(0, .ref (G.1 + b)), (1, .int (nI n)), (2, .int (nI B)), (3, .int (nI (rS T B s0 i))), (4, .int (nI p)), (5, .int (nI i))] [] σ := by
    intro p s0 hs0 hk d
    induction d with
    | zero =>
      intro i hi
      refine sg_X3_reached_17 C hR hT b hb _ _ _ _ _ σ ⟨fun _ => by rw [show i = tW T by omega]; exact hk, fun q => absurd ?_ q⟩
      rw [hp.2.1, nI_le_iff (by omega) (by omega)]; omega
    | succ d ih =>
      intro i hi
      have hiT : i < tW T := by omega
      obtain ⟨r1, r2, r3, r4, r5⟩ := hp.2.2.2 i hiT
      obtain ⟨h1, h2, h3, h4, h5, h6, h7⟩ := hv.2.2.2 i hiT
      have hlt := rS_lt hv (B := B) hs0 i (by omega)
      refine sg_X3_reached_17 C hR hT b hb _ _ _ _ _ σ ⟨fun q => ?_, fun _ => ⟨vp_in_nI (by omega) (by decide), ?_⟩⟩
      · rw [hp.2.1, nI_le_iff (by omega) (by omega)] at q; omega
      · have := ih (i + 1) (by omega)
        rw [nI_clamp (by omega), r1, r2, r5, nI_1, rb_sh (by omega), rb_or]
        rw [rS] at this
        by_cases e1 : tH T i ≤ B
        · rw [if_neg (by rw [nI_lt_iff (by omega) (by omega)]; omega)]
          by_cases e2 : (rS T B s0 i).testBit (tF T i) = true
          · rw [if_neg (fun z => by rw [rb_t (by omega) (by omega), e2] at z; cases z)]
            rw [if_pos ⟨e1, e2⟩] at this
            exact this
          · rw [if_pos ((rb_t (by omega) (by omega)).mpr (by simpa using e2))]
            rw [if_neg (fun z => e2 z.2)] at this
            exact this
        · rw [if_pos (by rw [nI_lt_iff (by omega) (by omega)]; omega)]
          rw [if_neg (fun z => e1 z.1)] at this
          exact this
  have outer : ∀ d p, p + d = tM T - 1 → PW x G 6 5 [(0, .ref (G.1 + b)), (1, .int (nI n)), (2, .int (nI B)), (3, .int (nI (rP T B n p))), (4, .int (nI (p + 1)))] [] σ := by
    intro d
    induction d with
    | zero =>
      intro p hp'
      refine sg_X3_reached_5 C hR hT b hb _ _ _ _ σ ⟨fun _ => ⟨by rw [show p = tM T - 1 by omega], rfl⟩, fun q => absurd ?_ q⟩
      rw [hp.1, nI_le_iff (by omega) (by omega)]; omega
    | succ d ih =>
      intro p hp'
      refine sg_X3_reached_5 C hR hT b hb _ _ _ _ σ ⟨fun q => ?_, fun _ => ?_⟩
      · rw [hp.1, nI_le_iff (by omega) (by omega)] at q; omega
      · refine inner (p + 1) _ (rP_lt hv hn p) ?_ (tW T) 0 (by omega)
        rw [nI_1]
        exact ih (p + 1) (by omega)
  exact outer (tM T - 1) 0 (by omega)
theorem k_X3_closesDeadLoop {a c : Nat} (hb : gw_plan b) (hp : RP σ b T) (hv : VT T) (ha : a < tM T) (hc : c < tM T) : gw_M l G yX3_closesDeadLoop cX3_closesDeadLoop 3 (some .boolean) 1 [.ref (G.1 + b), .int (nI a), .int (nI c)] σ (fz (fun r τ => r = dd T a c ∧ τ = σ)) := by
  have h8 := hv.1
  refine gw_met (by decide) (Nat.le_of_ble_eq_true rfl) (fun x C hR hT => sg_X3_closesDeadLoop_0 C hR hT b _ _ hb σ ?_)
  rw [rb_sh (by omega)]
  have h256 : 2 ^ c < 256 := Nat.pow_lt_pow_right (a := 2) (n := 8) (by decide) (by omega)
  refine ⟨_, k_X3_reached (B := 0) hb hp hv h256 (by decide), ?_⟩
  rintro r τ ⟨rfl, rfl⟩
  refine ⟨?_, rfl⟩
  have hlt := rP_lt hv (B := 0) h256 (tM T - 1)
  have key : (rP T 0 (2 ^ c) (tM T - 1)).testBit a = true ↔ dd T a c = true := by
    rw [dd_iff, rP_iff hv (fun z hz => by rw [Nat.testBit_two_pow, decide_eq_true_eq] at hz; omega)]
    constructor
    · rintro ⟨z, h1, h2⟩
      rw [Nat.testBit_two_pow, decide_eq_true_eq] at h1
      rw [h1]; exact h2
    · intro h
      exact ⟨c, by rw [Nat.testBit_two_pow]; simp, h⟩
  by_cases e : (rP T 0 (2 ^ c) (tM T - 1)).testBit a = true
  · rw [if_neg (fun z => by rw [rb_t (by omega) (by omega), e] at z; cases z)]
    exact (key.mp e).symm
  · rw [if_pos ((rb_t (by omega) (by omega)).mpr (by simpa using e))]
    cases hd : dd T a c with
    | false => rfl
    | true => exact absurd (key.mpr hd) e
end RE
