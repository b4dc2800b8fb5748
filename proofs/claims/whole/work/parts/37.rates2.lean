/-! how the class finds the works of a round -/
def FP (T : pT) (D0 : Nat → Nat) (n : Nat) (D : Nat → Nat) : Prop := (∀ i, i < tM T → D i ≤ 60 ∧ (n.testBit i = true → 0 < D i) ∧ (n.testBit i = false → D i = D0 i)) ∧ ∀ e, PS T e → ∃ k, ∀ i, i < tM T → n.testBit i = true → e i = k * D i
theorem FP_join {T : pT} {D0 D : Nat → Nat} {n a b c v t : Nat} (h : FP T D0 n D) (ha : a < tM T) (hna : n.testBit a = true) (hv : 0 < v) (he : ∀ e, PS T e → e a * c = e b * v) (ht : Tm (D a * c) v t) : ∀ e, PS T e → ∃ k, ∀ i, i < tM T → (n.testBit i = true ∨ i = b) → e i = k * jD D n b (D a * c) v t i := by
  intro e hE
  obtain ⟨k, hk⟩ := h.2 e hE
  have h1 := he e hE
  rw [hk a ha hna] at h1
  have hdv : v ∣ D a * c * k := ⟨e b, by rw [Nat.mul_comm v, ← h1]; ac_rfl⟩
  obtain ⟨k', hk'⟩ := ht.dv hdv
  refine ⟨k', fun i hi q => ?_⟩
  unfold jD
  by_cases eb : i = b
  · subst eb
    rw [if_pos rfl]
    have hx := Nat.div_mul_cancel ht.2.2.1
    apply Nat.eq_of_mul_eq_mul_right hv
    rw [← h1, Nat.mul_assoc k', hx, hk']; ac_rfl
  · have hb := q.resolve_right eb
    rw [if_neg eb, if_pos hb, hk i hi hb, hk']; ac_rfl
theorem FP_next {T : pT} {D0 D : Nat → Nat} {n n' a b c v t : Nat} (h : FP T D0 n D) (ha : a < tM T) (hna : n.testBit a = true) (hv : 0 < v) (hc : 0 < c) (he : ∀ e, PS T e → e a * c = e b * v) (ht : Tm (D a * c) v t) (hle : ∀ i, i < tM T → jD D n b (D a * c) v t i ≤ 60) (hn' : ∀ i, n'.testBit i = true ↔ n.testBit i = true ∨ i = b) : FP T D0 n' (jD D n b (D a * c) v t) := by
  refine ⟨fun i hi => ⟨hle i hi, fun hb => ?_, fun hb => ?_⟩, fun e hE => ?_⟩
  · unfold jD
    by_cases eb : i = b
    · rw [if_pos eb]
      have h1 : 0 < D a * c * t := Nat.mul_pos (Nat.mul_pos ((h.1 a ha).2.1 hna) hc) ht.1
      exact Nat.div_pos (Nat.le_of_dvd h1 ht.2.2.1) hv
    · have := ((hn' i).mp hb).resolve_right eb
      rw [if_neg eb, if_pos this]; exact Nat.mul_pos ((h.1 i hi).2.1 this) ht.1
  · have h1 : ¬ (n.testBit i = true ∨ i = b) := fun z => by rw [(hn' i).mpr z] at hb; cases hb
    unfold jD
    rw [if_neg (fun z => h1 (Or.inr z)), if_neg (fun z => h1 (Or.inl z))]
    exact (h.1 i hi).2.2 (by simpa using fun z => h1 (Or.inl z))
  · obtain ⟨k, hk⟩ := FP_join h ha hna hv he ht e hE
    exact ⟨k, fun i hi hb => hk i hi ((hn' i).mp hb)⟩
theorem FP_no {T : pT} {D0 D : Nat → Nat} {n a b c v t : Nat} (h : FP T D0 n D) (ha : a < tM T) (hna : n.testBit a = true) (hv : 0 < v) (he : ∀ e, PS T e → e a * c = e b * v) (ht : Tm (D a * c) v t) (hle : ∃ i, i < tM T ∧ 60 < jD D n b (D a * c) v t i) : ¬ ∃ d, DU T d := by
  rintro ⟨d, hd⟩
  obtain ⟨i, hi, h60⟩ := hle
  obtain ⟨k, hk⟩ := FP_join h ha hna hv he ht d hd.1
  by_cases q : n.testBit i = true ∨ i = b
  · have h1 := hk i hi q
    have h2 := hd.1.1 i hi
    have h3 := hd.2.2 i hi
    cases k with
    | zero => rw [Nat.zero_mul] at h1; omega
    | succ k => rw [Nat.succ_mul] at h1; omega
  · have h1 := (h.1 i hi).1
    unfold jD at h60
    rw [if_neg (fun z => q (Or.inr z)), if_neg (fun z => q (Or.inl z))] at h60
    omega
theorem rbz {n k : Nat} (hn : n < 2 ^ 31) (hk : k < 31) : (if ((nI n >>> (nI k &&& 31)) &&& 1) = 0 then false else true : Bool) = n.testBit k := by
  cases e : n.testBit k
  · rw [if_pos ((rb_t hn hk).mpr e)]
  · rw [if_neg (fun z => by rw [rb_t hn hk, e] at z; cases z)]
theorem FP_cong {T : pT} {D0 D : Nat → Nat} {n n' : Nat} (h : FP T D0 n D) (hn : ∀ i, n'.testBit i = n.testBit i) : FP T D0 n' D := ⟨fun i hi => by rw [hn]; exact h.1 i hi, fun e hE => by
  obtain ⟨k, hk⟩ := h.2 e hE
  exact ⟨k, fun i hi hb => hk i hi (by rw [← hn]; exact hb)⟩⟩
section RA
variable {l : Launch} {G : gw_G} {σ : gw_S} {T : pT}
theorem k_X4_findsPart {r b f : Nat} {D0 : Nat → Nat} (hr : gw_rates r) (hb : gw_plan b) (hd : b + 9 ≤ r ∨ r + 2 ≤ b) (hp : RP σ b T) (hv : VT T) (h1 : σ.1 r 1 = nI (tM T)) (hD : ∀ i, i < tM T → σ.1 (r + 1) i = nI (D0 i) ∧ D0 i ≤ 60) (hf : f < tM T) : gw_M l G yX4_findsPart cX4_findsPart 10 (some .boolean) 1 [.ref (G.1 + r), .ref (G.1 + b), .int (nI f)] σ (fz (fun q τ => ∃ g, τ = gw_r σ (r + 1) g ∧ (q = true → ∃ D, (∀ i, i < tM T → g i = nI (D i)) ∧ FP T (fun i => if i = f then 1 else D0 i) (uP T (2 ^ f) (tM T - 1)) D) ∧ (q = false → ¬ ∃ d, DU T d))) := by
  have h8 := hv.1
  have h14 := hv.2.1
  refine gw_met (by decide) (Nat.le_of_ble_eq_true rfl) (fun x C hR hT => sg_X4_findsPart_0 C hR hT r b _ hr hb σ ⟨vp_in_nI (by omega) (by decide), ?_⟩)
  rintro τ rfl
  rw [nI_clamp (by omega), rb_sh (by omega), gw_u_r0]
  have inner : ∀ p (s0 : Nat), s0 < 256 → (∀ g D, (∀ i, i < tM T → g i = nI (D i)) → FP T (fun i => if i = f then 1 else D0 i) (uS T s0 (tW T)) D → PW x G 10 14 [(0, .ref (G.1 + r)), (1, .ref (G.1 + b)), (2, .int (nI f)), (3, .int (nI (uS T s0 (tW T)))), (4, .int (nI p + 1))] [] (gw_r σ (r + 1) g)) → ∀ d i, i + d = tW T → ∀ g D, (∀ i, i < tM T → g i = nI (D i)) → FP T (fun i => if i = f then 1 else D0 i) (uS T s0 i) D → PW x G 10 26 [(0, .ref (G.1 + r)), (1, .ref (G.1 + b)), (2, .int (nI f)), (3, .int (nI (uS T s0 i))), (4, .int (nI p)), (5, .int (nI i))] [] (gw_r σ (r + 1) g) := by
    intro p s0 hs0 hk d
    induction d with
    | zero =>
      intro i hi g D hg hF
      refine sg_X4_findsPart_26 C hR hT r b hr hb _ _ _ _ _ ⟨fun _ => by rw [show i = tW T by omega] at hF ⊢; exact hk g D hg hF, fun q => absurd ?_ q⟩
      rw [gw_r_ne _ _ (by omega), hp.2.1, nI_le_iff (by omega) (by omega)]; omega
    | succ d ih =>
      intro i hi g D hg hF
      have hiT : i < tW T := by omega
      obtain ⟨r1, r2, r3, r4, r5⟩ := hp.2.2.2 i hiT
      obtain ⟨q1, q2, q3, q4, q5, q6, q7⟩ := hv.2.2.2 i hiT
      have hlt := uS_lt hv hs0 i (by omega)
      refine sg_X4_findsPart_26 C hR hT r b hr hb _ _ _ _ _ ⟨fun q => ?_, fun _ => ⟨vp_in_nI (by omega) (by decide), ?_⟩⟩
      · rw [gw_r_ne _ _ (by omega), hp.2.1, nI_le_iff (by omega) (by omega)] at q; omega
      · have eU : nI (uS T s0 i) ||| (if (uS T s0 i).testBit (tF T i) = false then (if (uS T s0 i).testBit (tO T i) = false then 0 else nI (2 ^ tF T i ||| 2 ^ tO T i)) else nI (2 ^ tF T i ||| 2 ^ tO T i) : Int32) = nI (uS T s0 (i + 1)) := by
          rw [uS]
          by_cases e1 : (uS T s0 i).testBit (tF T i) = true
          · rw [if_neg (by rw [e1]; decide), if_pos (Or.inl e1), rb_or]
          · rw [if_pos (by simpa using e1)]
            by_cases e2 : (uS T s0 i).testBit (tO T i) = true
            · rw [if_neg (by rw [e2]; decide), if_pos (Or.inr e2), rb_or]
            · rw [if_pos (by simpa using e2), if_neg (fun z => z.elim e1 e2), show (0 : Int32) = nI 0 from rfl, rb_or, Nat.or_zero]
        have hat : ∀ k, k < 9 → (gw_r σ (r + 1) g).1 (b + k) = σ.1 (b + k) := fun k hk => gw_r_ne _ _ (by omega)
        rw [nI_clamp (by omega), hat 4 (by omega), hat 5 (by omega), hat 6 (by omega), hat 7 (by omega), r1, r2, r3, r4, nI_clamp (by omega), nI_clamp (by omega), rb_sh (by omega), rb_sh (by omega), rb_or, rbz (by omega) (by omega), rbz (by omega) (by omega), eU, gw_r_at, hg _ q1, hg _ q2, pk_mul, pk_mul, nI_1]
        have keep : (∀ j, (uS T s0 (i + 1)).testBit j = (uS T s0 i).testBit j) → PW x G 10 26 [(0, .ref (G.1 + r)), (1, .ref (G.1 + b)), (2, .int (nI f)), (3, .int (nI (uS T s0 (i + 1)))), (4, .int (nI p)), (5, .int (nI (i + 1)))] [] (gw_r σ (r + 1) g) := fun e => ih (i + 1) (by omega) g D hg (FP_cong hF e)
        have join : ∀ a c co va, a < tM T → c < tM T → (uS T s0 i).testBit a = true → (uS T s0 i).testBit c = false → 1 ≤ co → co ≤ 6 → 1 ≤ va → va ≤ 6 → (∀ e, PS T e → e a * co = e c * va) → (∀ j, (uS T s0 (i + 1)).testBit j = true ↔ (uS T s0 i).testBit j = true ∨ j = c) →
            ∃ Φ' : Bool → gw_S → Prop, gw_M x.2.1 G yX4_joins cX4_joins 7 (some .boolean) 0 [.ref (G.1 + r), .int (nI (uS T s0 i)), .int (nI c), .int (nI (D a * co)), .int (nI va)] (gw_r σ (r + 1) g) (fz Φ') ∧ ∀ (q : Bool) (τ : gw_S), Φ' q τ → (¬ (q = false) → PW x G 10 26 [(0, .ref (G.1 + r)), (1, .ref (G.1 + b)), (2, .int (nI f)), (3, .int (nI (uS T s0 (i + 1)))), (4, .int (nI p)), (5, .int (nI (i + 1)))] [] τ) ∧ (q = false → (∃ g, τ = gw_r σ (r + 1) g ∧ (false = true → ∃ D, (∀ i, i < tM T → g i = nI (D i)) ∧ FP T (fun i => if i = f then 1 else D0 i) (uP T (2 ^ f) (tM T - 1)) D) ∧ (false = false → ¬ ∃ d, DU T d))) := by
          intro a c co va ha hc hba hbc hco1 hco6 hva1 hva6 hE hbits
          have hDa := (hF.1 a ha).1
          have hm : D a * co ≤ 60 * 6 := Nat.mul_le_mul hDa hco6
          refine ⟨_, k_X4_joins hr h8 (by rw [gw_r_ne _ _ (by omega)]; exact h1) (fun j hj => ⟨by rw [gw_r_at]; exact hg j hj, (hF.1 j hj).1⟩) hlt hc hbc hm ⟨hva1, hva6⟩, ?_⟩
          rintro q τ ⟨t, ht, g', rfl, hy, hn⟩
          rw [gw_r_r]
          refine ⟨fun q' => ih (i + 1) (by omega) g' _ (fun j hj => (hy (by simpa using q') j hj).1) (FP_next hF ha hba (by omega) (by omega) hE ht (fun j hj => (hy (by simpa using q') j hj).2) hbits), fun q' => ⟨g', rfl, fun z => absurd z (by decide), fun _ => FP_no hF ha hba (by omega) hE ht (hn q')⟩⟩
        have bits : ∀ j, (uS T s0 (i + 1)).testBit j = if (uS T s0 i).testBit (tF T i) = true ∨ (uS T s0 i).testBit (tO T i) = true then ((uS T s0 i).testBit j || (decide (tF T i = j) || decide (tO T i = j))) else (uS T s0 i).testBit j := fun j => by
          rw [uS]; split
          · rw [bit_or2]
          · rfl
        refine ⟨fun hA => ⟨fun hB => keep (fun j => ?_), fun hB => ⟨fun q => absurd hA q, fun _ => ⟨vp_in_nI (by omega) (by decide), ?_⟩⟩⟩, fun hA => ⟨fun hB => ⟨fun hB' => absurd hB' hB, fun _ => ⟨fun _ => keep (fun j => ?_), fun q => absurd q hA⟩⟩, fun hB => ⟨vp_in_nI (by omega) (by decide), ?_⟩⟩⟩
        · rw [bits, if_neg (by rw [hA, hB]; decide)]
        · have hB' : (uS T s0 i).testBit (tO T i) = true := by simpa using hB
          refine join (tO T i) (tF T i) (tV T i) (tC T i) q2 q1 hB' hA q5 q6 q3 q4 (fun e hE => (hE.2 i hiT).symm) (fun j => ?_)
          rw [bits, if_pos (Or.inr hB')]
          simp only [Bool.or_eq_true, decide_eq_true_eq]
          constructor
          · rintro (h | h | h)
            · exact Or.inl h
            · exact Or.inr h.symm
            · exact Or.inl (h ▸ hB')
          · rintro (h | h)
            · exact Or.inl h
            · exact Or.inr (Or.inl h.symm)
        · have hA' : (uS T s0 i).testBit (tF T i) = true := by simpa using hA
          have hB' : (uS T s0 i).testBit (tO T i) = true := by simpa using hB
          rw [bits, if_pos (Or.inl hA')]
          by_cases e1 : tF T i = j
          · subst e1; rw [hA']; rfl
          · by_cases e2 : tO T i = j
            · subst e2; rw [hB']; rfl
            · simp [e1, e2]
        · have hA' : (uS T s0 i).testBit (tF T i) = true := by simpa using hA
          obtain ⟨Φ', h5, h6⟩ := join (tF T i) (tO T i) (tC T i) (tV T i) q1 q2 hA' hB q3 q4 q5 q6 (fun e hE => hE.2 i hiT) (fun j => by
            rw [bits, if_pos (Or.inl hA')]
            simp only [Bool.or_eq_true, decide_eq_true_eq]
            constructor
            · rintro (h | h | h)
              · exact Or.inl h
              · exact Or.inl (h ▸ hA')
              · exact Or.inr h.symm
            · rintro (h | h)
              · exact Or.inl h
              · exact Or.inr (Or.inr h.symm))
          refine ⟨Φ', h5, fun q τ hq => ⟨fun q' => ⟨fun _ => (h6 q τ hq).1 q', fun z => absurd hB z⟩, (h6 q τ hq).2⟩⟩
  have outer : ∀ d p, p + d = tM T - 1 → ∀ g D, (∀ i, i < tM T → g i = nI (D i)) → FP T (fun i => if i = f then 1 else D0 i) (uP T (2 ^ f) p) D → PW x G 10 14 [(0, .ref (G.1 + r)), (1, .ref (G.1 + b)), (2, .int (nI f)), (3, .int (nI (uP T (2 ^ f) p))), (4, .int (nI (p + 1)))] [] (gw_r σ (r + 1) g) := by
    have h256 : 2 ^ f < 256 := Nat.pow_lt_pow_right (a := 2) (n := 8) (by decide) (by omega)
    intro d
    induction d with
    | zero =>
      intro p hpp g D hg hF
      refine sg_X4_findsPart_14 C hR hT r b hr hb _ _ _ _ ⟨fun _ => ⟨g, rfl, fun _ => ⟨D, hg, by rw [show p = tM T - 1 by omega] at hF; exact hF⟩, fun z => absurd z (by decide)⟩, fun q => absurd ?_ q⟩
      rw [gw_r_ne _ _ (by omega), h1, nI_le_iff (by omega) (by omega)]; omega
    | succ d ih =>
      intro p hpp g D hg hF
      refine sg_X4_findsPart_14 C hR hT r b hr hb _ _ _ _ ⟨fun q => ?_, fun _ => ?_⟩
      · rw [gw_r_ne _ _ (by omega), h1, nI_le_iff (by omega) (by omega)] at q; omega
      · refine inner (p + 1) _ (uP_lt hv h256 p) (fun g D hg hF => ?_) (tW T) 0 (by omega) g D hg hF
        rw [nI_1]
        exact ih (p + 1) (by omega) g D hg hF
  refine outer (tM T - 1) 0 (by omega) _ (fun i => if i = f then 1 else D0 i) (fun i hi => ?_) ⟨fun i hi => ⟨?_, ?_, fun _ => rfl⟩, fun e hE => ⟨e f, fun i hi hb => ?_⟩⟩
  · by_cases e : i = f
    · rw [e, if_pos rfl, pk_us]; rfl
    · rw [if_neg e, pk_un e]; exact (hD i hi).1
  · have := (hD i hi).2
    show (if i = f then 1 else D0 i) ≤ 60
    split <;> omega
  · intro hb
    have e : i = f := by rw [show uP T (2 ^ f) 0 = 2 ^ f from rfl, Nat.testBit_two_pow, decide_eq_true_eq] at hb; exact hb.symm
    show 0 < (if i = f then 1 else D0 i)
    rw [if_pos e]; decide
  · have ee : i = f := by rw [show uP T (2 ^ f) 0 = 2 ^ f from rfl, Nat.testBit_two_pow, decide_eq_true_eq] at hb; exact hb.symm
    show e i = e f * (if i = f then 1 else D0 i)
    rw [if_pos ee, ee, Nat.mul_one]
end RA
