/-! rates: the smallest works of a round; how the class finds them -/
def PS (T : pT) (e : Nat → Nat) : Prop := (∀ m, m < tM T → 0 < e m) ∧ ∀ w, w < tW T → e (tF T w) * tC T w = e (tO T w) * tV T w
def DU (T : pT) (d : Nat → Nat) : Prop := PS T d ∧ (∀ e, PS T e → ∀ m, m < tM T → ∃ k, e m = k * d m) ∧ ∀ m, m < tM T → d m ≤ 60
theorem DU.one {T : pT} {d d' : Nat → Nat} (h : DU T d) (h' : DU T d') : ∀ m, m < tM T → d m = d' m := fun m hm => by
  obtain ⟨k, hk⟩ := h.2.1 d' h'.1 m hm
  obtain ⟨k', hk'⟩ := h'.2.1 d h.1 m hm
  exact Nat.dvd_antisymm ⟨k, by rw [hk, Nat.mul_comm]⟩ ⟨k', by rw [hk', Nat.mul_comm]⟩
noncomputable def agB (T : pT) : Bool := @decide (∃ d, DU T d) (Classical.propDecidable _)
theorem agB_t {T : pT} : agB T = true ↔ ∃ d, DU T d := by
  unfold agB; exact @decide_eq_true_iff _ (Classical.propDecidable _)
theorem agB_f {T : pT} : agB T = false ↔ ¬ ∃ d, DU T d := by
  rw [← agB_t]; cases agB T <;> simp
/-- the smallest factor -/
def Tm (a r t : Nat) : Prop := 0 < t ∧ t ≤ r ∧ r ∣ a * t ∧ ∀ s, 0 < s → s < t → ¬ r ∣ a * s
theorem Tm.dv {a r t k : Nat} (h : Tm a r t) (hk : r ∣ a * k) : t ∣ k := by
  have e : k % t = 0 := by
    apply Classical.byContradiction
    intro n
    refine h.2.2.2 (k % t) (Nat.pos_of_ne_zero n) (Nat.mod_lt _ h.1) ?_
    have e2 : a * k = a * t * (k / t) + a * (k % t) := by rw [Nat.mul_assoc, ← Nat.mul_add, Nat.div_add_mod]
    rw [e2] at hk
    exact (Nat.dvd_add_right (Nat.dvd_trans h.2.2.1 (Nat.dvd_mul_right _ _))).mp hk
  exact Nat.dvd_of_mod_eq_zero e
def jD (D : Nat → Nat) (n m a rt t : Nat) : Nat → Nat := fun i => if i = m then a * t / rt else if n.testBit i = true then D i * t else D i
section RA
variable {l : Launch} {G : gw_G} {σ : gw_S}
theorem k_X4_joins {r n m a rt M : Nat} {D : Nat → Nat} (hr : gw_rates r) (hM : M ≤ 8) (h1 : σ.1 r 1 = nI M) (hD : ∀ i, i < M → σ.1 (r + 1) i = nI (D i) ∧ D i ≤ 60) (hn : n < 256) (hm : m < M) (hnm : n.testBit m = false) (ha : a ≤ 360) (hrt : 1 ≤ rt ∧ rt ≤ 6) : gw_M l G yX4_joins cX4_joins 7 (some .boolean) 0 [.ref (G.1 + r), .int (nI n), .int (nI m), .int (nI a), .int (nI rt)] σ (fz (fun q τ => ∃ t, Tm a rt t ∧ ∃ g, τ = gw_r σ (r + 1) g ∧ (q = true → ∀ i, i < M → g i = nI (jD D n m a rt t i) ∧ jD D n m a rt t i ≤ 60) ∧ (q = false → ∃ i, i < M ∧ 60 < jD D n m a rt t i))) := by
  refine gw_met (by decide) (Nat.le_of_ble_eq_true rfl) (fun x C hR hT => sg_X4_joins_0 C hR hT r _ _ _ _ hr σ ⟨fun _ => ?_, fun q => absurd ?_ q⟩)
  case refine_2 => rw [show (1 : Int32) = nI 1 from rfl, nI_le_iff (by omega) (by omega)]; omega
  have mult : ∀ t, Tm a rt t → ∀ d j, j + d = M → ∀ g : Nat → Int32, (∀ i, i < M → g i = nI (if i < j ∧ n.testBit i = true then D i * t else D i)) → (∀ i, i < j → n.testBit i = true → D i * t ≤ 60) → PW x G 7 37 [(0, .ref (G.1 + r)), (1, .int (nI n)), (2, .int (nI m)), (3, .int (nI a)), (4, .int (nI rt)), (5, .int (nI t)), (6, .int (nI j))] [] (gw_r σ (r + 1) g) := by
    intro t ht
    have ht6 : t ≤ 6 := Nat.le_trans ht.2.1 hrt.2
    have hat : a * t ≤ 360 * 6 := Nat.mul_le_mul ha ht6
    have hdv : a * t / rt ≤ a * t := Nat.div_le_self _ _
    intro d
    induction d with
    | zero =>
      intro j hj g hg hle
      refine sg_X4_joins_37 C hR hT r hr _ _ _ _ _ _ _ ⟨fun _ => ⟨nI_ne0 (by omega) (by omega), vp_in_nI (by omega) (by decide), ?_⟩, fun q => absurd ?_ q⟩
      · rintro τ rfl
        rw [nI_clamp (by omega), pk_mul, pk_div (by omega) (by omega) (by omega), gw_u_r, gw_r_at, pk_us, show (60 : Int32) = nI 60 from rfl, gif (Eq.to_iff (nI_lt_iff (a := 60) (b := a * t / rt) (by omega) (by omega)))]
        have hall : ∀ i, i < M → i ≠ m → upd g m (nI (a * t / rt)) i = nI (jD D n m a rt t i) ∧ jD D n m a rt t i ≤ 60 := fun i hi e => by
          rw [pk_un e, hg i hi]
          unfold jD
          rw [if_neg e]
          by_cases b : n.testBit i = true
          · rw [if_pos ⟨by omega, b⟩, if_pos b]; exact ⟨rfl, hle i (by omega) b⟩
          · rw [if_neg (fun z => b z.2), if_neg b]; exact ⟨rfl, (hD i hi).2⟩
        have hme : jD D n m a rt t m = a * t / rt := by unfold jD; rw [if_pos rfl]
        refine ⟨t, ht, _, rfl, fun q i hi => ?_, fun q => ⟨m, hm, ?_⟩⟩
        · by_cases e : i = m
          · rw [e, hme, pk_us]
            refine ⟨rfl, ?_⟩
            by_cases z : 60 < a * t / rt
            · rw [if_pos z] at q; cases q
            · omega
          · exact hall i hi e
        · rw [hme]
          by_cases z : 60 < a * t / rt
          · exact z
          · rw [if_neg z] at q; cases q
      · rw [gw_r_ne _ _ (by omega), h1, nI_le_iff (by omega) (by omega)]; omega
    | succ d ih =>
      intro j hj g hg hle
      have hd := (hD j (by omega)).2
      have hdt : D j * t ≤ 60 * 6 := Nat.mul_le_mul hd ht6
      refine sg_X4_joins_37 C hR hT r hr _ _ _ _ _ _ _ ⟨fun q => ?_, fun _ => ⟨vp_in_nI (by omega) (by decide), ?_⟩⟩
      · rw [gw_r_ne _ _ (by omega), h1, nI_le_iff (by omega) (by omega)] at q; omega
      · rintro τ rfl
        rw [nI_clamp (by omega), gw_u_r, gw_r_at, gw_r_at, pk_us, hg j (by omega), if_neg (fun z => by omega), nI_1]
        have hv : nI (D j) * (if ((nI n >>> (nI j &&& 31)) &&& 1) = 0 then 1 else nI t : Int32) = nI (if n.testBit j = true then D j * t else D j) := by
          by_cases b : n.testBit j = true
          · rw [if_neg (fun z => by rw [rb_t (by omega) (by omega), b] at z; cases z), if_pos b, pk_mul]
          · rw [if_pos ((rb_t (by omega) (by omega)).mpr (by simpa using b)), if_neg b, show (1 : Int32) = nI 1 from rfl, pk_mul, Nat.mul_one]
        rw [hv, show (60 : Int32) = nI 60 from rfl, nI_le_iff (by split <;> omega) (by omega)]
        refine ⟨fun q => ih (j + 1) (by omega) _ (fun i hi => ?_) (fun i hi hb => ?_), fun q => ?_⟩
        · by_cases e : i = j
          · subst e
            rw [pk_us]
            by_cases b : n.testBit i = true
            · rw [if_pos b, if_pos ⟨by omega, b⟩]
            · rw [if_neg b, if_neg (fun z => b z.2)]
          · rw [pk_un e, hg i hi]
            by_cases b : i < j ∧ n.testBit i = true
            · rw [if_pos b, if_pos ⟨by omega, b.2⟩]
            · rw [if_neg b, if_neg (fun z => b ⟨by omega, z.2⟩)]
        · by_cases e : i = j
          · subst e; rw [if_pos hb] at q; exact q
          · exact hle i (by omega) hb
        · refine ⟨t, ht, _, rfl, fun q => absurd q (by decide), fun _ => ⟨j, by omega, ?_⟩⟩
          by_cases b : n.testBit j = true
          · rw [if_pos b] at q
            unfold jD
            rw [if_neg (fun z => by rw [z, hnm] at b; cases b), if_pos b]; omega
          · rw [if_neg b] at q; omega
  have g0 : ∀ t j, PW x G 7 37 [(0, .ref (G.1 + r)), (1, .int (nI n)), (2, .int (nI m)), (3, .int (nI a)), (4, .int (nI rt)), (5, .int (nI t)), (6, .int (nI j))] [] (gw_r σ (r + 1) (σ.1 (r + 1))) → PW x G 7 37 [(0, .ref (G.1 + r)), (1, .int (nI n)), (2, .int (nI m)), (3, .int (nI a)), (4, .int (nI rt)), (5, .int (nI t)), (6, .int (nI j))] [] σ := fun t j h => by rw [gw_r_self] at h; exact h
  have fin : ∀ t, Tm a rt t → PW x G 7 37 [(0, .ref (G.1 + r)), (1, .int (nI n)), (2, .int (nI m)), (3, .int (nI a)), (4, .int (nI rt)), (5, .int (nI t)), (6, .int 0)] [] σ := fun t ht =>
    g0 t 0 (mult t ht M 0 (by omega) _ (fun i hi => by rw [if_neg (fun z => by omega)]; exact (hD i hi).1) (fun i hi => absurd hi (Nat.not_lt_zero i)))
  have key : ∀ d t, t + d = rt → 0 < t → (∀ s, 0 < s → s < t → ¬ rt ∣ a * s) → PW x G 7 11 [(0, .ref (G.1 + r)), (1, .int (nI n)), (2, .int (nI m)), (3, .int (nI a)), (4, .int (nI rt)), (5, .int (nI t))] [] σ := by
    intro d
    induction d with
    | zero =>
      intro t ht h0 hs
      refine sg_X4_joins_11 C hR hT r hr _ _ _ _ _ σ ⟨fun _ => fin t ⟨h0, by omega, by rw [show t = rt by omega]; exact Nat.dvd_mul_left _ _, hs⟩, fun q => absurd ?_ q⟩
      rw [nI_le_iff (by omega) (by omega)]; omega
    | succ d ih =>
      intro t ht h0 hs
      have hat : a * t ≤ 360 * 6 := Nat.mul_le_mul ha (by omega)
      refine sg_X4_joins_11 C hR hT r hr _ _ _ _ _ σ ⟨fun q => ?_, fun _ => ⟨nI_ne0 (by omega) (by omega), ?_⟩⟩
      · rw [nI_le_iff (by omega) (by omega)] at q; omega
      · have hmod : a * t % rt < rt := Nat.mod_lt _ (by omega)
        rw [pk_mul, pk_rem (by omega) (by omega) (by omega), nI_1, show (0 : Int32) = nI 0 from rfl, nI_eq_iff (by omega) (by omega)]
        refine ⟨fun q => fin t ⟨h0, by omega, Nat.dvd_of_mod_eq_zero q, hs⟩, fun q => ih (t + 1) (by omega) (by omega) (fun s h1 h2 => ?_)⟩
        by_cases e : s = t
        · subst e; exact fun z => q (Nat.mod_eq_zero_of_dvd z)
        · exact hs s h1 (by omega)
  exact key (rt - 1) 1 (by omega) (by omega) (fun s h1 h2 => by omega)
end RA
