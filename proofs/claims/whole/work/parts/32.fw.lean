/-! the reference's ways between all modules -/
abbrev FAR : Nat := 1000000
def MX (g : Nat → Int32) (R : Nat → Nat → Nat) : Prop := ∀ a c, a < 8 → c < 8 → g (8 * a + c) = nI (R a c)
def SD (T : pT) (B : Nat) (R : Nat → Nat → Nat) : Prop := ∀ a c, a < 8 → c < 8 → R a c ≤ FAR ∧ (R a c < FAR → ∃ l, l ≠ [] ∧ wl T B a l c ∧ wsum T l = R a c)
def CP (T : pT) (B : Nat) (R : Nat → Nat → Nat) (k : Nat) : Prop := ∀ a c l, a < 8 → c < 8 → l ≠ [] → wl T B a l c → (∀ i, 0 < i → i < l.length → vat T a l i < k) → R a c ≤ wsum T l
def uR (R : Nat → Nat → Nat) (a c v : Nat) : Nat → Nat → Nat := fun a' c' => if a' = a ∧ c' = c then v else R a' c'
theorem MX_u {g : Nat → Int32} {R : Nat → Nat → Nat} {a c v : Nat} (h : MX g R) (ha : a < 8) (hc : c < 8) : MX (upd g (8 * a + c) (nI v)) (uR R a c v) := by
  intro a' c' ha' hc'
  unfold uR
  by_cases e : a' = a ∧ c' = c
  · rw [if_pos e, e.1, e.2, pk_us]
  · rw [if_neg e, pk_un (by omega)]; exact h a' c' ha' hc'
theorem vat_take (T : pT) : ∀ (l : List Nat) (a i t : Nat), t ≤ i → vat T a (l.take i) t = vat T a l t
  | l, a, i, 0, _ => by cases l <;> cases i <;> rfl
  | [], a, i, t + 1, _ => by simp [vat]
  | w :: l, a, 0, t + 1, h => by omega
  | w :: l, a, i + 1, t + 1, h => by
    show vat T (tO T w) (l.take i) t = vat T (tO T w) l t
    exact vat_take T l _ i t (by omega)
theorem vat_drop (T : pT) : ∀ (l : List Nat) (a j t : Nat), j ≤ l.length → vat T (vat T a l j) (l.drop j) t = vat T a l (j + t)
  | l, a, 0, t, _ => by
    rw [Nat.zero_add]
    cases l <;> rfl
  | [], a, j + 1, t, h => by simp at h
  | w :: l, a, j + 1, t, h => by
    show vat T (vat T (tO T w) l j) (l.drop j) t = _
    rw [vat_drop T l _ j t (by simpa using h), show j + 1 + t = (j + t) + 1 by omega]
    rfl
theorem CP_step {T : pT} {B k : Nat} {R0 R : Nat → Nat → Nat} (hk : k < 8) (h0 : CP T B R0 k) (hle : ∀ a c, a < 8 → c < 8 → R a c ≤ R0 a c) (hp : ∀ a c, a < 8 → c < 8 → R a c ≤ R0 a k + R0 k c) : CP T B R (k + 1) := by
  intro a c l ha hc hl hw hi
  by_cases hex : ∃ i, 0 < i ∧ i < l.length ∧ vat T a l i = k
  · obtain ⟨i, ⟨hi0, hil, hik⟩, hif⟩ := pk_least (fun i => 0 < i ∧ i < l.length ∧ vat T a l i = k) hex
    obtain ⟨j', ⟨hj0, hjl, hjk⟩, hjf⟩ := pk_least (fun j' => 0 < l.length - j' ∧ 0 < j' ∧ vat T a l (l.length - j') = k) ⟨l.length - i, by omega, by omega, by rw [show l.length - (l.length - i) = i by omega]; exact hik⟩
    have hij : i ≤ l.length - j' := by
      rcases Nat.lt_or_ge (l.length - j') i with q | q
      · exact absurd ⟨hj0, by omega, hjk⟩ (hif _ q)
      · exact q
    have p1 := (wl_vat i hw (by omega)).1
    have p2 := (wl_vat (l.length - j') hw (by omega)).2
    rw [hik] at p1
    rw [hjk] at p2
    have l1 : (l.take i).length = i := by rw [List.length_take]; omega
    have l2 : (l.drop (l.length - j')).length = j' := by rw [List.length_drop]; omega
    have q1 := h0 a k (l.take i) ha hk (fun z => by rw [z] at l1; simp at l1; omega) p1 (fun t ht0 ht => by
      rw [l1] at ht
      rw [vat_take T l a i t (by omega)]
      have := hi t ht0 (by omega)
      have h9 := hif t ht
      rcases Nat.lt_or_ge (vat T a l t) k with q | q
      · exact q
      · exact absurd ⟨ht0, by omega, by omega⟩ h9)
    have q2 := h0 k c (l.drop (l.length - j')) hk hc (fun z => by rw [z] at l2; simp at l2; omega) p2 (fun t ht0 ht => by
      rw [l2] at ht
      have e := vat_drop T l a (l.length - j') t (by omega)
      rw [hjk] at e
      rw [e]
      have := hi (l.length - j' + t) (by omega) (by omega)
      have h9 := hjf (j' - t) (by omega)
      rcases Nat.lt_or_ge (vat T a l (l.length - j' + t)) k with q | q
      · exact q
      · exact absurd ⟨by omega, by omega, by rw [show l.length - (j' - t) = l.length - j' + t by omega]; omega⟩ h9)
    have hs : wsum T (l.take i) + wsum T (l.drop (l.length - j')) ≤ wsum T l := by
      have e : wsum T l = wsum T (l.take i) + (wsum T ((l.drop i).take (l.length - j' - i)) + wsum T (l.drop (l.length - j'))) := by
        rw [← wsum_app, ← wsum_app]
        congr 1
        have : l.drop (l.length - j') = (l.drop i).drop (l.length - j' - i) := by rw [List.drop_drop]; congr 1; omega
        rw [this, List.take_append_drop, List.take_append_drop]
      omega
    have := hp a c ha hc
    omega
  · refine Nat.le_trans (hle a c ha hc) (h0 a c l ha hc hl hw (fun i h1 h2 => ?_))
    have := hi i h1 h2
    rcases Nat.lt_or_ge (vat T a l i) k with q | q
    · exact q
    · exact absurd ⟨i, h1, h2, by omega⟩ hex
section FW
variable {l : Launch} {G : gw_G} {σ : gw_S} {k : Nat} {T : pT}
theorem k_X8_layWays {B : Nat} (hk : gw_ia k 96) (hk4 : k ≠ 204) (hp : RR (σ.1 k) T) (hv : VT T) (hB : B < 2 ^ 31) : gw_M l G yX8_layWays cX8_layWays 7 none 1 [.ref (G.1 + 189), .ref (G.1 + k), .int (nI B)] σ (fv (fun τ => ∃ g R, τ = gw_r σ 204 g ∧ MX g R ∧ SD T B R ∧ CP T B R 8)) := by
  have h8 := hv.1
  have h14 := hv.2.1
  have hF : FAR = 1000000 := rfl
  refine gw_met (by decide) (Nat.le_of_ble_eq_true rfl) (fun x C hR hT => sg_X8_layWays_0 C hR hT k _ hk σ ?_)
  -- the innermost loop
  have in2 : ∀ (R0 : Nat → Nat → Nat) (m a : Nat), m < 8 → a < 8 → (∀ R g, MX g R → SD T B R → (∀ a' c', a' < 8 → c' < 8 → R a' c' ≤ R0 a' c') → (∀ a' c', a' < a + 1 → c' < 8 → R a' c' ≤ R0 a' m + R0 m c') → PW x G 7 132 [(0, .ref (G.1 + 189)), (1, .ref (G.1 + k)), (2, .int (nI B)), (3, .int (nI m)), (4, .int (nI (a + 1)))] [] (gw_r σ 204 g)) →
      ∀ d c, c + d = 8 → ∀ R g, MX g R → SD T B R → (∀ a' c', a' < 8 → c' < 8 → R a' c' ≤ R0 a' c') → (∀ a' c', a' < a → c' < 8 → R a' c' ≤ R0 a' m + R0 m c') → (∀ c', c' < c → R a c' ≤ R0 a m + R0 m c') → PW x G 7 142 [(0, .ref (G.1 + 189)), (1, .ref (G.1 + k)), (2, .int (nI B)), (3, .int (nI m)), (4, .int (nI a)), (5, .int (nI c))] [] (gw_r σ 204 g) := by
    intro R0 m a hm ha hcont d
    induction d with
    | zero =>
      intro c hc R g hM hS hL hA hC
      refine sg_X8_layWays_142 C hR hT k hk _ _ _ _ _ ⟨fun _ => ?_, fun q => absurd ?_ q⟩
      · rw [nI_1]
        refine hcont R g hM hS hL (fun a' c' h1 h2 => ?_)
        rcases Nat.lt_or_ge a' a with q | q
        · exact hA a' c' q h2
        · rw [show a' = a by omega]; exact hC c' (by omega)
      · rw [show (8 : Int32) = nI 8 from rfl, nI_le_iff (by decide) (by omega)]; omega
    | succ d ih =>
      intro c hc R g hM hS hL hA hC
      have e1 : (8 * nI a) + nI m = nI (8 * a + m) := by rw [show (8 : Int32) = nI 8 from rfl, pk_mul, nI_add]
      have e2 : (8 * nI m) + nI c = nI (8 * m + c) := by rw [show (8 : Int32) = nI 8 from rfl, pk_mul, nI_add]
      have e3 : (8 * nI a) + nI c = nI (8 * a + c) := by rw [show (8 : Int32) = nI 8 from rfl, pk_mul, nI_add]
      obtain ⟨s1, t1⟩ := hS a m ha hm
      obtain ⟨s2, t2⟩ := hS m c hm (by omega)
      obtain ⟨s3, t3⟩ := hS a c ha (by omega)
      refine sg_X8_layWays_142 C hR hT k hk _ _ _ _ _ ⟨fun q => ?_, fun _ => ?_⟩
      · rw [show (8 : Int32) = nI 8 from rfl, nI_le_iff (by decide) (by omega)] at q; omega
      · rw [e1, e2, e3, nI_clamp (by omega), nI_clamp (by omega), nI_clamp (by omega), gw_r_at, hM a m ha hm, hM m c hm (by omega), hM a c ha (by omega), nI_add, nI_1]
        refine ⟨vp_in_nI (by omega) (by decide), vp_in_nI (by omega) (by decide), vp_in_nI (by omega) (by decide), ?_⟩
        rintro τ rfl
        rw [gw_u_r]
        have hnew : (if nI (R a c) ≤ nI (R a m + R m c) then nI (R a c) else nI (R a m + R m c)) = nI (if R a c ≤ R a m + R m c then R a c else R a m + R m c) := by
          rw [gif (nI_leI (a := R a c) (b := R a m + R m c) (by omega) (by omega))]
          split <;> rfl
        rw [hnew]
        have hle : ∀ a' c', a' < 8 → c' < 8 → uR R a c (if R a c ≤ R a m + R m c then R a c else R a m + R m c) a' c' ≤ R a' c' := by
          intro a' c' _ _
          unfold uR
          split
          · rename_i e; rw [e.1, e.2]; split <;> omega
          · exact Nat.le_refl _
        refine ih (c + 1) (by omega) _ _ (MX_u hM ha (by omega)) ?_ (fun a' c' h1 h2 => Nat.le_trans (hle a' c' h1 h2) (hL a' c' h1 h2)) (fun a' c' h1 h2 => Nat.le_trans (hle a' c' (by omega) h2) (hA a' c' h1 h2)) (fun c' hc' => ?_)
        · intro a' c' h1 h2
          unfold uR
          by_cases e : a' = a ∧ c' = c
          · rw [if_pos e, e.1, e.2]
            by_cases hle2 : R a c ≤ R a m + R m c
            · rw [if_pos hle2]; exact ⟨s3, t3⟩
            · rw [if_neg hle2]
              refine ⟨by omega, fun _ => ?_⟩
              obtain ⟨l1, n1, w1, u1⟩ := t1 (by omega)
              obtain ⟨l2, n2, w2, u2⟩ := t2 (by omega)
              exact ⟨l1 ++ l2, by simp [n1], wl_app w1 w2, by rw [wsum_app, u1, u2]⟩
          · rw [if_neg e]; exact hS a' c' h1 h2
        · by_cases e : c' = c
          · subst e
            have k1 := hL a m ha hm
            have k2 := hL m c' hm (by omega)
            show (if a = a ∧ c' = c' then _ else _) ≤ _
            rw [if_pos ⟨rfl, rfl⟩]
            split <;> omega
          · exact Nat.le_trans (hle a c' ha (by omega)) (hC c' (by omega))
  have in1 : ∀ (R0 : Nat → Nat → Nat) (m : Nat), m < 8 → (∀ R g, MX g R → SD T B R → (∀ a' c', a' < 8 → c' < 8 → R a' c' ≤ R0 a' c') → (∀ a' c', a' < 8 → c' < 8 → R a' c' ≤ R0 a' m + R0 m c') → PW x G 7 123 [(0, .ref (G.1 + 189)), (1, .ref (G.1 + k)), (2, .int (nI B)), (3, .int (nI (m + 1)))] [] (gw_r σ 204 g)) →
      ∀ d a, a + d = 8 → ∀ R g, MX g R → SD T B R → (∀ a' c', a' < 8 → c' < 8 → R a' c' ≤ R0 a' c') → (∀ a' c', a' < a → c' < 8 → R a' c' ≤ R0 a' m + R0 m c') → PW x G 7 132 [(0, .ref (G.1 + 189)), (1, .ref (G.1 + k)), (2, .int (nI B)), (3, .int (nI m)), (4, .int (nI a))] [] (gw_r σ 204 g) := by
    intro R0 m hm hcont d
    induction d with
    | zero =>
      intro a ha R g hM hS hL hA
      refine sg_X8_layWays_132 C hR hT k hk _ _ _ _ ⟨fun _ => ?_, fun q => absurd ?_ q⟩
      · rw [nI_1]; exact hcont R g hM hS hL (fun a' c' h1 h2 => hA a' c' (by omega) h2)
      · rw [show (8 : Int32) = nI 8 from rfl, nI_le_iff (by decide) (by omega)]; omega
    | succ d ih =>
      intro a ha R g hM hS hL hA
      refine sg_X8_layWays_132 C hR hT k hk _ _ _ _ ⟨fun q => ?_, fun _ => ?_⟩
      · rw [show (8 : Int32) = nI 8 from rfl, nI_le_iff (by decide) (by omega)] at q; omega
      · exact in2 R0 m a hm (by omega) (fun R' g' h1 h2 h3 h4 => ih (a + 1) (by omega) R' g' h1 h2 h3 h4) 8 0 (by omega) R g hM hS hL hA (fun c' hc' => absurd hc' (Nat.not_lt_zero _))
  have out : ∀ d m, m + d = 8 → ∀ R g, MX g R → SD T B R → CP T B R m → PW x G 7 123 [(0, .ref (G.1 + 189)), (1, .ref (G.1 + k)), (2, .int (nI B)), (3, .int (nI m))] [] (gw_r σ 204 g) := by
    intro d
    induction d with
    | zero =>
      intro m hm R g hM hS hC
      refine sg_X8_layWays_123 C hR hT k hk _ _ _ ⟨fun _ => ⟨g, R, rfl, hM, hS, by rw [show 8 = m by omega]; exact hC⟩, fun q => absurd ?_ q⟩
      rw [show (8 : Int32) = nI 8 from rfl, nI_le_iff (by decide) (by omega)]; omega
    | succ d ih =>
      intro m hm R g hM hS hC
      refine sg_X8_layWays_123 C hR hT k hk _ _ _ ⟨fun q => ?_, fun _ => ?_⟩
      · rw [show (8 : Int32) = nI 8 from rfl, nI_le_iff (by decide) (by omega)] at q; omega
      · exact in1 R m (by omega) (fun R' g' h1 h2 h3 h4 => ih (m + 1) (by omega) R' g' h1 h2 (CP_step (by omega) hC h3 h4)) 8 0 (by omega) R g hM hS (fun _ _ _ _ => Nat.le_refl _) (fun a' c' h => absurd h (Nat.not_lt_zero _))
  -- the wires are laid in
  have mid : ∀ d i, i + d = tW T → ∀ R g, MX g R → SD T B R → (∀ w, w < i → tH T w ≤ B → R (tF T w) (tO T w) ≤ tH T w) → PW x G 7 24 [(0, .ref (G.1 + 189)), (1, .ref (G.1 + k)), (2, .int (nI B)), (3, .int (nI i))] [] (gw_r σ 204 g) := by
    intro d
    induction d with
    | zero =>
      intro i hi R g hM hS hC
      refine sg_X8_layWays_24 C hR hT k hk _ _ _ ⟨fun _ => ?_, fun q => absurd ?_ q⟩
      · refine out 8 0 (by omega) R g hM hS (fun a c l ha hc hl hw hin => ?_)
        cases l with
        | nil => exact absurd rfl hl
        | cons w l =>
          cases l with
          | nil =>
            obtain ⟨h1, h2, h3, h4⟩ := hw
            have h4 : tO T w = c := h4
            have := hC w (by omega) h2
            rw [h3, h4] at this
            simp only [wsum]; omega
          | cons w2 l => exact absurd (hin 1 (by omega) (by simp)) (Nat.not_lt_zero _)
      · rw [gc1, gw_r_ne _ _ hk4, hp.2.1, nI_le_iff (by omega) (by omega)]; omega
    | succ d ih =>
      intro i hi R g hM hS hC
      have hiT : i < tW T := by omega
      obtain ⟨r1, r2, r3, r4, r5⟩ := hp.2.2.2 i hiT
      obtain ⟨h1, h2, h3, h4, h5, h6, h7⟩ := hv.2.2.2 i hiT
      have e3 : (8 * nI (tF T i)) + nI (tO T i) = nI (8 * tF T i + tO T i) := by rw [show (8 : Int32) = nI 8 from rfl, pk_mul, nI_add]
      have hin : vp_in (nI (8 * tF T i + tO T i)) 64 := vp_in_nI (by omega) (by decide)
      obtain ⟨s3, t3⟩ := hS (tF T i) (tO T i) (by omega) (by omega)
      refine sg_X8_layWays_24 C hR hT k hk _ _ _ ⟨fun q => ?_, fun _ => ⟨wv0 (by omega), wv1 (by omega), wv4 (by omega), ?_⟩⟩
      · rw [gc1, gw_r_ne _ _ hk4, hp.2.1, nI_le_iff (by omega) (by omega)] at q; omega
      · rw [wc0 (by omega), wc1 (by omega), wc4 (by omega), gw_r_ne _ _ hk4, show 26 + 5 * i + 0 = 26 + 5 * i from rfl, r1, r2, r5, e3, nI_clamp (by omega), gw_r_at, hM _ _ (by omega) (by omega), nI_1]
        refine ⟨⟨fun _ => trivial, fun _ => ⟨hin, trivial⟩⟩, ⟨fun _ => ⟨hin, trivial⟩, fun _ => trivial⟩, hin, ?_⟩
        rintro τ rfl
        rw [gw_u_r]
        have hnew : (if (if nI B < nI (tH T i) then false else (if nI (R (tF T i) (tO T i)) ≤ nI (tH T i) then false else true : Bool) : Bool) = false then nI (R (tF T i) (tO T i)) else nI (tH T i)) = nI (if tH T i ≤ B ∧ tH T i < R (tF T i) (tO T i) then tH T i else R (tF T i) (tO T i)) := by
          by_cases q1 : tH T i ≤ B
          · rw [if_neg (show ¬ nI B < nI (tH T i) by rw [nI_lt_iff (by omega) (by omega)]; omega)]
            by_cases q2 : tH T i < R (tF T i) (tO T i)
            · rw [if_neg (show ¬ nI (R (tF T i) (tO T i)) ≤ nI (tH T i) by rw [nI_le_iff (by omega) (by omega)]; omega), if_neg (show ¬ (true = false) by decide), if_pos ⟨q1, q2⟩]
            · rw [if_pos (show nI (R (tF T i) (tO T i)) ≤ nI (tH T i) by rw [nI_le_iff (by omega) (by omega)]; omega), if_pos (show false = false from rfl), if_neg (fun z => q2 z.2)]
          · rw [if_pos (show nI B < nI (tH T i) by rw [nI_lt_iff (by omega) (by omega)]; omega), if_pos (show false = false from rfl), if_neg (fun z => q1 z.1)]
        rw [hnew]
        refine ih (i + 1) (by omega) _ _ (MX_u hM (by omega) (by omega)) ?_ (fun w hw hwB => ?_)
        · intro a' c' g1 g2
          unfold uR
          by_cases e : a' = tF T i ∧ c' = tO T i
          · rw [if_pos e, e.1, e.2]
            by_cases q : tH T i ≤ B ∧ tH T i < R (tF T i) (tO T i)
            · rw [if_pos q]
              exact ⟨by omega, fun _ => ⟨[i], by simp, ⟨hiT, q.1, rfl, rfl⟩, rfl⟩⟩
            · rw [if_neg q]; exact ⟨s3, t3⟩
          · rw [if_neg e]; exact hS a' c' g1 g2
        · unfold uR
          by_cases e : tF T w = tF T i ∧ tO T w = tO T i
          · rw [if_pos e]
            by_cases ew : w = i
            · subst ew; split <;> omega
            · have := hC w (by omega) hwB
              rw [e.1, e.2] at this
              split <;> omega
          · rw [if_neg e]
            exact hC w (by
              rcases Nat.lt_or_ge w i with q | q
              · exact q
              · exact absurd (show tF T w = tF T i ∧ tO T w = tO T i by rw [show w = i by omega]; exact ⟨rfl, rfl⟩) e) hwB
  have ini : ∀ d i, i + d = 64 → ∀ g, (∀ j, j < i → g j = nI FAR) → PW x G 7 2 [(0, .ref (G.1 + 189)), (1, .ref (G.1 + k)), (2, .int (nI B)), (3, .int (nI i))] [] (gw_r σ 204 g) := by
    intro d
    induction d with
    | zero =>
      intro i hi g hg
      refine sg_X8_layWays_2 C hR hT k hk _ _ _ ⟨fun _ => ?_, fun q => absurd ?_ q⟩
      · exact mid (tW T) 0 (by omega) (fun _ _ => FAR) g (fun a c ha hc => hg _ (by omega)) (fun a c _ _ => ⟨Nat.le_refl _, fun h => absurd h (Nat.lt_irrefl _)⟩) (fun w hw => absurd hw (Nat.not_lt_zero _))
      · rw [show (64 : Int32) = nI 64 from rfl, nI_le_iff (by decide) (by omega)]; omega
    | succ d ih =>
      intro i hi g hg
      refine sg_X8_layWays_2 C hR hT k hk _ _ _ ⟨fun q => ?_, fun _ => ⟨vp_in_nI (by omega) (by decide), ?_⟩⟩
      · rw [show (64 : Int32) = nI 64 from rfl, nI_le_iff (by decide) (by omega)] at q; omega
      · rintro τ rfl
        rw [nI_clamp (by omega), gw_u_r, nI_1]
        refine ih (i + 1) (by omega) _ (fun j hj => ?_)
        by_cases e : j = i
        · subst e; rw [pk_us]; rfl
        · rw [pk_un e]; exact hg j (by omega)
  have := ini 64 0 (by omega) (σ.1 204) (fun j hj => absurd hj (Nat.not_lt_zero _))
  rw [gw_r_self] at this
  exact this
end FW
theorem vat_lt8 {T : pT} {B : Nat} (hv : VT T) {l : List Nat} {a c : Nat} (h : wl T B a l c) (hl : l ≠ []) : ∀ i, 0 < i → i < l.length → vat T a l i < 8 := by
  cases l with
  | nil => exact absurd rfl hl
  | cons w l =>
    intro i hi0 hi
    have h8 := hv.1
    obtain ⟨j, rfl⟩ : ∃ j, i = j + 1 := ⟨i - 1, by omega⟩
    have := vat_lt hv h.2.2.2 (hv.2.2.2 w h.1).2.1 j (by simp at hi; omega)
    exact Nat.lt_of_lt_of_le this h8
/-- what the reference's ways say -/
theorem FW_lt {T : pT} (hv : VT T) {B : Nat} {R : Nat → Nat → Nat} (hS : SD T B R) (hC : CP T B R 8) {a c : Nat} (ha : a < 8) (hc : c < 8) : R a c < FAR ↔ Rp T B a c := by
  constructor
  · intro h
    obtain ⟨l, h1, h2, -⟩ := (hS a c ha hc).2 h
    exact ⟨l, h1, h2⟩
  · rintro ⟨l, h1, h2⟩
    obtain ⟨l', q1, q2, q3, -⟩ := Rp_short hv h1 h2
    have h10 := hC a c l' ha hc q1 q2 (vat_lt8 hv q2 q1)
    have h9 : wsum T l' ≤ 7992 := by
      have h5 : wl T 999 a l' c := by
        have : ∀ (l : List Nat) (a : Nat), wl T B a l c → wl T 999 a l c := by
          intro l
          induction l with
          | nil => intro a h; exact h
          | cons w l ih => intro a h; exact ⟨h.1, (hv.2.2.2 w h.1).2.2.2.2.2.2, h.2.2.1, ih _ h.2.2.2⟩
        exact this l' a q2
      have h6 := wsum_le h5
      have h7 := hv.1
      exact Nat.le_trans h6 (Nat.le_trans (Nat.mul_le_mul_right 999 (Nat.le_trans q3 h7)) (by decide))
    exact Nat.lt_of_le_of_lt (Nat.le_trans h10 h9) (by decide)
