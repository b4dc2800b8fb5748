/-! places in the reference's rows -/
theorem gc0 : (0 : Int32).toNatClampNeg = 0 := by decide
theorem gc1 : (1 : Int32).toNatClampNeg = 1 := by decide
theorem wx {i j : Nat} : (26 + 5 * nI i) + nI j = nI (26 + 5 * i + j) := by
  rw [show (26 : Int32) = nI 26 from rfl, show (5 : Int32) = nI 5 from rfl, pk_mul, nI_add, nI_add]
theorem mx {i j : Nat} : (2 + 3 * nI i) + nI j = nI (2 + 3 * i + j) := by
  rw [show (2 : Int32) = nI 2 from rfl, show (3 : Int32) = nI 3 from rfl, pk_mul, nI_add, nI_add]
theorem wc0 {i : Nat} (hi : i < 14) : ((26 + 5 * nI i) + 0 : Int32).toNatClampNeg = 26 + 5 * i + 0 := by
  rw [show (0 : Int32) = nI 0 from rfl, wx, nI_clamp (by omega)]
theorem wv0 {i : Nat} (hi : i < 14) : vp_in ((26 + 5 * nI i) + 0) 96 := by
  rw [show (0 : Int32) = nI 0 from rfl, wx]; exact vp_in_nI (by omega) (by decide)
theorem wc1 {i : Nat} (hi : i < 14) : ((26 + 5 * nI i) + 1 : Int32).toNatClampNeg = 26 + 5 * i + 1 := by
  rw [show (1 : Int32) = nI 1 from rfl, wx, nI_clamp (by omega)]
theorem wv1 {i : Nat} (hi : i < 14) : vp_in ((26 + 5 * nI i) + 1) 96 := by
  rw [show (1 : Int32) = nI 1 from rfl, wx]; exact vp_in_nI (by omega) (by decide)
theorem wc2 {i : Nat} (hi : i < 14) : ((26 + 5 * nI i) + 2 : Int32).toNatClampNeg = 26 + 5 * i + 2 := by
  rw [show (2 : Int32) = nI 2 from rfl, wx, nI_clamp (by omega)]
theorem wv2 {i : Nat} (hi : i < 14) : vp_in ((26 + 5 * nI i) + 2) 96 := by
  rw [show (2 : Int32) = nI 2 from rfl, wx]; exact vp_in_nI (by omega) (by decide)
theorem wc3 {i : Nat} (hi : i < 14) : ((26 + 5 * nI i) + 3 : Int32).toNatClampNeg = 26 + 5 * i + 3 := by
  rw [show (3 : Int32) = nI 3 from rfl, wx, nI_clamp (by omega)]
theorem wv3 {i : Nat} (hi : i < 14) : vp_in ((26 + 5 * nI i) + 3) 96 := by
  rw [show (3 : Int32) = nI 3 from rfl, wx]; exact vp_in_nI (by omega) (by decide)
theorem wc4 {i : Nat} (hi : i < 14) : ((26 + 5 * nI i) + 4 : Int32).toNatClampNeg = 26 + 5 * i + 4 := by
  rw [show (4 : Int32) = nI 4 from rfl, wx, nI_clamp (by omega)]
theorem wv4 {i : Nat} (hi : i < 14) : vp_in ((26 + 5 * nI i) + 4) 96 := by
  rw [show (4 : Int32) = nI 4 from rfl, wx]; exact vp_in_nI (by omega) (by decide)
theorem mc0 {i : Nat} (hi : i < 8) : ((2 + 3 * nI i) + 0 : Int32).toNatClampNeg = 2 + 3 * i + 0 := by
  show ((2 + 3 * nI i) + nI 0).toNatClampNeg = _
  rw [mx, nI_clamp (by omega)]
theorem mv0 {i : Nat} (hi : i < 8) : vp_in ((2 + 3 * nI i) + 0) 96 := by
  show vp_in ((2 + 3 * nI i) + nI 0) 96
  rw [mx]; exact vp_in_nI (by omega) (by decide)
theorem mc1 {i : Nat} (hi : i < 8) : ((2 + 3 * nI i) + 1 : Int32).toNatClampNeg = 2 + 3 * i + 1 := by
  show ((2 + 3 * nI i) + nI 1).toNatClampNeg = _
  rw [mx, nI_clamp (by omega)]
theorem mv1 {i : Nat} (hi : i < 8) : vp_in ((2 + 3 * nI i) + 1) 96 := by
  show vp_in ((2 + 3 * nI i) + nI 1) 96
  rw [mx]; exact vp_in_nI (by omega) (by decide)
theorem mc2 {i : Nat} (hi : i < 8) : ((2 + 3 * nI i) + 2 : Int32).toNatClampNeg = 2 + 3 * i + 2 := by
  show ((2 + 3 * nI i) + nI 2).toNatClampNeg = _
  rw [mx, nI_clamp (by omega)]
theorem mv2 {i : Nat} (hi : i < 8) : vp_in ((2 + 3 * nI i) + 2) 96 := by
  show vp_in ((2 + 3 * nI i) + nI 2) 96
  rw [mx]; exact vp_in_nI (by omega) (by decide)

section ML
variable {l : Launch} {G : gw_G} {σ : gw_S}
/-- a copy within or between rows -/
theorem k_X8_copy {k0 n0 k2 n2 a c n : Nat} (hk0 : gw_ia k0 n0) (hk2 : gw_ia k2 n2) (ha : a + n ≤ n0) (hc : c + n ≤ n2) (hn0 : n0 < 2 ^ 30) (hn2 : n2 < 2 ^ 30) (hov : k0 = k2 → c ≤ a) : gw_M l G yX8_copy cX8_copy 6 none 0 [.ref (G.1 + k0), .int (nI a), .ref (G.1 + k2), .int (nI c), .int (nI n)] σ (fv (fun τ => τ = gw_r σ k2 (va_cpy (σ.1 k0) (σ.1 k2) a c n))) := by
  refine gw_met (by decide) (Nat.le_of_ble_eq_true rfl) (fun x C hR hT => sg_X8_copy_0 C hR hT _ _ _ _ _ _ _ hk0 hk2 σ ?_)
  have key : ∀ d i, i + d = n → PW x G 6 3 [(0, .ref (G.1 + k0)), (1, .int (nI a)), (2, .ref (G.1 + k2)), (3, .int (nI c)), (4, .int (nI n)), (5, .int (nI i))] [] (gw_r σ k2 (va_cpy (σ.1 k0) (σ.1 k2) a c i)) := by
    intro d
    induction d with
    | zero =>
      intro i hi
      refine sg_X8_copy_3 C hR hT _ _ _ _ hk0 hk2 _ _ _ _ _ ⟨fun _ => by rw [show i = n by omega], fun q => absurd ?_ q⟩
      rw [nI_le_iff (by omega) (by omega)]; omega
    | succ d ih =>
      intro i hi
      refine sg_X8_copy_3 C hR hT _ _ _ _ hk0 hk2 _ _ _ _ _ ⟨fun q => ?_, fun _ => ?_⟩
      · rw [nI_le_iff (by omega) (by omega)] at q; omega
      · rw [nI_add, nI_add, nI_1, nI_clamp (by omega), nI_clamp (by omega)]
        refine ⟨vp_in_nI (by omega) (by omega), vp_in_nI (by omega) (by omega), ?_⟩
        rintro τ rfl
        have := ih (i + 1) (by omega)
        have e : gw_u (gw_r σ k2 (va_cpy (σ.1 k0) (σ.1 k2) a c i)) k2 (c + i) ((gw_r σ k2 (va_cpy (σ.1 k0) (σ.1 k2) a c i)).1 k0 (a + i)) = gw_r σ k2 (va_cpy (σ.1 k0) (σ.1 k2) a c (i + 1)) := by
          have ev : (gw_r σ k2 (va_cpy (σ.1 k0) (σ.1 k2) a c i)).1 k0 (a + i) = σ.1 k0 (a + i) := by
            by_cases h : k0 = k2
            · have := hov h
              subst h
              rw [gw_r_at, pk_cpy_out (by omega)]
            · rw [gw_r_ne _ _ h]
          rw [ev]
          refine Prod.ext (funext fun k' => ?_) rfl
          by_cases h : k' = k2
          · subst h
            rw [gw_r_at]
            funext j
            by_cases hj : j = c + i
            · subst hj
              rw [gw_u_at, pk_cpy_in (by omega) (by omega)]
              rw [show c + i - c = i by omega]
            · rw [gw_u_j _ _ _ hj, gw_r_at]
              by_cases h1 : c ≤ j ∧ j < c + i
              · rw [pk_cpy_in h1.1 h1.2, pk_cpy_in h1.1 (by omega)]
              · rw [pk_cpy_out (by omega), pk_cpy_out (by omega)]
          · rw [gw_u_k _ _ _ h, gw_r_ne _ _ h, gw_r_ne _ _ h]
        rw [e]
        exact this
  have h0 : gw_r σ k2 (va_cpy (σ.1 k0) (σ.1 k2) a c 0) = σ := by
    refine Prod.ext (funext fun k' => ?_) rfl
    by_cases h : k' = k2
    · subst h; rw [gw_r_at]; funext j; rw [pk_cpy_out (by omega)]
    · rw [gw_r_ne _ _ h]
  have := key n 0 (by omega)
  rw [h0] at this
  exact this
end ML
