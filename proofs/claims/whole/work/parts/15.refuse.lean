/-! methods that may throw: their contracts, refuse, and what a call of refuse is to its caller -/
def gw_Rx (d : Nat) : Room := { frames := d, cells := 1, slots := 6, locals := 30 * d }
def gw_XC (G : gw_G) (K : Nat → gw_S → Prop) : String → State → State → Prop := fun E st t => ∃ (i : Nat) (σ' : gw_S), ¬ i = 0 ∧ i < 4 ∧ E = gw_exn i ∧ K i σ' ∧ gw_P G σ' t.heap ∧ va_F (gw_A G) st t
def gw_MX (l : Launch) (G : gw_G) (y : MethodName) (bytes : ByteArray) (maxL : Nat) (rt : Option FieldType) (d : Nat) (as : List Value) (σ : gw_S) (Φ : Option Value → gw_S → Prop) (K : Nat → gw_S → Prop) : Prop :=
  vx_Met l y (.code y bytes maxL rt :: gw_tbl) (gw_Rx d) (gw_Pc G as σ) (gw_Q G Φ) (gw_XC G K) 1 6 (gw_A G)
def XE (x : gw_X) (G : gw_G) (Φ : Option Value → gw_S → Prop) (K : Nat → gw_S → Prop) : Prop := xQ x = vx_MQ (xb x) (gw_Q G Φ) (gw_XC G K) (xa x) (xs x) 1 6 (gw_A G) ∧ xk x = 0 ∧ xn x = 0
def gw_okX (x : gw_X) (D : Nat) : Prop := D ≤ (xR x).frames ∧ 30 * D ≤ (xR x).locals ∧ 1 ≤ (xR x).cells ∧ 6 ≤ (xR x).slots
theorem gw_okX.ok {x : gw_X} {G : gw_G} {Φ : Option Value → gw_S → Prop} {K : Nat → gw_S → Prop} {D : Nat} (h : gw_okX x D) (hX : XE x G Φ K) : gw_ok x D := ⟨h.1, h.2.1, by rw [hX.2.1]; exact Nat.zero_le _, by rw [hX.2.2]; exact Nat.zero_le _⟩
theorem gw_RT {x : gw_X} {G : gw_G} {Φ : Option Value → gw_S → Prop} {K : Nat → gw_S → Prop} (hX : XE x G Φ K) : RT x G Φ := by
  intro H locs g h T hT X
  obtain ⟨t, a1, o, b1, b2, b3, L, b4, b5⟩ := h T hT X
  refine ⟨t, a1, ?_⟩
  rw [hX.1]
  exact ⟨o, b1, b2, Or.inl ⟨b3, L, ⟨b4.1, b4.2.1, b4.2.2.mono (by rw [hX.2.1]; exact Nat.zero_le _) (by rw [hX.2.2]; exact Nat.zero_le _)⟩, b5⟩⟩
theorem gw_metX {l : Launch} {G : gw_G} {y : MethodName} {bytes : ByteArray} {maxL d : Nat} {rt : Option FieldType} {as : List Value} {σ : gw_S} {Φ : Option Value → gw_S → Prop} {K : Nat → gw_S → Prop} (hy : plainName y.cls = true) (ha : (lg_sl as).length ≤ maxL)
    (body : ∀ (x : gw_X), xl x = l → XC x G y.cls bytes maxL rt → gw_okX x d → (∀ z ∈ (xc x).exceptionTable.toList, False) → XE x G Φ K → PW x G maxL 0 (lv_args 0 as) [] σ) : gw_MX l G y bytes maxL rt d as σ Φ K := by
  refine vx_ofW (cc := bytes) (maxL := maxL) (ret := rt) hy rfl ?_
  intro p e s m args below meth c s₁ B hml hout hv
  obtain ⟨rfl, hP, hK⟩ := hv
  have hts := atoms_spec (ws := Cond.code y bytes maxL rt :: gw_tbl) B.pre
  have hown : s.vm.findClass y.cls = some m.cls := findClass_of_methodNamed B.named
  have hl := lv_entry as (n := maxL) ha
  rw [lg_entry_eq]
  exact body (p, l, e, gw_Rx d, s, m, as.toArray, below, meth, c, vx_MQ below (gw_Q G Φ) (gw_XC G K) as.toArray s 1 6 (gw_A G), 0, 0) rfl ⟨B.exec, B.bytes, hml, hown, fun w hw => hts w (List.mem_cons_of_mem _ hw), B.returns, B.notSynchronized, hK⟩ ⟨Nat.le_refl _, Nat.le_refl _, Nat.le_refl _, Nat.le_refl _⟩ hout ⟨rfl, rfl, rfl⟩ s.heap [] _ hP va_S.rf hl
/-- the chain above an exception -/
abbrev gw_ch : List String := ["java/lang/RuntimeException", "java/lang/Exception"]
theorem pw_throw {x : gw_X} {G : gw_G} {Φ : Option Value → gw_S → Prop} {K : Nat → gw_S → Prop} {cc : ByteArray} {nL pc : Nat} {ret : Option FieldType} {ls : List (Nat × Value)} {σ : gw_S} (C : XC x G RX7 cc nL ret) (hl : (xl x).stackTraces = false) (hR : gw_okX x 6) (hout : ∀ z ∈ (xc x).exceptionTable.toList, False) (hX : XE x G Φ K) {ik is ic i : Nat} {text : String} (hi0 : ¬ i = 0) (hi : i < 4) (hcls : Bundle.fit (gw_exn i) = true)
    (hk : Cond.classLink RX7 ik (gw_exn i) ∈ gw_tbl) (hini : Cond.initialized (gw_exn i) ∈ gw_tbl) (hstr : ∃ a, vk_R RX7 is text a (xs x)) (h1 : ∀ w ∈ (vx_atS RX7 ic (gw_exn i) gw_ch).filter goodWord, w ∈ gw_tbl) (h2 : ∀ w ∈ (vx_atS RX7 ic (gw_exn i) gw_ch).filter (fun w => !goodWord w), w ∈ gw_nst) (hgood : ∀ w ∈ Cond.classLink RX7 ik (gw_exn i) :: Cond.initialized (gw_exn i) :: vx_atS RX7 ic (gw_exn i) gw_ch, vx_ot w = true)
    (d0 : decode cc pc = .ok (.new ik, 3)) (d3 : decode cc (pc + 3) = .ok (.dup, 1)) (d4 : decode cc (pc + 4) = .ok (.ldc_w is, 3)) (d7 : decode cc (pc + 7) = .ok (.invokespecial ic, 3)) (d10 : decode cc (pc + 10) = .ok (.athrow, 1)) (hK : K i σ) : PW x G nL pc ls [] σ := by
  intro H locs arr hP hS hl'
  obtain ⟨a, ha⟩ := hstr
  have hW := C.2.2.2.2.1
  have hT := C.2.2.2.2.2.2.2.2.2.2.2.2
  have hN := C.2.2.2.2.2.2.2.2.2.2.2.1
  unfold xW
  rw [hX.1, hX.2.1, hX.2.2]
  refine vx_throwSW (A := gw_A G) (names := gw_ch) (own := RX7) (cls := gw_exn i) C.1 C.2.1 hl C.2.2.2.1 hcls (by decide) (hW _ hk) (hW _ hini) ha (vx_hat (B := gw_nst) (fun w hw => hW w (h1 w hw)) h2 (fun w hw => ?_)) hgood hT.2.2.2.1 hT.2.2.2.2.1 hS (hl'.1.trans C.2.2.1.symm) d0 d3 d4 d7 d10 (fun z hz => (hout z hz).elim) (Nat.lt_of_lt_of_le (by decide) hR.1) (Nat.le_trans (by decide) hR.2.1) hR.2.2.1 hR.2.2.2 C.2.2.2.2.2.2.1 (fun t hal hsz hq => ?_) hS.2.2 (by decide) (by decide)
  · refine (hN w hw).use ?_
    have hh := (List.mem_filter.mp hw).2
    cases w <;> first | rfl | (simp [gw_isN] at hh; done)
  · refine ⟨i, σ, hi0, hi, rfl, hK, hP.kept (fun k q hk => hq q.1 ((hP k q hk).lt)), Nat.le_trans hS.1 hsz, fun q h1 h2 => (hq q (Nat.lt_of_lt_of_le h1 hS.1)).trans (hS.2.1 q h1 h2)⟩
