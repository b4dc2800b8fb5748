/-! the law's wrappers: a call that may throw, caught; their contracts -/
/-- the body, when more cells and slots were made -/
def xup (x : gw_X) (k n : Nat) : gw_X := (xp x, xl x, xe x, xR x, xs x, xm x, xa x, xb x, xM x, xc x, xQ x, xk x + k, xn x + n)
section LW
variable {x : gw_X} {G : gw_G} {nL pc : Nat} {own : String} {cc : ByteArray} {ret : Option FieldType} {ls : List (Nat × Value)} {st : List Value} {σ : gw_S}
theorem XC.up (C : XC x G own cc nL ret) (k n : Nat) : XC (xup x k n) G own cc nL ret := C
/-- the exception gw_exn i stands over the frame -/
def EW (x : gw_X) (G : gw_G) (nL pc : Nat) (ls : List (Nat × Value)) (i : Nat) (σ : gw_S) : Prop :=
  ∀ (H : Heap) (locs : List Loc) (arr : Array Slot) (st : List Value) (q : Addr) (ce : Cell), gw_P G σ H → va_S (gw_A G) (xs x).heap H locs → lv_has arr nL ls → H[q]? = some ce → ce.vm = .none → (xs x).vm.findClass (gw_exn i) = some ce.cls →
    vx_W (xp x) (xl x) (xe x) (xR x) (xs x) (xm x) (xa x) (xb x) (xM x) (xc x) H locs (xk x) (xn x) (xQ x) (F0 (xm x) pc arr st) q
theorem va_Sgo {A : Nat → Prop} {H0 H H1 : Heap} {locs L : List Loc} (hS : va_S A H0 H locs) (hz : H.size ≤ H1.size) (hk : ∀ q : Nat, q < H.size → ¬ A q → H1[q]? = H[q]?) (hL : ∀ q ∈ L, A q.base) : va_S A H0 H1 (locs ++ L) :=
  ⟨Nat.le_trans hS.1 hz, fun q h1 h2 => by rw [hk q (Nat.lt_of_lt_of_le h1 hS.1) h2]; exact hS.2.1 q h1 h2, fun q hq => by
    rcases List.mem_append.mp hq with h | h
    · exact hS.2.2 q h
    · exact hL q h⟩
theorem pw_callVX (C : XC x G own cc nL ret) {y : MethodName} {bytes : ByteArray} {maxL index d n k nn ci : Nat} {As : List Value} {t : List (Option Nat)} {Φ : Int32 → gw_S → Prop} {K : Nat → gw_S → Prop} (hd : decode cc pc = .ok (.invokevirtual index, 3)) (hM : gw_MX (xl x) G y bytes maxL (some .int) d (.ref (G.1 + k) :: As) σ (fi Φ) K) (hy : gw_MV y bytes maxL (some .int) n) (hw : Cond.methodLink own index y ∈ gw_tbl) (hn : As.length = n) {D : Nat} (hf : D ≤ (xR x).frames ∧ 30 * D ≤ (xR x).locals) (hroom : xk x + 1 ≤ (xR x).cells ∧ xn x + 6 ≤ (xR x).slots) (hdD : d + 1 ≤ D) (hmL : maxL ≤ 11) (hci : ci < 8) (hcn : (gw_cw ci).1 = y.cls) (hk : k < gw_n) (hkd : gw_kd k = (ci + 5, nn, t)) {st0 : List Value} (hst : st0 = As.reverse ++ .ref (G.1 + k) :: st) (h8 : (st.map fun v => v.category).sum ≤ 8)
    (kr : ∀ (r : Int32) (σ' : gw_S), Φ r σ' → PW (xup x 1 6) G nL (pc + 3) ls (.int r :: st) σ') (kx : ∀ (i : Nat) (σ' : gw_S), ¬ i = 0 → i < 4 → K i σ' → EW (xup x 1 6) G nL pc ls i σ') : PW x G nL pc ls st0 σ := by
  intro H locs arr hP hS hl T hT X
  have hW := C.2.2.2.2.1
  have hv := va_recv C.2.2.2.2.2.2.2.1 hP (gw_cvw ci hci) (q0 := k) ((gw_at G σ hk).trans (by rw [gw_ct5 hkd]))
  rw [hcn] at hv
  have hr := vx_runV (p := xp x) (l := xl x) (e := xe x) (R := xR x) (below := xb x) (meth := xM x) (H := H) (locs := locs) (cells := xk x) (slots := xn x) (C := y.cls) (bytes := bytes) (maxL := maxL) (ret := some .int) (n := n) (index := index) (As := As) (b := G.1 + k) (rest := st) (g := F0 (xm x) pc arr st0) ⟨C.1, C.2.1, C.2.2.1, C.2.2.2.1, hW⟩ hM ⟨callB_of n hW (gw_good hy.1) rfl rfl rfl (hW _ hy.2.2.2.1) (hW _ hw) hy.2.2.2.2 ⟨Nat.le_trans hdD hf.1, by have := hf.2; show 8 + (maxL + 11) + 30 * d ≤ _; omega⟩, hW _ hy.2.1, hW _ hy.2.2.1⟩ ⟨gw_blind, hv, fun U hU hW9 => ⟨rfl, by rw [hU]; exact hP, C.2.2.2.2.2.2.2.go hW9 hU hS⟩⟩ rfl hn hl.1 hst (lv_room h8) hd hroom
  rcases hr T hT X with ⟨v, st₀, t, T', L, h0, X', hL, e1, e2, ⟨⟨v', σ', hv', ⟨r, rfl, hp⟩, hb⟩, hz, hk9⟩, st'⟩ | ⟨q, st₀, t, T', L, E, ce, h0, X', hL, e1, e2, ⟨i, σ', hi0, hi4, rfl, hK, hPt, hz, hk9⟩, hce, hcv, hcl, st'⟩
  · cases hv'
    rw [h0] at hz hk9
    obtain ⟨t2, a1, b1⟩ := kr r σ' hp T'.heap (locs ++ L) arr (by rw [e1]; exact hb) (va_Sgo hS (by rw [e1]; exact hz) (fun q h1 h2 => by rw [e1]; exact hk9 q h1 h2) hL) hl T' rfl X'
    exact ⟨t2, st' t2 a1, b1⟩
  · rw [h0] at hz hk9
    obtain ⟨t2, a1, b1⟩ := kx i σ' hi0 hi4 hK T'.heap (locs ++ L) arr st q ce (by rw [e1]; exact hPt) (va_Sgo hS (by rw [e1]; exact hz) (fun q h1 h2 => by rw [e1]; exact hk9 q h1 h2) hL) hl (by rw [e1]; exact hce) hcv hcl T' rfl X'
    exact ⟨t2, st'.trans a1, b1⟩
theorem ew_catch (C : XC x G own cc nL ret) {i : Nat} (pre : List ExceptionTableEntry) (en : ExceptionTableEntry) (suf : List ExceptionTableEntry) (hsplit : (xc x).exceptionTable.toList = pre ++ en :: suf) (hpass : ∀ z ∈ pre, z.catchType ≠ 0 ∧ ∃ j, 0 < j ∧ j < 4 ∧ ¬ i = j ∧ Cond.classLink own z.catchType (gw_exn j) ∈ gw_tbl) (hx : covers en pc = true) (h0 : en.catchType ≠ 0) (hlink : Cond.classLink own en.catchType (gw_exn i) ∈ gw_tbl) (hcast : Cond.castable (gw_exn i) (gw_exn i) ∈ gw_nst) (hi0 : ¬ i = 0) (hi : i < 4) (k : ∀ q : Nat, PW x G nL en.handlerPc ls [.ref q] σ) : EW x G nL pc ls i σ := by
  intro H locs arr st q ce hP hS hl hce hcv hcl
  have hT := C.2.2.2.2.2.2.2.2.2.2.2.2
  have hN := C.2.2.2.2.2.2.2.2.2.2.2.1
  exact vx_catch (own := own) (name := gw_exn i) (E := gw_exn i) C.2.2.2.1 pre en suf hsplit (fun z hz => by
    obtain ⟨z0, j, j0, j4, jn, hj⟩ := hpass z hz
    exact Or.inr ⟨z0, gw_exn j, C.2.2.2.2.1 _ hj, hT.2.2.2.2.2 i j (by omega) hi j0 j4 jn⟩) hx h0 (C.2.2.2.2.1 _ hlink) ((hN _ hcast).use rfl) hce hcv hcl (k q H locs arr hP hS hl)
end LW
/-- a wrapper's contract: it returns; one cell may come -/
def gw_MH (l : Launch) (G : gw_G) (y : MethodName) (bytes : ByteArray) (maxL : Nat) (hh : List (Nat × Nat × Nat × Nat)) (d : Nat) (as : List Value) (σ : gw_S) (Φ : Option Value → gw_S → Prop) : Prop :=
  vx_Met l y (.codeWith y bytes maxL (some .int) hh :: gw_tbl) (gw_Rx d) (gw_Pc G as σ) (gw_Q G Φ) (gw_XC G (fun _ _ => False)) 1 6 (gw_A G)
theorem gw_metH {l : Launch} {G : gw_G} {y : MethodName} {bytes : ByteArray} {maxL d : Nat} {hh : List (Nat × Nat × Nat × Nat)} {as : List Value} {σ : gw_S} {Φ : Option Value → gw_S → Prop} (hy : plainName y.cls = true) (ha : (lg_sl as).length ≤ maxL)
    (body : ∀ (x : gw_X), xl x = l → XC x G y.cls bytes maxL (some .int) → gw_okX x d → (xc x).exceptionTable.toList = tableOf hh → XE x G Φ (fun _ _ => False) → PW x G maxL 0 (lv_args 0 as) [] σ) : gw_MH l G y bytes maxL hh d as σ Φ := by
  refine vx_ofWH (cc := bytes) (maxL := maxL) (ret := some .int) (hh := hh) hy rfl ?_
  intro p e s m args below meth c s₁ B hml hv
  obtain ⟨rfl, hP, hK⟩ := hv
  have hts := atoms_spec (ws := Cond.codeWith y bytes maxL (some .int) hh :: gw_tbl) B.pre
  have hown : s.vm.findClass y.cls = some m.cls := findClass_of_methodNamed B.named
  have hl := lv_entry as (n := maxL) ha
  rw [lg_entry_eq]
  exact body (p, l, e, gw_Rx d, s, m, as.toArray, below, meth, c, vx_MQ below (gw_Q G Φ) (gw_XC G (fun _ _ => False)) as.toArray s 1 6 (gw_A G), 0, 0) rfl ⟨B.exec, B.bytes, hml, hown, fun w hw => hts w (List.mem_cons_of_mem _ hw), B.returns, B.notSynchronized, hK⟩ ⟨Nat.le_refl _, Nat.le_refl _, Nat.le_refl _, Nat.le_refl _⟩ (vx_table (x := y) B (hts _ List.mem_cons_self)) ⟨rfl, rfl, rfl⟩ s.heap [] _ hP va_S.rf hl
theorem gw_RTu {x : gw_X} {G : gw_G} {Φ : Option Value → gw_S → Prop} {K : Nat → gw_S → Prop} (hX : XE x G Φ K) : RT (xup x 1 6) G Φ := by
  intro H locs g h T hT X
  obtain ⟨t, a1, o, b1, b2, b3, b4⟩ := h T hT X
  refine ⟨t, a1, ?_⟩
  show xQ x t
  rw [hX.1]
  have e1 : xk (xup x 1 6) = 1 := by show xk x + 1 = 1; rw [hX.2.1]
  have e2 : xn (xup x 1 6) = 6 := by show xn x + 6 = 6; rw [hX.2.2]
  rw [e1, e2] at b4
  exact ⟨o, b1, b2, Or.inl ⟨b3, b4⟩⟩
/-- what a wrapper leaves -/
def wL (L : List Nat) (F : aF) (σ : gw_S) : Int32 → gw_S → Prop := fun r τ => r = nI (mp L F.1) ∧ (F.1 = 0 → τ.2 206 0 = F.2.1.toInt64) ∧ CI τ F.2.2 ∧ ∀ k, 189 ≤ k → τ.1 k = σ.1 k
theorem CI.l2 {σ τ : gw_S} {A : aS} (h : CI σ A) (e : τ.1 = σ.1) : CI τ A := by
  obtain ⟨a, b⟩ := σ
  obtain ⟨c, d⟩ := τ
  cases e
  exact h
theorem wL_y {L : List Nat} {F : aF} {σ τ υ : gw_S} {r : Int32} (h : cA F σ r τ) (hu : υ = gw_ul τ 206 0 r.toInt64) : wL L F σ 0 υ := by
  obtain ⟨h1, h2, h3, h4⟩ := h
  refine ⟨by rw [h1]; rfl, fun _ => by rw [hu, gw_ul_at, h2], h3.l2 (by rw [hu]; rfl), fun k hk => ?_⟩
  rw [show υ.1 = τ.1 by rw [hu]; rfl]; exact h4.2 k hk
theorem wL_x {L : List Nat} {F : aF} {σ τ : gw_S} {i j : Nat} (h : cK F σ i τ) (hi : ¬ i = 0) (hm : mp L i = j) : wL L F σ (nI j) τ := by
  obtain ⟨h1, h3, h4⟩ := h
  subst h1
  exact ⟨by rw [hm], fun z => absurd z hi, h3, fun k hk => h4.2 k hk⟩
