/-! THE CLAIM OUT OF ONE WALK OF THE LAW'S BODY. Your part is whole_start (and what it stands on); all else here is the same for every law, but numbers. -/
def R_law : String := "RateWiresLaw"
def lw_P (b : Addr) (xs : List Int32) (args : Array Value) (s : State) : Prop := args = #[.ref b] ∧ s.IntsAt b xs ∧ xs.length ≤ 3072 ∧ (Jvm.Cond.and given_1 narrow_1).before args s = true
def lw_Q (_ : Array Value) (s : State) (o : Outcome) (t : State) : Prop := o = .returned (some (.int 1)) ∧ Framed s o t [] 601024 7293034
def lw_Z (below : List Frame) (a : Array Value) (s : State) : State → Prop := fun t => ∃ o, t.status = .running ∧ Ended t below o ∧ lw_Q a s o t
/-- the law's own end, with 1 on the stack, nothing written that was there before, its room as the claim has it -/
theorem lw_ret {p : Program} {l : Launch} {e : Env} {s : State} {m : MethodId} {below : List Frame} {meth : Method} {c : Code} {b : Nat} (hx : p.tables.exec = Jvm.exec) (hb : c.code = code) (hr : meth.sig.returnType = ret) (hlocks : meth.locks = false) {pc : Nat} {H : Heap} {ls : Array Slot} (hdg : decode code pc = .ok (.ireturn, 1)) : W p l e room_1 s m #[Value.ref b] below meth c H [] 601024 7293034 (lw_Z below #[Value.ref b] s) (F0 m pc ls [.int 1]) := by
  intro T hT X
  obtain ⟨fs, hret, hrun, hended, hW, hframe⟩ := X.leave (v := some (.int 1)) (hlocks := hlocks) (fun h => by rw [hr] at h; cases h)
  have hmeth' : T.vm.method? m = some meth := X.method'
  refine ⟨T.setFrames fs, ?_, .returned (some (.int 1)), hrun, hended, rfl, ⟨_, rfl⟩, hW, hframe⟩
  jvm_step X.here [X.here.top, hx, hb, hdg, hmeth', hr, ret, narrow_b1]
  (try refine ⟨rfl, ?_⟩); (try refine ⟨rfl, ?_⟩)
  first | (intro acts; rw [hret _ acts rfl rfl rfl]) | rw [hret _ _ rfl rfl rfl]
  exact Steps.refl _
/-- what holds at the law's entry: the machine, the code, the tables' words (any of lw_tbl by 'hts w (by decide +kernel)'), the script of L ints xs at the cell b, what the Statement gives of the start (any of its parts by flat_of_before) -/
def lw_At (p : Program) (s : State) (m : MethodId) (meth : Method) (c : Code) (b L : Nat) (xs : Nat → Int32) : Prop :=
  p.tables.exec = Jvm.exec ∧ c.code = code ∧ meth.sig.returnType = ret ∧ c.maxLocals = 7 ∧ s.vm.findClass R_law = some m.cls ∧ (∀ w ∈ lw_tbl, w.before #[Value.ref b] s = true) ∧ va_X b L xs s s.heap ∧ b < s.heap.size ∧ meth.locks = false ∧ (Jvm.Cond.and given_1 narrow_1).before #[Value.ref b] s = true

/-! the law's own body: what is known of it all along -/
def LX (x : gw_X) (G : gw_G) (b L : Nat) (sc : Nat → Int32) : Prop :=
  XC x G RL cL_law 7 (some .boolean) ∧ xR x = room_1 ∧ xQ x = lw_Z (xb x) #[Value.ref b] (xs x) ∧ xa x = #[Value.ref b] ∧ G.1 = (xs x).heap.size ∧ (xl x).stackTraces = false ∧ va_X b L sc (xs x) (xs x).heap ∧ b < G.1
theorem LX.up {x : gw_X} {G : gw_G} {b L : Nat} {sc : Nat → Int32} (X : LX x G b L sc) (k n : Nat) : LX (xup x k n) G b L sc := X
section LB
variable {x : gw_X} {G : gw_G} {b L : Nat} {sc : Nat → Int32} {pc : Nat} {ls : List (Nat × Value)} {st : List Value} {σ : gw_S}
theorem pw_sld (X : LX x G b L sc) {i : Nat} (hi : i < L) (hL : L < 2 ^ 31) (hd : decode cL_law pc = .ok (.iaload, 1)) (k : PW x G 7 (pc + 1) ls (.int (sc i) :: st) σ) : PW x G 7 pc ls (.int (nI i) :: .ref b :: st) σ := fun H locs arr hP hS hl =>
  va_sld X.1.1 X.1.2.1 X.2.2.2.2.2.2.1 (by rw [← X.2.2.2.2.1]; exact X.2.2.2.2.2.2.2) (by have h := X.2.2.2.2.2.2.2; show ¬ G.1 ≤ b; omega) hS (vp_in_nI hi hL) hd (by rw [nI_clamp (by omega)]; exact k H locs arr hP hS hl)
theorem pw_slen (X : LX x G b L sc) (hd : decode cL_law pc = .ok (.arraylength, 1)) (k : PW x G 7 (pc + 1) ls (.int (nI L) :: st) σ) : PW x G 7 pc ls (.ref b :: st) σ := fun H locs arr hP hS hl =>
  va_slen X.1.1 X.1.2.1 X.2.2.2.2.2.2.1 (by rw [← X.2.2.2.2.1]; exact X.2.2.2.2.2.2.2) (by have h := X.2.2.2.2.2.2.2; show ¬ G.1 ≤ b; omega) hS hd (k H locs arr hP hS hl)
/-- the law's end -/
theorem pw_end (X : LX x G b L sc) (hroom : xk x ≤ 601024 ∧ xn x ≤ 7293034) (hd : decode cL_law pc = .ok (.ireturn, 1)) : PW x G 7 pc ls [.int 1] σ := by
  obtain ⟨C, hR, hQ, ha, hB, hst, hX, hb⟩ := X
  intro H locs arr hP hS hl
  unfold xW
  refine va_forget (fun q hq => by rw [← hB]; exact hS.2.2 q hq) ?_
  refine W.widen (k := 601024) (n := 7293034) hroom.1 hroom.2 ?_
  rw [hR, hQ, ha]
  exact lw_ret C.1 C.2.1 C.2.2.2.2.2.1 C.2.2.2.2.2.2.1 hd
theorem pw_callSH {d n maxL index : Nat} {y : MethodName} {bytes : ByteArray} {hh : List (Nat × Nat × Nat × Nat)} {As : List Value} {Φ : Int32 → gw_S → Prop} (X : LX x G b L sc) (hd : decode cL_law pc = .ok (.invokestatic index, 3)) (hM : gw_MH (xl x) G y bytes maxL hh d As σ (fi Φ)) (hcw : Cond.codeWith y bytes maxL (some .int) hh ∈ gw_tbl) (hst : Cond.static y ∈ gw_tbl) (hini : Cond.initialized y.cls ∈ gw_tbl) (hy : y.cls ≠ "java/lang/invoke/MethodHandle" ∧ y.cls ≠ "java/lang/invoke/VarHandle" ∧ (parseMethodDescriptor y.desc).map (fun d => d.parameters.length) = some n) (hw : Cond.methodLink RL index y ∈ gw_tbl) (hn : As.length = n) (hd8 : d ≤ 8) (hmL : maxL ≤ 11) (hroom : xk x + 1 ≤ 601024 ∧ xn x + 6 ≤ 7293034) {st0 : List Value} (hst0 : st0 = As.reverse ++ st) (h8 : (st.map fun v => v.category).sum ≤ 8)
    (kr : ∀ (r : Int32) (σ' : gw_S), Φ r σ' → PW (xup x 1 6) G 7 (pc + 3) ls (.int r :: st) σ') : PW x G 7 pc ls st0 σ := by
  intro H locs arr hP hS hl T hT Y
  have C := X.1
  have hW := C.2.2.2.2.1
  have hG : GoodIn gw_tbl (.codeWith y bytes maxL (some .int) hh :: gw_tbl) := by
    intro w hw
    rcases List.mem_cons.mp hw with rfl | hw
    · exact ⟨hcw, good_of_word (List.mem_filter.mp hcw).2⟩
    · exact ⟨hw, good_of_word (List.mem_filter.mp hw).2⟩
  have hr := vx_runSX (p := xp x) (l := xl x) (e := xe x) (R := xR x) (below := xb x) (meth := xM x) (H := H) (locs := locs) (cells := xk x) (slots := xn x) (bytes := bytes) (maxL := maxL) (ret := some .int) (n := n) (index := index) (As := As) (rest := st) (g := F0 (xm x) pc arr st0) (hh := hh) ⟨C.1, C.2.1, C.2.2.1, C.2.2.2.1, hW⟩ hM ⟨⟨rfl, rfl, by rw [X.2.1]; show d + 1 ≤ 11; omega, by rw [X.2.1]; show 8 + (maxL + 11) + 30 * d ≤ 416; omega, pay_in hW hG, List.mem_cons_self⟩, hW _ hcw, hW _ hini, ⟨hy.1, hy.2.1⟩, fun sig h => by have h2 := hy.2.2; rw [h] at h2; exact (Option.some.inj h2).symm, hW _ hw, hW _ hst⟩ ⟨gw_blind, fun U hU hW9 => ⟨rfl, by rw [hU]; exact hP, C.2.2.2.2.2.2.2.go hW9 hU hS⟩⟩ rfl hn hl.1 hst0 (lv_room h8) hd (by rw [X.2.1]; exact hroom)
  rcases hr T hT Y with ⟨v, st₀, t, T', L, h0, X', hL, e1, e2, ⟨⟨v', σ', hv', ⟨r, rfl, hp⟩, hb⟩, hz, hk9⟩, st'⟩ | ⟨q, st₀, t, T', L, E, ce, h0, X', hL, e1, e2, ⟨i, σ', hi0, hi4, rfl, hK, hPt, hz, hk9⟩, hce, hcv, hcl, st'⟩
  · cases hv'
    rw [h0] at hz hk9
    obtain ⟨t2, a1, b1⟩ := kr r σ' hp T'.heap (locs ++ L) arr (by rw [e1]; exact hb) (va_Sgo hS (by rw [e1]; exact hz) (fun q h1 h2 => by rw [e1]; exact hk9 q h1 h2) hL) hl T' rfl X'
    exact ⟨t2, st' t2 a1, b1⟩
  · exact hK.elim
/-- rooms of the law's frame -/
theorem LX.ok (X : LX x G b L sc) (hroom : xk x ≤ 601024 ∧ xn x ≤ 7293034) : gw_ok x 11 := ⟨by rw [X.2.1]; exact Nat.le_refl _, by rw [X.2.1]; show 30 * 11 ≤ 416; decide, by rw [X.2.1]; exact hroom.1, by rw [X.2.1]; exact hroom.2⟩
/-- behind a wrapper the reference's side is as it was; behind the reference's answer both sides agree -/
theorem LJ1 {Ls : List Nat} {F : aF} {σ τ : gw_S} {r : Int32} {A : aS} (hm : MI σ A) (h1 : wL Ls F σ r τ) : MI τ A := by
  obtain ⟨w1, w2, w3, w4⟩ := h1
  have e : ∀ k, 189 ≤ k → τ.1 k = σ.1 k := w4
  obtain ⟨m1, m2, m3, m4, m5⟩ := hm
  exact ⟨⟨by rw [e 189 (by omega)]; exact m1.1, fun i hi => by rw [e 190 (by omega)]; exact m1.2 i hi⟩, by rw [e 192 (by omega)]; exact m2, by rw [e 189 (by omega)]; exact m3, fun i hi => by rw [e 194 (by omega)]; exact m4 i hi, fun s hs => ⟨by rw [e 196 (by omega)]; exact (m5 s hs).1, fun U hU => by rw [e 195 (by omega)]; exact (m5 s hs).2 U hU⟩⟩
theorem LJ2 {Ls : List Nat} {F : aF} {σ τ υ : gw_S} {r q : Int32} (hLs : Ls.length ≤ 3) (h1 : wL Ls F σ r τ) (g : mA Ls F τ q υ) : υ.1 189 0 = r ∧ (r = 0 → lg_cmp (υ.2 206 ((0 : Int32).toNatClampNeg)) q.toInt64 = 0) ∧ CI υ F.2.2 ∧ MI υ F.2.2 := by
  obtain ⟨w1, w2, w3, w4⟩ := h1
  obtain ⟨g1, g2, g3, g4⟩ := g
  refine ⟨by rw [g1, w1], fun z => ?_, w3.km g4, g3⟩
  have z0 : F.1 = 0 := by
    rw [w1, ← nI_0, nI_eq_iff (mp_lt _ _ hLs) (by decide)] at z
    exact mp_0 z
  rw [gc0, lg_cmp_eq, g4.1, w2 z0, g2 z0]
/-- a word of the script -/
theorem pw_sk (X : LX x G b L sc) {i k : Nat} (d0 : decode cL_law pc = .ok (.aload_n 0, 1)) (d1 : decode cL_law (pc + 1) = .ok (.iload 4, 2)) (d3 : decode cL_law (pc + 3) = .ok (.iconst k, 1)) (d4 : decode cL_law (pc + 4) = .ok (.iadd, 1)) (d5 : decode cL_law (pc + 5) = .ok (.iaload, 1)) (j0 j4 : Nat) (h0 : ls[j0]? = some (0, .ref b)) (h4 : ls[j4]? = some (4, .int (nI i))) (hi : i + k < L) (hL : L ≤ 3072) (kk : PW x G 7 (pc + 6) ls (.int (sc (i + k)) :: st) σ) : PW x G 7 pc ls st σ := by
  refine pw_aload_n X.1 d0 rfl j0 h0 ?_
  refine pw_iload X.1 d1 j4 h4 ?_
  refine pw_iconst (v := nI k) X.1 d3 rfl ?_
  refine pw_iadd X.1 d4 ?_
  rw [nI_add]
  exact pw_sld X hi (by omega) d5 kk
end LB
