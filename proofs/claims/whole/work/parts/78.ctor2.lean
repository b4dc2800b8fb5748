/-! the making of the world: fields, rows of plans, calls of constructors, their ends -/
section CR
variable {x : gw_X} {G : gw_G} {nL pc : Nat} {own : String} {cc : ByteArray} {ret : Option FieldType} {ls : List (Nat × Value)} {st : List Value} {o : oE} {N : Nat}
theorem cw_putF (C : XC x G own cc nL ret) (hin2 : (xM x).name = "<init>") {index ci b j : Nat} {v : Value} {fs : List Value} (hd : decode cc pc = .ok (.putfield index, 3)) (hF : gw_F own index ci j) (hfin : ((gw_cw ci).2.1 j).2.2.2 = true) (hdecl : ((gw_cw ci).2.1 j).1 = own) (hn : narrow (gw_tyf ci j) v = v) (hfit : fits (gw_tyf ci j) v = true) (hb : b < N) (hl : j < fs.length) (kk : CW x G nL (pc + 3) ls st (ov o b (some (.inr (ci, fs.set j v)))) N) : CW x G nL pc ls (v :: .ref (G.1 + b) :: st) (ov o b (some (.inr (ci, fs)))) N := by
  intro H locs arr hP hz hS0 hl'
  have hts := C.2.2.2.2.1
  have hK := C.2.2.2.2.2.2.2.1
  have hD := cW_D G (ov o b (some (.inr (ci, fs)))) N
  have hin := gw_cin ci hF.1
  have hc := gw_cvw ci hF.1
  have he : (cW G (ov o b (some (.inr (ci, fs)))) N)[b]? = some (G.1 + b, .inr (ci, fs)) := by rw [cW_at G _ hb, cE_ov]
  have hd2 := gw_cty ci hF.1 j hF.2.1
  have hap := va_apart (own := own) hts hin (gw_tyf ci) (gw_cty ci hF.1) (gw_cnm ci hF.1) hK hc
  obtain ⟨r, h1, cell, q1, q2, q3, q4⟩ := hP b _ he
  have hr : r = gw_cw ci := Option.some.inj (h1.symm.trans hc)
  subst hr
  obtain ⟨hS, hfc, kC, hkC, hkind⟩ := hK.1 ci _ hc
  obtain ⟨cf, kf, fi, f, hi, hsl⟩ := hS j hF.2.1
  have hlay := hts _ (hin _ (u_in_lay hF.2.1))
  unfold u_lay at hlay
  rw [if_pos hfin] at hlay
  have hst := (u_facts hfc hkC (u_lays hts hin hF.2.1) hi).1
  have hcf : (xm x).cls = cf := by
    obtain ⟨_, _, c', _, _, _, -, -, hf', -, -, -, hown2, -⟩ := Cond.laysFinal_spec hlay
    have e1 : c' = cf := by have := hi.symm.trans hf'; simp at this; exact this.1.symm
    rw [hdecl] at hown2
    rw [← e1]; exact Option.some.inj (C.2.2.2.1.symm.trans hown2)
  have h6 := u_fits hfc hkC hkind (Or.inr hlay) hi hd2 hn hfit
  refine W.putFinK C.1 C.2.1 C.2.2.2.1 (hts _ hF.2.2.1) (by rw [← hF.2.2.2]; exact hi) hst hcf hin2 (by rw [q2]; exact h6) q1 q3 (by rw [hsl]; exact k2_hasslot (q4 j hF.2.1)) rfl rfl hd fun H' e1 e2 e3 => ?_
  rw [hsl] at e1 ⊢
  refine kk H' _ arr ?_ (by rw [e2]; exact hz) (hS0.put e2 e3 (hD.2 b _ he)) hl'
  have hset : va_P G.2.1 vwCl ((cW G (ov o b (some (.inr (ci, fs)))) N).set b (G.1 + b, .inr (ci, fs.set j v))) H' := hP.set hD he ⟨_, hc, t_OB.to (V := updV (vp_V fs) j v) ⟨_, e1, q2, q3, t_set q4 hap hF.2.1 v⟩ (fun j _ => vp_updV_set hl v j)⟩ e3
  rw [cW_set G _ _ hb, ov_ov] at hset
  exact hset
theorem cw_astq (C : XC x G own cc nL ret) {k q n i : Nat} {vs : List Value} {f : Nat → Option Nat} (hd : decode cc pc = .ok (.aastore, 1)) (hk : k < N) (hq : q < N) (ha : cE G o k = .inl (G.2.2.1.2.2.2.2, n, .inr (.inr (.inr (.inr f))))) (hv : cE G o q = .inr (2, vs)) (hi : i < n) (hn : n < 2 ^ 31) (kk : CW x G nL (pc + 1) ls st (ov o k (some (.inl (G.2.2.1.2.2.2.2, n, .inr (.inr (.inr (.inr (va_up f i (some (G.1 + q)))))))))) N) : CW x G nL pc ls (.ref (G.1 + q) :: .int (nI i) :: .ref (G.1 + k) :: st) o N := by
  intro H locs arr hP hz hS hl'
  have hK := C.2.2.2.2.2.2.2.1
  have hD := cW_D G o N
  have hcl : (nI i).toNatClampNeg = i := nI_clamp (by omega)
  have ha' : (cW G o N)[k]? = some (G.1 + k, .inl (G.2.2.1.2.2.2.2, n, .inr (.inr (.inr (.inr f))))) := by rw [cW_at G _ hk, ha]
  have hv' : (cW G o N)[q]? = some (G.1 + q, .inr (2, vs)) := by rw [cW_at G _ hq, hv]
  obtain ⟨r', hr', cellV, g1, g2, g3, -⟩ := hP q _ hv'
  have hcls := (hK.1 2 _ (gw_cvw 2 (by decide))).2
  obtain ⟨kA, comp, k1, k2, k3, -⟩ := (hK.2 4 (G.2.2.1.2.2.2.2, .object RX3) rfl).2
  have hcomp : comp = G.2.1.1 2 := Option.some.inj (k3.symm.trans hcls.1)
  subst hcomp
  obtain ⟨kC, hkC, -⟩ := hcls.2
  refine W.aast (j := nI i) C.1 C.2.1 (hP k _ ha') (fun q h => by cases h) (fun h => by cases h) k1 k2 rfl hkC ⟨nI_pos (by omega), by show _ < (arrV _ _ _).slots.size; rw [arrV_size, hcl]; exact hi⟩ g1 (fun q h => by rw [g3] at h; cases h) (by rw [g2]; exact hkC) (by rw [g2]; exact va_assign hcls) rfl rfl hd fun H1 e z oq => ?_
  refine kk H1 _ arr ?_ (by rw [z]; exact hz) (hS.put z oq (hD.2 k _ ha')) hl'
  rw [← cW_set G o _ hk]
  refine hP.set hD ha' ?_ oq
  show H1[G.1 + k]? = some (vp_cell _ _)
  rw [e]
  rw [vp_cell_q, vp_cell_q, arrV_store, hcl]
  congr 2
  funext w
  by_cases hw : w = i
  · subst hw
    simp [updV, va_up, va_rf]
  · simp [updV, va_up, hw]
theorem cw_go {H : Heap} {locs : List Loc} {arr : Array Slot} {st0 : List Value} {a : Array Value} {o' : oE} {N' mc ms : Nat} (hr : va_Run (xp x) (xl x) (xe x) (xR x) (xs x) (xm x) (xa x) (xb x) (xM x) (xc x) H locs (xk x) (xn x) mc ms (F0 (xm x) pc arr st0) st (gw_CQ G o' N' a) (gw_A G)) (hS : va_S (gw_A G) (xs x).heap H locs) (hl : lv_has arr nL ls) (k : CW (xup x mc ms) G nL (pc + 3) ls st o' N') : xW x H locs (F0 (xm x) pc arr st0) := by
  intro T hT X
  obtain ⟨v, st₀, t, T', L, h0, X', hL, e1, e2, ⟨⟨hv, hp, hz9⟩, hz, hk⟩, st'⟩ := hr T hT X
  cases hv
  rw [h0] at hz hk
  obtain ⟨t2, a1, b1⟩ := k T'.heap (locs ++ L) arr (by rw [e1]; exact hp) (by rw [e1]; exact hz9) (va_Sgo hS (by rw [e1]; exact hz) (fun q h1 h2 => by rw [e1]; exact hk q h1 h2) hL) hl T' rfl X'
  exact ⟨t2, st' t2 a1, b1⟩
def gw_CI (y : MethodName) (bytes : ByteArray) (maxL : Nat) : Prop := (Cond.code y bytes maxL none ∈ gw_tbl ∧ Cond.instanceMethod y ∈ gw_tbl ∧ Cond.initialized y.cls ∈ gw_tbl) ∧ y.name = "<init>" ∧ (y.cls ≠ "java/lang/invoke/MethodHandle" ∧ y.cls ≠ "java/lang/invoke/VarHandle" ∧ (parseMethodDescriptor y.desc).map (fun d => d.parameters.length) = some 0)
theorem cw_callN (C : XC x G own cc nL ret) (hAO : va_AO RX3 (xs x)) {y : MethodName} {bytes : ByteArray} {maxL index d b mc ms : Nat} {o' : oE} {N' : Nat} (hd : decode cc pc = .ok (.invokespecial index, 3)) (hM : gw_CM (xl x) G y bytes maxL d b o N o' N' mc ms) (hy : gw_CI y bytes maxL) (hw : Cond.methodLinkNest own index y RX7 ∈ gw_nst) (hf : d + 1 ≤ (xR x).frames ∧ 8 + (maxL + 11) + 30 * d ≤ (xR x).locals) (hroom : xk x + mc ≤ (xR x).cells ∧ xn x + ms ≤ (xR x).slots) (h8 : (st.map fun v => v.category).sum ≤ 8) (k : CW (xup x mc ms) G nL (pc + 3) ls st o' N') : CW x G nL pc ls (.ref (G.1 + b) :: st) o N := fun H locs arr hP hz hS hl => by
  have hW := C.2.2.2.2.1
  exact cw_go (va_runIN (bytes := bytes) (maxL := maxL) (n := 0) (index := index) (As := []) (b := G.1 + b) (rest := st) ⟨C.1, C.2.1, C.2.2.1, C.2.2.2.1, hW⟩ hM ⟨va_cnB 0 hW (gw_good hy.1.1) rfl rfl rfl (C.2.2.2.2.2.2.2.2.2.2.2.1 _ hw) (hW _ hy.1.2.2) hy.2.2 hf, hy.2.1, hW _ hy.1.2.1⟩ ⟨gw_blindC, fun U hU hW9 => ⟨rfl, by rw [hU]; exact hP, by rw [hU]; exact hz, C.2.2.2.2.2.2.2.go hW9 hU hS, va_AO.moved hW9.alike hAO⟩⟩ rfl rfl hl.1 rfl (lv_room h8) hd hroom) hS hl k
theorem cw_callL (C : XC x G own cc nL ret) (hAO : va_AO RX3 (xs x)) {y : MethodName} {bytes : ByteArray} {maxL index d b mc ms : Nat} {o' : oE} {N' : Nat} (hd : decode cc pc = .ok (.invokespecial index, 3)) (hM : gw_CM (xl x) G y bytes maxL d b o N o' N' mc ms) (hy : gw_CI y bytes maxL) (hw : Cond.methodLink own index y ∈ gw_tbl) (hf : d + 1 ≤ (xR x).frames ∧ 8 + (maxL + 11) + 30 * d ≤ (xR x).locals) (hroom : xk x + mc ≤ (xR x).cells ∧ xn x + ms ≤ (xR x).slots) (h8 : (st.map fun v => v.category).sum ≤ 8) (k : CW (xup x mc ms) G nL (pc + 3) ls st o' N') : CW x G nL pc ls (.ref (G.1 + b) :: st) o N := fun H locs arr hP hz hS hl => by
  have hW := C.2.2.2.2.1
  exact cw_go (va_runI (bytes := bytes) (maxL := maxL) (n := 0) (index := index) (As := []) (b := G.1 + b) (rest := st) ⟨C.1, C.2.1, C.2.2.1, C.2.2.2.1, hW⟩ hM ⟨callB_of 0 hW (gw_good hy.1.1) rfl rfl rfl (hW _ hy.1.2.2) (hW _ hw) hy.2.2 hf, hy.2.1, hW _ hy.1.2.1⟩ ⟨gw_blindC, fun U hU hW9 => ⟨rfl, by rw [hU]; exact hP, by rw [hU]; exact hz, C.2.2.2.2.2.2.2.go hW9 hU hS, va_AO.moved hW9.alike hAO⟩⟩ rfl rfl hl.1 rfl (lv_room h8) hd hroom) hS hl k
/-- a constructor's end -/
theorem cw_ret {d mc ms : Nat} (X : CX x G own cc nL d mc ms o N) (hd : decode cc pc = .ok (.return_, 1)) (h1 : xk x ≤ mc) (h2 : xn x ≤ ms) : CW x G nL pc ls [] o N := by
  obtain ⟨C, hin, hA, hR, hQ⟩ := X
  intro H locs arr hP hz hS hl
  unfold xW
  refine W.widen (k := mc) (n := ms) h1 h2 ?_
  rw [hQ]
  exact W.vret C.1 C.2.1 C.2.2.2.2.2.1 (fun t ht hW => ⟨⟨rfl, by rw [ht]; exact hP, by rw [ht]; exact hz⟩, hS.F ht⟩) hS.2.2 hd C.2.2.2.2.2.2.1
theorem xup_xup (x : gw_X) (a b c d : Nat) : xup (xup x a b) c d = xup x (a + c) (b + d) := by
  show (xp x, xl x, xe x, xR x, xs x, xm x, xa x, xb x, xM x, xc x, xQ x, xk x + a + c, xn x + b + d) = (xp x, xl x, xe x, xR x, xs x, xm x, xa x, xb x, xM x, xc x, xQ x, xk x + (a + c), xn x + (b + d))
  rw [Nat.add_assoc, Nat.add_assoc]
end CR
section CS
variable {x : gw_X} {G : gw_G} {nL pc : Nat} {own : String} {cc : ByteArray} {ls : List (Nat × Value)} {st : List Value} {o : oE} {N d mc ms : Nat} {o' : oE} {N' : Nat}
theorem cx_obj (X : CX x G own cc nL d mc ms o' N') {a b : Nat} {idx q : Nat} (hd : decode cc pc = .ok (.invokespecial idx, 3)) (hl : Cond.methodLink own idx objectInit ∈ gw_tbl) (h1 : 1 ≤ d) (k : CW (xup x a b) G nL (pc + 3) ls [] o N) : CW (xup x a b) G nL pc ls [.ref q] o N :=
  cw_obj (X.up a b).1 hd hl (by show 1 ≤ (xR x).frames; rw [X.2.2.2.1]; exact h1) (by show 12 ≤ (xR x).locals; rw [X.2.2.2.1]; show 12 ≤ 30 * d; omega) k
theorem cx_new (X : CX x G own cc nL d mc ms o' N') (h0 : xk x = 0) (h1 : xn x = 0) {a b : Nat} {index : Nat} (ci n : Nat) {fs : List Value} (hn : (gw_cw ci).2.2 = n) (hd : decode cc pc = .ok (.new index, 3)) (hci : ci < 8) (hl : Cond.classLink own index (gw_cw ci).1 ∈ gw_tbl) (hi : Cond.instantiable (gw_cw ci).1 (gw_cw ci).2.2 ∈ gw_tbl) (hin : Cond.initialized (gw_cw ci).1 ∈ gw_tbl) (hfs : ∀ j, j < (gw_cw ci).2.2 → defaultValue (gw_tyf ci j) = vp_V fs j) (hroom : a + 1 ≤ mc ∧ b + n ≤ ms) (k : CW (xup x (a + 1) (b + n)) G nL (pc + 3) ls (.ref (G.1 + N) :: st) (ov o N (some (.inr (ci, fs)))) (N + 1)) : CW (xup x a b) G nL pc ls st o N := by
  subst hn
  refine cw_new (X.up a b).1 ci hd hci hl hi hin hfs ⟨?_, ?_⟩ ?_
  · show xk x + a + 1 ≤ (xR x).cells; rw [X.2.2.2.1, h0]; show 0 + a + 1 ≤ mc; omega
  · show xn x + b + (gw_cw ci).2.2 ≤ (xR x).slots; rw [X.2.2.2.1, h1]; show 0 + b + (gw_cw ci).2.2 ≤ ms; omega
  · rw [xup_xup]; exact k
theorem cx_newa (X : CX x G own cc nL d mc ms o' N') (h0 : xk x = 0) (h1 : xn x = 0) {a b : Nat} {t : ArrayType} {n : Nat} {a0 : vp_A} {cA0 : ClassId} (t0 : Nat) (hd : decode cc pc = .ok (.newarray t, 2)) (harr : Cond.arrayClass (newarray.typeOf t) ∈ gw_tbl) (ht : (gw_ty G)[t0]? = some (cA0, newarray.typeOf t)) (hra : ∀ (U : State) (cA : ClassId), va_RA U cA (newarray.typeOf t) → U.vm.findClass ("[" ++ (newarray.typeOf t).toString) = some cA) (ha : ∀ cA : ClassId, vp_cell cA a0 = arrV cA n (fun _ => defaultValue (newarray.typeOf t))) (hct : cE G o N = .inl (cA0, a0)) (hn : n < 2 ^ 31) (hbytes : n * componentBytes (newarray.typeOf t) ≤ 536870912) (hroom : a + 1 ≤ mc ∧ b + n ≤ ms) (k : CW (xup x (a + 1) (b + n)) G nL (pc + 2) ls (.ref (G.1 + N) :: st) o (N + 1)) : CW (xup x a b) G nL pc ls (.int (nI n) :: st) o N := by
  refine cw_newa (X.up a b).1 t0 hd harr ht hra ha hct hn hbytes ⟨?_, ?_⟩ ?_
  · show xk x + a + 1 ≤ (xR x).cells; rw [X.2.2.2.1, h0]; show 0 + a + 1 ≤ mc; omega
  · show xn x + b + n ≤ (xR x).slots; rw [X.2.2.2.1, h1]; show 0 + b + n ≤ ms; omega
  · rw [xup_xup]; exact k
theorem cx_newq (X : CX x G own cc nL d mc ms o' N') (h0 : xk x = 0) (h1 : xn x = 0) {a b : Nat} {index n : Nat} (hd : decode cc pc = .ok (.anewarray index, 3)) (hl : Cond.classLink own index RX3 ∈ gw_tbl) (hn : n < 2 ^ 31) (hbytes : n * 4 ≤ 536870912) (hroom : a + 1 ≤ mc ∧ b + n ≤ ms) (k : CW (xup x (a + 1) (b + n)) G nL (pc + 3) ls (.ref (G.1 + N) :: st) (ov o N (some (.inl (G.2.2.1.2.2.2.2, n, .inr (.inr (.inr (.inr (fun _ => none)))))))) (N + 1)) : CW (xup x a b) G nL pc ls (.int (nI n) :: st) o N := by
  refine cw_newq (X.up a b).1 hd hl X.2.2.1 hn hbytes ⟨?_, ?_⟩ ?_
  · show xk x + a + 1 ≤ (xR x).cells; rw [X.2.2.2.1, h0]; show 0 + a + 1 ≤ mc; omega
  · show xn x + b + n ≤ (xR x).slots; rw [X.2.2.2.1, h1]; show 0 + b + n ≤ ms; omega
  · rw [xup_xup]; exact k
theorem cx_callN (X : CX x G own cc nL d mc ms o' N') (h0 : xk x = 0) (h1 : xn x = 0) {a b : Nat} {y : MethodName} {bytes : ByteArray} {maxL index dd q mc' ms' : Nat} {o2 : oE} {N2 : Nat} (hd : decode cc pc = .ok (.invokespecial index, 3)) (hM : gw_CM (xl x) G y bytes maxL dd q o N o2 N2 mc' ms') (hy : gw_CI y bytes maxL) (hw : Cond.methodLinkNest own index y RX7 ∈ gw_nst) (hd1 : dd + 1 ≤ d) (hm : maxL ≤ 11) (hroom : a + mc' ≤ mc ∧ b + ms' ≤ ms) (h8 : (st.map fun v => v.category).sum ≤ 8) (k : CW (xup x (a + mc') (b + ms')) G nL (pc + 3) ls st o2 N2) : CW (xup x a b) G nL pc ls (.ref (G.1 + q) :: st) o N := by
  refine cw_callN (X.up a b).1 X.2.2.1 hd hM hy hw ⟨?_, ?_⟩ ⟨?_, ?_⟩ h8 ?_
  · show dd + 1 ≤ (xR x).frames; rw [X.2.2.2.1]; exact hd1
  · show 8 + (maxL + 11) + 30 * dd ≤ (xR x).locals; rw [X.2.2.2.1]; show 8 + (maxL + 11) + 30 * dd ≤ 30 * d; omega
  · show xk x + a + mc' ≤ (xR x).cells; rw [X.2.2.2.1, h0]; show 0 + a + mc' ≤ mc; omega
  · show xn x + b + ms' ≤ (xR x).slots; rw [X.2.2.2.1, h1]; show 0 + b + ms' ≤ ms; omega
  · rw [xup_xup]; exact k
theorem cx_callL (X : CX x G own cc nL d mc ms o' N') (h0 : xk x = 0) (h1 : xn x = 0) {a b : Nat} {y : MethodName} {bytes : ByteArray} {maxL index dd q mc' ms' : Nat} {o2 : oE} {N2 : Nat} (hd : decode cc pc = .ok (.invokespecial index, 3)) (hM : gw_CM (xl x) G y bytes maxL dd q o N o2 N2 mc' ms') (hy : gw_CI y bytes maxL) (hw : Cond.methodLink own index y ∈ gw_tbl) (hd1 : dd + 1 ≤ d) (hm : maxL ≤ 11) (hroom : a + mc' ≤ mc ∧ b + ms' ≤ ms) (h8 : (st.map fun v => v.category).sum ≤ 8) (k : CW (xup x (a + mc') (b + ms')) G nL (pc + 3) ls st o2 N2) : CW (xup x a b) G nL pc ls (.ref (G.1 + q) :: st) o N := by
  refine cw_callL (X.up a b).1 X.2.2.1 hd hM hy hw ⟨?_, ?_⟩ ⟨?_, ?_⟩ h8 ?_
  · show dd + 1 ≤ (xR x).frames; rw [X.2.2.2.1]; exact hd1
  · show 8 + (maxL + 11) + 30 * dd ≤ (xR x).locals; rw [X.2.2.2.1]; show 8 + (maxL + 11) + 30 * dd ≤ 30 * d; omega
  · show xk x + a + mc' ≤ (xR x).cells; rw [X.2.2.2.1, h0]; show 0 + a + mc' ≤ mc; omega
  · show xn x + b + ms' ≤ (xR x).slots; rw [X.2.2.2.1, h1]; show 0 + b + ms' ≤ ms; omega
  · rw [xup_xup]; exact k
theorem cx_ret (X : CX x G own cc nL d mc ms o' N') (h0 : xk x = 0) (h1 : xn x = 0) {a b : Nat} (hd : decode cc pc = .ok (.return_, 1)) (hroom : a ≤ mc ∧ b ≤ ms) : CW (xup x a b) G nL pc ls [] o' N' :=
  cw_ret (X.up a b) hd (by show xk x + a ≤ mc; omega) (by show xn x + b ≤ ms; omega)
end CS
