/-! the making of the world: its cells come in their order; what differs from the finished cell stands in o -/
def s0 : gw_S := (fun _ _ => 0, fun _ _ => 0)
abbrev oE : Type := Nat → Option va_E
def oN : oE := fun _ => none
def ov (o : oE) (k : Nat) (e : Option va_E) : oE := fun q => if q = k then e else o q
theorem ov_at (o : oE) (k : Nat) (e : Option va_E) : ov o k e k = e := if_pos rfl
theorem ov_ne (o : oE) {k q : Nat} (e : Option va_E) (h : q ≠ k) : ov o k e q = o q := if_neg h
theorem ov_ov (o : oE) (k : Nat) (e e' : Option va_E) : ov (ov o k e) k e' = ov o k e' := by
  funext q
  by_cases h : q = k
  · rw [h, ov_at, ov_at]
  · rw [ov_ne _ _ h, ov_ne _ _ h, ov_ne _ _ h]
theorem ov_comm (o : oE) {k j : Nat} (e e' : Option va_E) (h : k ≠ j) : ov (ov o k e) j e' = ov (ov o j e') k e := by
  funext q
  by_cases h1 : q = k
  · rw [h1, ov_at, ov_ne _ _ h, ov_at]
  · by_cases h2 : q = j
    · rw [h2, ov_at, ov_ne _ _ (Ne.symm h), ov_at]
    · rw [ov_ne _ _ h2, ov_ne _ _ h1, ov_ne _ _ h1, ov_ne _ _ h2]
def cE (G : gw_G) (o : oE) (k : Nat) : va_E := (o k).getD (gw_ct G s0 k)
theorem cE_ov (G : gw_G) (o : oE) (k : Nat) (e : va_E) : cE G (ov o k (some e)) k = e := by unfold cE; rw [ov_at]; rfl
theorem cE_ne (G : gw_G) (o : oE) {k q : Nat} (e : Option va_E) (h : q ≠ k) : cE G (ov o k e) q = cE G o q := by unfold cE; rw [ov_ne _ _ h]
theorem cE_no (G : gw_G) {o : oE} {k : Nat} (h : o k = none) : cE G o k = gw_ct G s0 k := by unfold cE; rw [h]; rfl
def cW (G : gw_G) (o : oE) (N : Nat) : va_W := (List.range N).map (fun k => (G.1 + k, cE G o k))
theorem cW_at (G : gw_G) (o : oE) {N k : Nat} (h : k < N) : (cW G o N)[k]? = some (G.1 + k, cE G o k) := by
  simp [cW, List.getElem?_map, List.getElem?_range h]
theorem cW_lk {G : gw_G} {o : oE} {N k : Nat} {q : Nat × va_E} (h : (cW G o N)[k]? = some q) : k < N ∧ q = (G.1 + k, cE G o k) := by
  have hl : k < (cW G o N).length := (List.getElem?_eq_some_iff.mp h).1
  have hk : k < N := by simpa [cW] using hl
  exact ⟨hk, Option.some.inj (h.symm.trans (cW_at G o hk))⟩
theorem cW_D (G : gw_G) (o : oE) (N : Nat) : va_D (gw_A G) (cW G o N) := by
  refine ⟨fun i j x y hi hj hxy => ?_, fun k q hk => ?_⟩
  · obtain ⟨h1, rfl⟩ := cW_lk hi
    obtain ⟨h2, rfl⟩ := cW_lk hj
    exact Nat.add_left_cancel hxy
  · obtain ⟨h1, rfl⟩ := cW_lk hk
    exact Nat.le_add_right _ _
theorem cW_cong {G : gw_G} {o o' : oE} {N : Nat} (h : ∀ k, k < N → cE G o k = cE G o' k) : cW G o N = cW G o' N := by
  unfold cW
  exact List.map_congr_left (fun k hk => by rw [h k (List.mem_range.mp hk)])
theorem cW_next (G : gw_G) (o : oE) (N : Nat) : cW G o N ++ [(G.1 + N, cE G o N)] = cW G o (N + 1) := by
  unfold cW
  rw [List.range_succ, List.map_append]; rfl
theorem cW_push (G : gw_G) (o : oE) (N : Nat) (e : va_E) : cW G o N ++ [(G.1 + N, e)] = cW G (ov o N (some e)) (N + 1) := by
  rw [← cW_next, cE_ov, cW_cong (o' := ov o N (some e)) (fun k hk => (cE_ne G o _ (Nat.ne_of_lt hk)).symm)]
theorem cW_set (G : gw_G) (o : oE) {N k : Nat} (e : va_E) (h : k < N) : (cW G o N).set k (G.1 + k, e) = cW G (ov o k (some e)) N := by
  apply List.ext_getElem?
  intro i
  by_cases hik : i = k
  · subst hik
    rw [List.getElem?_set_self (by simpa [cW] using h), cW_at G _ h, cE_ov]
  · rw [List.getElem?_set_ne (Ne.symm hik)]
    by_cases hi : i < N
    · rw [cW_at G _ hi, cW_at G _ hi, cE_ne G o _ hik]
    · rw [List.getElem?_eq_none (by simpa [cW] using hi), List.getElem?_eq_none (by simpa [cW] using hi)]
theorem cW_all (G : gw_G) : cW G oN gw_n = gw_ws G s0 := rfl
/-- from here the machine comes to its end, whatever the heap, if its first N cells are those -/
def CW (x : gw_X) (G : gw_G) (nL pc : Nat) (ls : List (Nat × Value)) (st : List Value) (o : oE) (N : Nat) : Prop :=
  ∀ (H : Heap) (locs : List Loc) (arr : Array Slot), va_P G.2.1 vwCl (cW G o N) H → H.size = G.1 + N → va_S (gw_A G) (xs x).heap H locs → lv_has arr nL ls → xW x H locs (F0 (xm x) pc arr st)
def gw_Rc (d mc ms : Nat) : Room := { frames := d, cells := mc, slots := ms, locals := 30 * d }
def gw_CQ (G : gw_G) (o' : oE) (N' : Nat) : Array Value → State → Outcome → State → Prop := fun _ st oc t => (oc = .returned none ∧ va_P G.2.1 vwCl (cW G o' N') t.heap ∧ t.heap.size = G.1 + N') ∧ va_F (gw_A G) st t
def gw_CP (G : gw_G) (b : Nat) (o : oE) (N : Nat) : Array Value → State → Prop := va_Pc [.ref (G.1 + b)] (fun U => va_P G.2.1 vwCl (cW G o N) U.heap ∧ U.heap.size = G.1 + N ∧ gw_K G U ∧ va_AO RX3 U)
/-- a constructor's contract -/
def gw_CM (l : Launch) (G : gw_G) (y : MethodName) (bytes : ByteArray) (maxL d b : Nat) (o : oE) (N : Nat) (o' : oE) (N' mc ms : Nat) : Prop :=
  Met l y (.code y bytes maxL none :: gw_tbl) (gw_Rc d mc ms) (gw_CP G b o N) (gw_CQ G o' N') mc ms (gw_A G)
theorem gw_blindC {G : gw_G} {b N : Nat} {o : oE} : FrameBlind (gw_CP G b o N) := fun a U g mk q => ⟨q.1, q.2.1, q.2.2.1, q.2.2.2.1.moved (u := U) (U := U.calling g mk a) rfl rfl, va_AO.moved (u := U) (U := U.calling g mk a) (Vm.Alike.refl U.vm) q.2.2.2.2⟩
/-- what a constructor's body knows -/
def CX (x : gw_X) (G : gw_G) (own : String) (cc : ByteArray) (nL d mc ms : Nat) (o' : oE) (N' : Nat) : Prop :=
  XC x G own cc nL none ∧ (xM x).name = "<init>" ∧ va_AO RX3 (xs x) ∧ xR x = gw_Rc d mc ms ∧ xQ x = MQ (xb x) (gw_CQ G o' N') (xa x) (xs x) mc ms (gw_A G)
theorem gw_cmet {l : Launch} {G : gw_G} {y : MethodName} {bytes : ByteArray} {maxL d b : Nat} {o : oE} {N : Nat} {o' : oE} {N' mc ms : Nat} (hy : plainName y.cls = true) (hn : y.name = "<init>") (hL : 1 ≤ maxL)
    (body : ∀ x : gw_X, xl x = l → CX x G y.cls bytes maxL d mc ms o' N' → xk x = 0 → xn x = 0 → CW x G maxL 0 [(0, .ref (G.1 + b))] [] o N) : gw_CM l G y bytes maxL d b o N o' N' mc ms := by
  refine Met.ofW (cc := bytes) (maxL := maxL) (ret := none) hy rfl ?_
  intro p e s m args below meth c s₁ B hml hv
  obtain ⟨rfl, hP, hz, hK, hA⟩ := hv
  have hts := atoms_spec (ws := Cond.code y bytes maxL none :: gw_tbl) B.pre
  have hown : s.vm.findClass y.cls = some m.cls := findClass_of_methodNamed B.named
  have hl := lv_entry ([.ref (G.1 + b)] : List Value) (n := maxL) hL
  rw [lg_entry_eq]
  exact body (p, l, e, gw_Rc d mc ms, s, m, ([.ref (G.1 + b)] : List Value).toArray, below, meth, c, MQ below (gw_CQ G o' N') ([.ref (G.1 + b)] : List Value).toArray s mc ms (gw_A G), 0, 0) rfl ⟨⟨B.exec, B.bytes, hml, hown, fun w hw => hts w (List.mem_cons_of_mem _ hw), B.returns, B.notSynchronized, hK⟩, (name_of_methodNamed B.named B.method).1.trans hn, hA, rfl, rfl⟩ rfl rfl s.heap [] _ hP hz va_S.rf hl
theorem CX.up {x : gw_X} {G : gw_G} {own : String} {cc : ByteArray} {nL d mc ms : Nat} {o' : oE} {N' : Nat} (X : CX x G own cc nL d mc ms o' N') (k n : Nat) : CX (xup x k n) G own cc nL d mc ms o' N' := X
section CR
variable {x : gw_X} {G : gw_G} {nL pc : Nat} {own : String} {cc : ByteArray} {ret : Option FieldType} {ls : List (Nat × Value)} {st : List Value} {o : oE} {N : Nat}
theorem cw_cong {o' : oE} (h : ∀ k, k < N → cE G o k = cE G o' k) (k : CW x G nL pc ls st o' N) : CW x G nL pc ls st o N := fun H locs arr hP hz hS hl => k H locs arr (by rw [← cW_cong h]; exact hP) hz hS hl
/-- an object that is finished -/
theorem cw_done {b : Nat} {e : va_E} (h : cE G o b = e) (k : CW x G nL pc ls st o N) : CW x G nL pc ls st (ov o b (some e)) N :=
  cw_cong (fun q _ => by
    by_cases hq : q = b
    · rw [hq, cE_ov, h]
    · rw [cE_ne G o _ hq]) k
theorem cw_aload_n (C : XC x G own cc nL ret) {f : Fin 4} {i : Nat} {u : Nat} (hd : decode cc pc = .ok (.aload_n f, 1)) (hi : (f : Nat) = i) (j : Nat) (hj : ls[j]? = some (i, .ref u)) (k : CW x G nL (pc + 1) ls (.ref u :: st) o N) : CW x G nL pc ls (st) o N := fun H locs arr hP hz hS hl => lv_aload_n C.1 C.2.1 hd hi (lv_at hl j hj) (k H locs arr hP hz hS hl)
theorem cw_iload_n (C : XC x G own cc nL ret) {f : Fin 4} {i : Nat} {u : Int32} (hd : decode cc pc = .ok (.iload_n f, 1)) (hi : (f : Nat) = i) (j : Nat) (hj : ls[j]? = some (i, .int u)) (k : CW x G nL (pc + 1) ls (.int u :: st) o N) : CW x G nL pc ls (st) o N := fun H locs arr hP hz hS hl => lv_iload_n C.1 C.2.1 hd hi (lv_at hl j hj) (k H locs arr hP hz hS hl)
theorem cw_istore_n (C : XC x G own cc nL ret) {f : Fin 4} {i : Nat} {u : Int32} {ls' : List (Nat × Value)} (hd : decode cc pc = .ok (.istore_n f, 1)) (hi : (f : Nat) = i) (hn : i < nL) (hls : (i, Value.int u) :: ls.filter (fun q => !(q.1 == i) && !(q.1 + 1 == i && q.2.category == 2)) = ls') (k : CW x G nL (pc + 1) ls' (st) o N) : CW x G nL pc ls (.int u :: st) o N := fun H locs arr hP hz hS hl => lv_istore_n C.1 C.2.1 hd hi hl hn hls (fun a h => k H locs a hP hz hS h)
theorem cw_astore_n (C : XC x G own cc nL ret) {f : Fin 4} {i : Nat} {u : Nat} {ls' : List (Nat × Value)} (hd : decode cc pc = .ok (.astore_n f, 1)) (hi : (f : Nat) = i) (hn : i < nL) (hls : (i, Value.ref u) :: ls.filter (fun q => !(q.1 == i) && !(q.1 + 1 == i && q.2.category == 2)) = ls') (k : CW x G nL (pc + 1) ls' (st) o N) : CW x G nL pc ls (.ref u :: st) o N := fun H locs arr hP hz hS hl => lv_astore_n C.1 C.2.1 hd hi hl hn hls (fun a h => k H locs a hP hz hS h)
theorem cw_istore (C : XC x G own cc nL ret) {i : Nat} {u : Int32} {ls' : List (Nat × Value)} (hd : decode cc pc = .ok (.istore i, 2)) (hn : i < nL) (hls : (i, Value.int u) :: ls.filter (fun q => !(q.1 == i) && !(q.1 + 1 == i && q.2.category == 2)) = ls') (k : CW x G nL (pc + 2) ls' (st) o N) : CW x G nL pc ls (.int u :: st) o N := fun H locs arr hP hz hS hl => lv_istore C.1 C.2.1 hd hl hn hls (fun a h => k H locs a hP hz hS h)
theorem cw_iinc (C : XC x G own cc nL ret) {i j : Nat} {n : Int} {u v : Int32} {ls' : List (Nat × Value)} (hd : decode cc pc = .ok (.iinc i n, 3)) (hj : ls[j]? = some (i, .int u)) (hv : u + Int32.ofInt n = v) (hn : i < nL) (hls : (i, Value.int v) :: ls.filter (fun q => !(q.1 == i) && !(q.1 + 1 == i && q.2.category == 2)) = ls') (k : CW x G nL (pc + 3) ls' (st) o N) : CW x G nL pc ls (st) o N := fun H locs arr hP hz hS hl => lv_iinc C.1 C.2.1 hd hl hj hv hn hls (fun a h => k H locs a hP hz hS h)
theorem cw_iconst (C : XC x G own cc nL ret) {n : Int} {v : Int32} (hd : decode cc pc = .ok (.iconst n, 1)) (hv : Int32.ofInt n = v) (k : CW x G nL (pc + 1) ls (.int v :: st) o N) : CW x G nL pc ls (st) o N := fun H locs arr hP hz hS hl => lv_iconst C.1 C.2.1 hd hv (k H locs arr hP hz hS hl)
theorem cw_bipush (C : XC x G own cc nL ret) {n : Int} {v : Int32} (hd : decode cc pc = .ok (.bipush n, 2)) (hv : (Int8.ofInt n).toInt32 = v) (k : CW x G nL (pc + 2) ls (.int v :: st) o N) : CW x G nL pc ls (st) o N := fun H locs arr hP hz hS hl => lv_bipush C.1 C.2.1 hd hv (k H locs arr hP hz hS hl)
theorem cw_sipush (C : XC x G own cc nL ret) {n : Int} {v : Int32} (hd : decode cc pc = .ok (.sipush n, 3)) (hv : (Int16.ofInt n).toInt32 = v) (k : CW x G nL (pc + 3) ls (.int v :: st) o N) : CW x G nL pc ls (st) o N := fun H locs arr hP hz hS hl => lv_sipush C.1 C.2.1 hd hv (k H locs arr hP hz hS hl)
theorem cw_dup (C : XC x G own cc nL ret) {v : Value} (hd : decode cc pc = .ok (.dup, 1)) (hv : v.category = 1) (k : CW x G nL (pc + 1) ls (v :: v :: st) o N) : CW x G nL pc ls (v :: st) o N := fun H locs arr hP hz hS hl => lv_dup C.1 C.2.1 hd hv (k H locs arr hP hz hS hl)
theorem cw_goto (C : XC x G own cc nL ret) {off : Int} {tgt : Nat} (hd : decode cc pc = .ok (.goto off, 3)) (ht : (pc : Int) + off = (tgt : Int)) (k : CW x G nL tgt ls st o N) : CW x G nL pc ls st o N := fun H locs arr hP hz hS hl => lv_goto C.1 C.2.1 hd ht (k H locs arr hP hz hS hl)
theorem cw_icmp_ge (C : XC x G own cc nL ret) {u w : Int32} {off : Int} {tgt : Nat} (hd : decode cc pc = .ok (.if_icmp .ge off, 3)) (ht : (pc : Int) + off = (tgt : Int)) (kt : w ≤ u → CW x G nL tgt ls st o N) (kf : ¬ w ≤ u → CW x G nL (pc + 3) ls st o N) : CW x G nL pc ls (.int w :: .int u :: st) o N := fun H locs arr hP hz hS hl => lv_icmp_ge C.1 C.2.1 hd ht (fun q => kt q H locs arr hP hz hS hl) (fun q => kf q H locs arr hP hz hS hl)
theorem cw_sub {ls' : List (Nat × Value)} (ks : List Nat) (h : lv_pick ls ks = ls') (k : CW x G nL pc ls' st o N) : CW x G nL pc ls st o N := fun H locs arr hP hz hS hl => k H locs arr hP hz hS (lv_sub hl ks h)
theorem gq_oi : Cond.instanceMethod objectInit ∈ gw_tbl := gw_mem (List.mem_of_getElem? (i := 78) (by decide +kernel)) (by decide +kernel)
theorem gq_oc : Cond.code objectInit ⟨#[0xb1]⟩ 1 none ∈ gw_tbl := gw_mem (List.mem_of_getElem? (i := 79) (by decide +kernel)) (by decide +kernel)
theorem cw_obj (C : XC x G own cc nL ret) {idx a : Nat} (hd : decode cc pc = .ok (.invokespecial idx, 3)) (hl : Cond.methodLink own idx objectInit ∈ gw_tbl) (hf : 1 ≤ (xR x).frames) (hlo : 12 ≤ (xR x).locals) (k : CW x G nL (pc + 3) ls [] o N) : CW x G nL pc ls [.ref a] o N := fun H locs arr hP hz hS hl9 =>
  W.objInit C.1 C.2.1 C.2.2.2.1 (C.2.2.2.2.1 _ hl) (C.2.2.2.2.1 _ gq_oi) (C.2.2.2.2.1 _ gq_oc) rfl (by rw [C.2.2.1]; exact hl9.1) rfl hd hf hlo (k H locs arr hP hz hS hl9)
theorem cw_new (C : XC x G own cc nL ret) {index : Nat} (ci : Nat) {fs : List Value} (hd : decode cc pc = .ok (.new index, 3)) (hci : ci < 8) (hl : Cond.classLink own index (gw_cw ci).1 ∈ gw_tbl) (hi : Cond.instantiable (gw_cw ci).1 (gw_cw ci).2.2 ∈ gw_tbl) (hin : Cond.initialized (gw_cw ci).1 ∈ gw_tbl) (hfs : ∀ j, j < (gw_cw ci).2.2 → defaultValue (gw_tyf ci j) = vp_V fs j) (hroom : xk x + 1 ≤ (xR x).cells ∧ xn x + (gw_cw ci).2.2 ≤ (xR x).slots) (k : CW (xup x 1 (gw_cw ci).2.2) G nL (pc + 3) ls (.ref (G.1 + N) :: st) (ov o N (some (.inr (ci, fs)))) (N + 1)) : CW x G nL pc ls st o N := by
  intro H locs arr hP hz hS hl'
  have hKn := C.2.2.2.2.2.2.2.1.1 ci _ (gw_cvw ci hci)
  have hW := C.2.2.2.2.1
  refine W.newcK C.1 C.2.1 C.2.2.2.1 (hW _ hl) (hW _ hi) (hW _ hin) rfl hd hroom.1 hroom.2 hKn.2.1 hz fun H1 kC hkC e1 z1 o1 => ?_
  have hk : ∀ (k : Nat) (q : Nat × va_E), (cW G o N)[k]? = some q → H1[q.1]? = H[q.1]? := fun k q hq => o1 q.1 (by have := (hP k q hq).lt; omega)
  refine k H1 locs arr ?_ (by omega) ⟨Nat.le_trans hS.1 (by omega), fun q h1 h2 => (o1 q (by have h1 : q < (xs x).heap.size := h1; have := hS.1; omega)).trans (hS.2.1 q h1 h2), hS.2.2⟩ hl'
  rw [← cW_push]
  refine (hP.kept hk).app (fun k q hq => ?_)
  have hz9 : k < 1 := (List.getElem?_eq_some_iff.mp hq).1
  rw [show k = 0 by omega] at hq
  cases hq
  exact ⟨_, gw_cvw ci hci, (u_born (gw_tyf ci) hW (gw_cin ci hci) hKn hkC e1 (gw_cty ci hci)).to hfs⟩
theorem cw_newa (C : XC x G own cc nL ret) {t : ArrayType} {n : Nat} {a0 : vp_A} {cA0 : ClassId} (t0 : Nat) (hd : decode cc pc = .ok (.newarray t, 2)) (harr : Cond.arrayClass (newarray.typeOf t) ∈ gw_tbl) (ht : (gw_ty G)[t0]? = some (cA0, newarray.typeOf t)) (hra : ∀ (U : State) (cA : ClassId), va_RA U cA (newarray.typeOf t) → U.vm.findClass ("[" ++ (newarray.typeOf t).toString) = some cA) (ha : ∀ cA : ClassId, vp_cell cA a0 = arrV cA n (fun _ => defaultValue (newarray.typeOf t))) (hct : cE G o N = .inl (cA0, a0)) (hn : n < 2 ^ 31) (hbytes : n * componentBytes (newarray.typeOf t) ≤ 536870912) (hroom : xk x + 1 ≤ (xR x).cells ∧ xn x + n ≤ (xR x).slots) (k : CW (xup x 1 n) G nL (pc + 2) ls (.ref (G.1 + N) :: st) o (N + 1)) : CW x G nL pc ls (.int (nI n) :: st) o N := by
  intro H locs arr hP hz hS hl'
  have hK := C.2.2.2.2.2.2.2.1
  refine va_newaK C.1 C.2.1 (C.2.2.2.2.1 _ harr) rfl hd rfl (nI_pos hn) (nI_clamp hn) hbytes hroom.1 hroom.2 hz fun H1 cA e1 z1 o1 hAr hNm => ?_
  have hcA : cA = cA0 := Option.some.inj (hNm.symm.trans (hra _ _ (hK.2 t0 _ ht).2))
  subst hcA
  have hk : ∀ (k : Nat) (q : Nat × va_E), (cW G o N)[k]? = some q → H1[q.1]? = H[q.1]? := fun k q hq => o1 q.1 (by have := (hP k q hq).lt; omega)
  refine k H1 locs arr ?_ (by omega) ⟨Nat.le_trans hS.1 (by omega), fun q h1 h2 => (o1 q (by have h1 : q < (xs x).heap.size := h1; have := hS.1; omega)).trans (hS.2.1 q h1 h2), hS.2.2⟩ hl'
  rw [← cW_next, hct]
  refine (hP.kept hk).app (fun k q hq => ?_)
  have hz9 : k < 1 := (List.getElem?_eq_some_iff.mp hq).1
  rw [show k = 0 by omega] at hq
  cases hq
  show H1[G.1 + N]? = some (vp_cell _ _)
  rw [ha]
  exact e1
theorem cw_newq (C : XC x G own cc nL ret) {index n : Nat} (hd : decode cc pc = .ok (.anewarray index, 3)) (hl : Cond.classLink own index RX3 ∈ gw_tbl) (hAO : va_AO RX3 (xs x)) (hn : n < 2 ^ 31) (hbytes : n * 4 ≤ 536870912) (hroom : xk x + 1 ≤ (xR x).cells ∧ xn x + n ≤ (xR x).slots) (k : CW (xup x 1 n) G nL (pc + 3) ls (.ref (G.1 + N) :: st) (ov o N (some (.inl (G.2.2.1.2.2.2.2, n, .inr (.inr (.inr (.inr (fun _ => none)))))))) (N + 1)) : CW x G nL pc ls (.int (nI n) :: st) o N := by
  intro H locs arr hP hz hS hl'
  have hK := C.2.2.2.2.2.2.2.1
  have hcl : (nI n).toNatClampNeg = n := nI_clamp hn
  refine W.anew C.1 C.2.1 C.2.2.2.1 (C.2.2.2.2.1 _ hl) (va_AO.use hAO) rfl hd rfl (nI_pos hn) (by rw [hcl]; exact hbytes) hroom.1 (by rw [hcl]; exact hroom.2) fun cA kA comp f1 f2 f3 f4 => ?_
  rw [hcl]
  obtain ⟨kA', comp', g1, g2, g3, g4⟩ := (hK.2 4 (G.2.2.1.2.2.2.2, .object RX3) rfl).2
  have hcA : cA = G.2.2.1.2.2.2.2 := Option.some.inj (f1.symm.trans g4)
  subst hcA
  generalize hH1 : H.push ({ cls := G.2.2.1.2.2.2.2, slots := Array.replicate n .null, vm := .none } : Cell) = H1
  have z1 : H1.size = H.size + 1 := by rw [← hH1, Array.size_push]
  have e1 : H1[H.size]? = some (arrV G.2.2.1.2.2.2.2 n (fun _ => .null)) := by rw [← hH1, Array.getElem?_push_size, ← arrV_new]
  have o1 : ∀ q : Nat, q < H.size → H1[q]? = H[q]? := fun q hq => by rw [← hH1, Array.getElem?_push, if_neg (Nat.ne_of_lt hq)]
  have hk : ∀ (k : Nat) (q : Nat × va_E), (cW G o N)[k]? = some q → H1[q.1]? = H[q.1]? := fun k q hq => o1 q.1 ((hP k q hq).lt)
  have key := k H1 locs arr (by
    rw [← cW_push]
    refine (hP.kept hk).app (fun k q hq => ?_)
    have hz9 : k < 1 := (List.getElem?_eq_some_iff.mp hq).1
    rw [show k = 0 by omega] at hq
    cases hq
    show H1[G.1 + N]? = some (vp_cell _ _)
    rw [vp_cell_q, ← hz]
    exact e1) (by omega) ⟨Nat.le_trans hS.1 (by omega), fun q h1 h2 => (o1 q (by have h1 : q < (xs x).heap.size := h1; have := hS.1; omega)).trans (hS.2.1 q h1 h2), hS.2.2⟩ hl'
  rw [hz]
  unfold xW at key
  exact key
theorem cw_getf (C : XC x G own cc nL ret) {index ci j b : Nat} {fs : List Value} {v : Value} (hd : decode cc pc = .ok (.getfield index, 3)) (hF : gw_F own index ci j) (hb : b < N) (he : cE G o b = .inr (ci, fs)) (hv : fs[j]? = some v) (k : CW x G nL (pc + 3) ls (v :: st) o N) : CW x G nL pc ls (.ref (G.1 + b) :: st) o N := fun H locs arr hP hz hS hl =>
  va_get C.1 C.2.1 C.2.2.2.2.1 (gw_cin ci hF.1) C.2.2.2.1 C.2.2.2.2.2.2.2.1 hP b ((cW_at G o hb).trans (by rw [he])) (gw_cvw ci hF.1) j hF.2.1 (C.2.2.2.2.1 _ hF.2.2.1) (fun z hz => by rw [← hF.2.2.2]; exact hz) hv hd (k H locs arr hP hz hS hl)
end CR
