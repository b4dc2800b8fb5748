/-! the law's entry: the two objects and the long cell are made, then the loop (laid by wip/whole/mkstart.py) -/
def A0 : aS := ((0, fun _ => 0), oNil, fun _ => oNil, 0, fun _ => none)
theorem CI_0 : CI s0 A0 := ⟨⟨rfl, fun i hi => absurd hi (Nat.not_lt_zero i)⟩, ⟨rfl, rfl, fun m hm => absurd hm (Nat.not_lt_zero m), fun w hw => absurd hw (Nat.not_lt_zero w)⟩, ⟨0, by decide, rfl, fun i hi => absurd hi (Nat.not_lt_zero i)⟩, rfl, fun _ _ => ⟨rfl, fun _ h => nomatch h⟩⟩
theorem MI_0 : MI s0 A0 := ⟨⟨rfl, fun i hi => absurd hi (Nat.not_lt_zero i)⟩, ⟨rfl, rfl, fun m hm => absurd hm (Nat.not_lt_zero m), fun w hw => absurd hw (Nat.not_lt_zero w)⟩, rfl, fun i hi => absurd hi (Nat.not_lt_zero i), fun _ _ => ⟨rfl, fun _ h => nomatch h⟩⟩
theorem VA_0 : VA A0 := ⟨⟨by decide, fun i hi => absurd hi (Nat.not_lt_zero i)⟩, VT_nil, by decide, fun i hi => absurd hi (Nat.not_lt_zero i), fun _ _ _ h => nomatch h⟩
theorem gi_all : ∀ ci, ci < 8 → Cond.instantiable (gw_cw ci).1 (gw_cw ci).2.2 ∈ gw_tbl := by
  intro ci h
  match ci, h with
  | 0, _ => exact gi_0
  | 1, _ => exact gi_2
  | 2, _ => exact gi_3
  | 3, _ => exact gi_4
  | 4, _ => exact gi_5
  | 5, _ => exact gi_6
  | 6, _ => exact gi_7
  | 7, _ => exact gi_8
  | n + 8, h => exact absurd h (by omega)
theorem gw_non : ∀ w ∈ gw_nst, w.onTables = true := fun w hw => List.all_eq_true.mp (show (lw_tbl.filter gw_isN).all (fun w => w.onTables) = true by decide +kernel) w hw
theorem gw_nin : ∀ w ∈ gw_nst, w ∈ lw_tbl := fun _ h => (List.mem_filter.mp h).1
theorem k_arr {ty : FieldType} {a : Array Value} {s : State} (h : (Cond.arrayClass ty).before a s = true) : ∃ cA : ClassId, ArrOfT s cA ty ∧ s.vm.findClass ("[" ++ ty.toString) = some cA := by
  obtain ⟨cA, kA, comp, h1, h2, h3⟩ := Cond.arrayClass_spec h
  exact ⟨cA, fun n z => ⟨fun k h => (by cases h), kA, h2, comp, h3⟩, h1⟩
theorem k_arrO {C : String} {a : Array Value} {s : State} (h : (Cond.arrayOver (.object C)).before a s = true) : ∃ cA : ClassId, ArrOfT s cA (.object C) ∧ va_RA s cA (.object C) := by
  obtain ⟨comp, cA, kA, h1, -, h3, h4, h5⟩ := Cond.arrayOver_spec h
  exact ⟨cA, fun n z => ⟨fun k h => (by cases h), kA, h3, comp, h4⟩, ⟨kA, comp, h3, h4, h1, h5⟩⟩
theorem k_enum {s : State} {b : Nat} {A : Nat → Prop} (hts : ∀ w ∈ lw_tbl, w.before #[Value.ref b] s = true) (hgv : (Jvm.Cond.and given_1 narrow_1).before #[Value.ref b] s = true) (hA : ∀ a : Nat, a < s.heap.size → ¬ A a) : ∃ ad : Nat → Nat, (∀ i, i < 4 → va_Z RX1 (gw_en i) "LRateWires$Fault;" (.ref (ad i)) A s s.heap) ∧ ∀ i j, i < 4 → j < 4 → ad i = ad j → i = j := by
  have hs := flat_of_before _ hgv
  have hini : (Cond.initialized RX1).before #[Value.ref b] s = true := hts _ (by decide +kernel)
  have l0 : (Cond.laysStatic RX1 "FINE" "LRateWires$Fault;").before #[Value.ref b] s = true := hts _ (by decide +kernel)
  have x0 : (Cond.exactly (.static RX1 "FINE" "LRateWires$Fault;") RX1).before #[Value.ref b] s = true := hs _ (by decide +kernel)
  have l1 : (Cond.laysStatic RX1 "NO_SUCH" "LRateWires$Fault;").before #[Value.ref b] s = true := hts _ (by decide +kernel)
  have x1 : (Cond.exactly (.static RX1 "NO_SUCH" "LRateWires$Fault;") RX1).before #[Value.ref b] s = true := hs _ (by decide +kernel)
  have l2 : (Cond.laysStatic RX1 "RANGE" "LRateWires$Fault;").before #[Value.ref b] s = true := hts _ (by decide +kernel)
  have x2 : (Cond.exactly (.static RX1 "RANGE" "LRateWires$Fault;") RX1).before #[Value.ref b] s = true := hs _ (by decide +kernel)
  have l3 : (Cond.laysStatic RX1 "STATE" "LRateWires$Fault;").before #[Value.ref b] s = true := hts _ (by decide +kernel)
  have x3 : (Cond.exactly (.static RX1 "STATE" "LRateWires$Fault;") RX1).before #[Value.ref b] s = true := hs _ (by decide +kernel)
  have n20 : (Cond.not (.eq (.static RX1 "RANGE" "LRateWires$Fault;") (.static RX1 "FINE" "LRateWires$Fault;"))).before #[Value.ref b] s = true := hs _ (by decide +kernel)
  have n21 : (Cond.not (.eq (.static RX1 "RANGE" "LRateWires$Fault;") (.static RX1 "NO_SUCH" "LRateWires$Fault;"))).before #[Value.ref b] s = true := hs _ (by decide +kernel)
  have n01 : (Cond.not (.eq (.static RX1 "FINE" "LRateWires$Fault;") (.static RX1 "NO_SUCH" "LRateWires$Fault;"))).before #[Value.ref b] s = true := hs _ (by decide +kernel)
  have n23 : (Cond.not (.eq (.static RX1 "RANGE" "LRateWires$Fault;") (.static RX1 "STATE" "LRateWires$Fault;"))).before #[Value.ref b] s = true := hs _ (by decide +kernel)
  have n03 : (Cond.not (.eq (.static RX1 "FINE" "LRateWires$Fault;") (.static RX1 "STATE" "LRateWires$Fault;"))).before #[Value.ref b] s = true := hs _ (by decide +kernel)
  have n13 : (Cond.not (.eq (.static RX1 "NO_SUCH" "LRateWires$Fault;") (.static RX1 "STATE" "LRateWires$Fault;"))).before #[Value.ref b] s = true := hs _ (by decide +kernel)
  obtain ⟨a0, -, -, -, e0, -⟩ := Cond.exactly_spec x0
  obtain ⟨a1, -, -, -, e1, -⟩ := Cond.exactly_spec x1
  obtain ⟨a2, -, -, -, e2, -⟩ := Cond.exactly_spec x2
  obtain ⟨a3, -, -, -, e3, -⟩ := Cond.exactly_spec x3
  refine ⟨fun i => match i with | 0 => a0 | 1 => a1 | 2 => a2 | _ => a3, fun i hi => ?_, fun i j hi hj h => ?_⟩
  · match i, hi with
    | 0, _ => exact va_Zref l0 hini e0 hA
    | 1, _ => exact va_Zref l1 hini e1 hA
    | 2, _ => exact va_Zref l2 hini e2 hA
    | 3, _ => exact va_Zref l3 hini e3 hA
    | n + 4, h => exact absurd h (by omega)
  · match i, j, hi, hj, h with
    | 0, 0, _, _, _ => rfl
    | 0, 1, _, _, h => exact absurd h (va_neR n01 e0 e1)
    | 0, 2, _, _, h => exact absurd h.symm (va_neR n20 e2 e0)
    | 0, 3, _, _, h => exact absurd h (va_neR n03 e0 e3)
    | 1, 0, _, _, h => exact absurd h.symm (va_neR n01 e0 e1)
    | 1, 1, _, _, _ => rfl
    | 1, 2, _, _, h => exact absurd h.symm (va_neR n21 e2 e1)
    | 1, 3, _, _, h => exact absurd h (va_neR n13 e1 e3)
    | 2, 0, _, _, h => exact absurd h (va_neR n20 e2 e0)
    | 2, 1, _, _, h => exact absurd h (va_neR n21 e2 e1)
    | 2, 2, _, _, _ => rfl
    | 2, 3, _, _, h => exact absurd h (va_neR n23 e2 e3)
    | 3, 0, _, _, h => exact absurd h.symm (va_neR n03 e0 e3)
    | 3, 1, _, _, h => exact absurd h.symm (va_neR n13 e1 e3)
    | 3, 2, _, _, h => exact absurd h.symm (va_neR n23 e2 e3)
    | 3, 3, _, _, _ => rfl
    | n + 4, _, h, _, _ => exact absurd h (by omega)
    | _, n + 4, _, h, _ => exact absurd h (by omega)
theorem k_T {s : State} {b : Nat} {G : gw_G} (hts : ∀ w ∈ lw_tbl, w.before #[Value.ref b] s = true) (hgv : (Jvm.Cond.and given_1 narrow_1).before #[Value.ref b] s = true) (hA : ∀ a : Nat, a < s.heap.size → ¬ gw_A G a) : gw_T G s := by
  have hs := flat_of_before _ hgv
  have w297 : (Cond.stringRef RX7 297 "there is no such module, wire or save slot").before #[Value.ref b] s = true := hts _ (by decide +kernel)
  have x297 : (Cond.exactly (.string RX7 297) "java/lang/String").before #[Value.ref b] s = true := hs _ (by decide +kernel)
  obtain ⟨a297, -, -, -, e297, -⟩ := Cond.exactly_spec x297
  have w304 : (Cond.stringRef RX7 304 "an argument is out of its range").before #[Value.ref b] s = true := hts _ (by decide +kernel)
  have x304 : (Cond.exactly (.string RX7 304) "java/lang/String").before #[Value.ref b] s = true := hs _ (by decide +kernel)
  obtain ⟨a304, -, -, -, e304, -⟩ := Cond.exactly_spec x304
  have w309 : (Cond.stringRef RX7 309 "this cannot be done now").before #[Value.ref b] s = true := hts _ (by decide +kernel)
  have x309 : (Cond.exactly (.string RX7 309) "java/lang/String").before #[Value.ref b] s = true := hs _ (by decide +kernel)
  obtain ⟨a309, -, -, -, e309, -⟩ := Cond.exactly_spec x309
  have hini : (Cond.initialized Bundle.tN).before #[Value.ref b] s = true := hts _ (by decide +kernel)
  have lu : (Cond.laysStatic Bundle.tN "UNASSIGNED_STACK" Bundle.steD).before #[Value.ref b] s = true := hts _ (by decide +kernel)
  have ru : (Cond.isRef (.static Bundle.tN "UNASSIGNED_STACK" Bundle.steD)).before #[Value.ref b] s = true := hs _ (by decide +kernel)
  have lv : (Cond.laysStatic Bundle.tN "SUPPRESSED_SENTINEL" Bundle.listD).before #[Value.ref b] s = true := hts _ (by decide +kernel)
  have rv : (Cond.isRef (.static Bundle.tN "SUPPRESSED_SENTINEL" Bundle.listD)).before #[Value.ref b] s = true := hs _ (by decide +kernel)
  have c12 : (Cond.not (.castable "java/lang/IndexOutOfBoundsException" "java/lang/IllegalArgumentException")).before #[Value.ref b] s = true := hs _ (by decide +kernel)
  have c13 : (Cond.not (.castable "java/lang/IndexOutOfBoundsException" "java/lang/IllegalStateException")).before #[Value.ref b] s = true := hs _ (by decide +kernel)
  have c21 : (Cond.not (.castable "java/lang/IllegalArgumentException" "java/lang/IndexOutOfBoundsException")).before #[Value.ref b] s = true := hs _ (by decide +kernel)
  have c23 : (Cond.not (.castable "java/lang/IllegalArgumentException" "java/lang/IllegalStateException")).before #[Value.ref b] s = true := hs _ (by decide +kernel)
  have c31 : (Cond.not (.castable "java/lang/IllegalStateException" "java/lang/IndexOutOfBoundsException")).before #[Value.ref b] s = true := hs _ (by decide +kernel)
  have c32 : (Cond.not (.castable "java/lang/IllegalStateException" "java/lang/IllegalArgumentException")).before #[Value.ref b] s = true := hs _ (by decide +kernel)
  refine ⟨⟨a297, vk_R.of w297 e297⟩, ⟨a304, vk_R.of w304 e304⟩, ⟨a309, vk_R.of w309 e309⟩, vx_Zqof lu hini ru hA, vx_Zqof lv hini rv hA, fun i j hi0 hi hj0 hj hij => ?_⟩
  match i, j, hi0, hi, hj0, hj, hij with
  | 0, _, h, _, _, _, _ => exact absurd h (by omega)
  | _, 0, _, _, h, _, _ => exact absurd h (by omega)
  | 1, 1, _, _, _, _, h => exact absurd rfl h
  | 1, 2, _, _, _, _, _ => exact va_Nc.of c12
  | 1, 3, _, _, _, _, _ => exact va_Nc.of c13
  | 2, 1, _, _, _, _, _ => exact va_Nc.of c21
  | 2, 2, _, _, _, _, h => exact absurd rfl h
  | 2, 3, _, _, _, _, _ => exact va_Nc.of c23
  | 3, 1, _, _, _, _, _ => exact va_Nc.of c31
  | 3, 2, _, _, _, _, _ => exact va_Nc.of c32
  | 3, 3, _, _, _, _, h => exact absurd rfl h
  | n + 4, _, _, h, _, _, _ => exact absurd h (by omega)
  | _, n + 4, _, _, _, h, _ => exact absurd h (by omega)
theorem k_start {s : State} {b : Nat} (hts : ∀ w ∈ lw_tbl, w.before #[Value.ref b] s = true) (hgv : (Jvm.Cond.and given_1 narrow_1).before #[Value.ref b] s = true) : ∃ G : gw_G, G.1 = s.heap.size ∧ gw_K G s := by
  have ht : ∀ w ∈ gw_tbl, w.before #[Value.ref b] s = true := fun w hw => hts w (gw_sub w hw)
  have hc : ∀ ci : Nat, ∃ q : ClassId × (Nat → Nat), ci < 8 → u_Kn s (gw_cw ci).1 (gw_cw ci).2.1 (gw_cw ci).2.2 q.1 q.2 := by
    intro ci
    by_cases h : ci < 8
    · obtain ⟨cC, iS, k⟩ := u_known ht (gw_cin ci h) (ht _ (gi_all ci h))
      exact ⟨(cC, iS), fun _ => k⟩
    · obtain ⟨cC, iS, k⟩ := u_known ht (gw_cin 0 (by decide)) (ht _ (gi_all 0 (by decide)))
      exact ⟨(cC, iS), fun z => absurd z h⟩
  obtain ⟨cq, hcq⟩ := Classical.axiomOfChoice hc
  obtain ⟨t0, u0, v0⟩ := k_arr (ht _ ga_int)
  obtain ⟨t1, u1, v1⟩ := k_arr (ht _ ga_boolean)
  obtain ⟨t2, u2, v2⟩ := k_arr (ht _ ga_char)
  obtain ⟨t3, u3, v3⟩ := k_arr (ht _ ga_long)
  obtain ⟨t4, u4, v4⟩ := k_arrO (hts (Cond.arrayOver (.object RX3)) (by decide +kernel))
  have hA : ∀ a : Nat, a < s.heap.size → ¬ s.heap.size ≤ a := fun a h => by omega
  obtain ⟨ad, had1, had2⟩ := k_enum (A := fun q => s.heap.size ≤ q) hts hgv hA
  refine ⟨(s.heap.size, (fun ci => (cq ci).1, fun ci => (cq ci).2), (t0, t1, t2, t3, t4), ad), rfl, ⟨fun c q hq => ?_, fun k q hq => ?_⟩, had1, had2, Nat.le_refl _, fun w hw => va_Nw.of (gw_non w hw) (hts w (gw_nin w hw)), k_T hts hgv hA⟩
  · have h8 : c < 8 := (List.getElem?_eq_some_iff.mp hq).1
    obtain rfl : gw_cw c = q := Option.some.inj ((gw_cvw c h8).symm.trans hq)
    exact hcq c h8
  · match k, hq with
    | 0, hq => exact (Option.some.inj hq) ▸ ⟨u0, v0⟩
    | 1, hq => exact (Option.some.inj hq) ▸ ⟨u1, v1⟩
    | 2, hq => exact (Option.some.inj hq) ▸ ⟨u2, v2⟩
    | 3, hq => exact (Option.some.inj hq) ▸ ⟨u3, v3⟩
    | 4, hq => exact (Option.some.inj hq) ▸ ⟨u4, v4⟩
    | n + 5, hq => exact absurd (List.getElem?_eq_some_iff.mp hq).1 (by show ¬ n + 5 < 5; omega)
/-- the law's body from its entry -/
theorem law_main {x : gw_X} {G : gw_G} {b L : Nat} {sc : Nat → Int32} (hL : L ≤ 3072) (X : LX x G b L sc) (hAO : va_AO RX3 (xs x)) (h0 : xk x = 0) (h1 : xn x = 0) : CW x G 7 0 [(0, .ref b)] [] oN 0 := by
  have hR : ∀ a c k n : Nat, a + k ≤ 601024 → c + n ≤ 7293034 → xk (xup x a c) + k ≤ (xR (xup x a c)).cells ∧ xn (xup x a c) + n ≤ (xR (xup x a c)).slots := fun a c k n z1 z2 => by
    show xk x + a + k ≤ (xR x).cells ∧ xn x + c + n ≤ (xR x).slots
    rw [X.2.1, h0, h1]; exact ⟨by show 0 + a + k ≤ 601024; omega, by show 0 + c + n ≤ 7293034; omega⟩
  have hF : ∀ d q : Nat, d ≤ 10 → q ≤ 19 + 11 * 3 → d + 1 ≤ (xR x).frames ∧ 8 + q + 30 * d ≤ (xR x).locals := fun d q z1 z2 => by rw [X.2.1]; exact ⟨by show d + 1 ≤ 11; omega, by show 8 + q + 30 * d ≤ 416; omega⟩
  show CW (xup x 0 0) _ _ _ _ _ _ _
  refine cw_new (X.up _ _).1 6 dL_law_0 (by decide) gc_RL_8 gi_7 gj_7 fd_7 (hR 0 0 1 9 (by decide) (by decide)) ?_
  rw [xup_xup]
  refine cw_dup (X.up _ _).1 dL_law_3 rfl ?_
  refine cw_callL (b := 0) (X.up _ _).1 hAO dL_law_4 k_7 ki_7 gl_RL_87 (hF 3 13 (by decide) (by decide)) (hR _ _ 188 2667 (by decide) (by decide)) (show 1 ≤ 8 by decide) ?_
  rw [xup_xup]
  refine cw_astore_n (X.up _ _).1 dL_law_7 rfl (by decide) rfl ?_
  refine cw_new (X.up _ _).1 7 dL_law_8 (by decide) gc_RL_88 gi_8 gj_8 fd_8 (hR _ _ 1 25 (by decide) (by decide)) ?_
  rw [xup_xup]
  refine cw_dup (X.up _ _).1 dL_law_11 rfl ?_
  refine cw_callL (b := 189) (X.up _ _).1 hAO dL_law_12 (k_8 (fun _ _ => rfl)) ki_8 gl_RL_90 (hF 1 12 (by decide) (by decide)) (hR _ _ 16 2640 (by decide) (by decide)) (show 1 ≤ 8 by decide) ?_
  rw [xup_xup]
  refine cw_astore_n (X.up _ _).1 dL_law_15 rfl (by decide) rfl ?_
  refine cw_iconst (v := nI 1) (X.up _ _).1 dL_law_16 (by decide) ?_
  refine cw_newa (X.up _ _).1 3 dL_law_17 ga_long rfl (fun _ _ h => va_nm_long h) (fun _ => rfl) (cE_3 rfl gk_206.2) (by decide) (by decide) (hR _ _ 1 1 (by decide) (by decide)) ?_
  rw [xup_xup]
  refine cw_astore_n (X.up _ _).1 dL_law_19 rfl (by decide) rfl ?_
  refine cw_iconst (v := nI 0) (X.up _ _).1 dL_law_20 (by decide) ?_
  refine cw_istore (X.up _ _).1 dL_law_21 (by decide) rfl ?_
  intro H locs arr hP hz hS hl
  refine pw_sub [4, 3, 2, 1, 0] rfl (law_loop hL 512 _ 0 A0 s0 (X.up _ _) (by omega) (by decide) ?_ ?_ CI_0 MI_0 VA_0) H locs arr hP hS hl
  · show xk x + (0 + 1 + 188 + 1 + 16 + 1) + 512 ≤ 601024
    rw [h0]; decide
  · show xn x + (0 + 9 + 2667 + 25 + 2640 + 1) + 6 * 512 ≤ 7293034
    rw [h1]; decide
/-- YOUR PART: from the entry, for every script of at most 3072 ints, the law comes to its end with true -/
theorem whole_start {p : Program} {e : Env} {s : State} {m : MethodId} {below : List Frame} {meth : Method} {c : Code} (l : Launch) (hflags : l.flags = flags0) {b L : Nat} {xs : Nat → Int32} (hL : L ≤ 3072) (C0 : lw_At p s m meth c b L xs) : W p l e room_1 s m #[Value.ref b] below meth c s.heap [] 0 0 (lw_Z below #[Value.ref b] s) (entryFrame m ([Value.ref b] : List Value).toArray 7) := by
  obtain ⟨hx, hb, hr, hml, hown, hts, hX, hbl, hlk, hgv⟩ := C0
  obtain ⟨G, hG, hK⟩ := k_start hts hgv
  have hl := lv_entry ([.ref b] : List Value) (n := 7) (show 1 ≤ 7 by decide)
  rw [lg_entry_eq]
  have C : XC (p, l, e, room_1, s, m, #[Value.ref b], below, meth, c, lw_Z below #[Value.ref b] s, 0, 0) G RL cL_law 7 (some .boolean) := ⟨hx, hb, hml, hown, fun w hw => hts w (gw_sub w hw), hr, hlk, hK⟩
  have hst : l.stackTraces = false := by
    unfold Launch.stackTraces
    rw [hflags]
    decide
  have X : LX (p, l, e, room_1, s, m, #[Value.ref b], below, meth, c, lw_Z below #[Value.ref b] s, 0, 0) G b L xs := ⟨C, rfl, rfl, rfl, hG, hst, hX, by rw [hG]; exact hbl⟩
  exact law_main hL X (va_AO.of (hts (Cond.arrayOver (.object RX3)) (by decide +kernel))) rfl rfl s.heap [] _ (fun k q hq => by cases hq) (by rw [hG]; rfl) va_S.rf hl
