/-! the world: all cells of the run, in the order in which they are made; one judgement PW over it; a row an instruction -/
abbrev gw_G : Type := Nat × va_G × (ClassId × ClassId × ClassId × ClassId × ClassId) × (Nat → Nat)
abbrev gw_S : Type := (Nat → Nat → Int32) × (Nat → Nat → Int64)
def gw_kdl : List (Nat × Nat × List (Option Nat)) := [(11, 0, [some 1, some 3, some 12, some 140, some 141, some 142, some 151, some 167, some 169]), (9, 0, [some 2, none]), (2, 120, []), (7, 0, [none, some 4, some 5, some 6, none, some 7, some 8, some 9, some 10, some 11]), (0, 8, []), (0, 8, []), (0, 8, []), (0, 14, []), (0, 14, []), (0, 14, []), (0, 14, []), (0, 14, []), (6, 0, [some 13, none, none]), (4, 14, [some 14, some 23, some 32, some 41, some 50, some 59, some 68, some 77, some 86, some 95, some 104, some 113, some 122, some 131]), (7, 0, [none, some 15, some 16, some 17, none, some 18, some 19, some 20, some 21, some 22]), (0, 8, []), (0, 8, []), (0, 8, []), (0, 14, []), (0, 14, []), (0, 14, []), (0, 14, []), (0, 14, []), (7, 0, [none, some 24, some 25, some 26, none, some 27, some 28, some 29, some 30, some 31]), (0, 8, []), (0, 8, []), (0, 8, []), (0, 14, []), (0, 14, []), (0, 14, []), (0, 14, []), (0, 14, []), (7, 0, [none, some 33, some 34, some 35, none, some 36, some 37, some 38, some 39, some 40]), (0, 8, []), (0, 8, []), (0, 8, []), (0, 14, []), (0, 14, []), (0, 14, []), (0, 14, []), (0, 14, []), (7, 0, [none, some 42, some 43, some 44, none, some 45, some 46, some 47, some 48, some 49]), (0, 8, []), (0, 8, []), (0, 8, []), (0, 14, []), (0, 14, []), (0, 14, []), (0, 14, []), (0, 14, []), (7, 0, [none, some 51, some 52, some 53, none, some 54, some 55, some 56, some 57, some 58]), (0, 8, []), (0, 8, []), (0, 8, []), (0, 14, []), (0, 14, []), (0, 14, []), (0, 14, []), (0, 14, []), (7, 0, [none, some 60, some 61, some 62, none, some 63, some 64, some 65, some 66, some 67]), (0, 8, []), (0, 8, []), (0, 8, []), (0, 14, []), (0, 14, []), (0, 14, []), (0, 14, []), (0, 14, []), (7, 0, [none, some 69, some 70, some 71, none, some 72, some 73, some 74, some 75, some 76]), (0, 8, []), (0, 8, []), (0, 8, []), (0, 14, []), (0, 14, []), (0, 14, []), (0, 14, []), (0, 14, []), (7, 0, [none, some 78, some 79, some 80, none, some 81, some 82, some 83, some 84, some 85]), (0, 8, []), (0, 8, []), (0, 8, []), (0, 14, []), (0, 14, []), (0, 14, []), (0, 14, []), (0, 14, []), (7, 0, [none, some 87, some 88, some 89, none, some 90, some 91, some 92, some 93, some 94]), (0, 8, []), (0, 8, []), (0, 8, []), (0, 14, []), (0, 14, []), (0, 14, []), (0, 14, []), (0, 14, []), (7, 0, [none, some 96, some 97, some 98, none, some 99, some 100, some 101, some 102, some 103]), (0, 8, []), (0, 8, []), (0, 8, []), (0, 14, []), (0, 14, []), (0, 14, []), (0, 14, []), (0, 14, []), (7, 0, [none, some 105, some 106, some 107, none, some 108, some 109, some 110, some 111, some 112]), (0, 8, []), (0, 8, []), (0, 8, []), (0, 14, []), (0, 14, []), (0, 14, []), (0, 14, []), (0, 14, []), (7, 0, [none, some 114, some 115, some 116, none, some 117, some 118, some 119, some 120, some 121]), (0, 8, []), (0, 8, []), (0, 8, []), (0, 14, []), (0, 14, []), (0, 14, []), (0, 14, []), (0, 14, []), (7, 0, [none, some 123, some 124, some 125, none, some 126, some 127, some 128, some 129, some 130]), (0, 8, []), (0, 8, []), (0, 8, []), (0, 14, []), (0, 14, []), (0, 14, []), (0, 14, []), (0, 14, []), (7, 0, [none, some 132, some 133, some 134, none, some 135, some 136, some 137, some 138, some 139]), (0, 8, []), (0, 8, []), (0, 8, []), (0, 14, []), (0, 14, []), (0, 14, []), (0, 14, []), (0, 14, []), (4, 2, [some 171, some 180]), (1, 2, []), (7, 0, [none, some 143, some 144, some 145, none, some 146, some 147, some 148, some 149, some 150]), (0, 8, []), (0, 8, []), (0, 8, []), (0, 14, []), (0, 14, []), (0, 14, []), (0, 14, []), (0, 14, []), (5, 0, [some 152, some 154, some 163, some 164, some 165, some 166, none, none, none]), (8, 0, [some 153, none]), (0, 8, []), (7, 0, [none, some 155, some 156, some 157, none, some 158, some 159, some 160, some 161, some 162]), (0, 8, []), (0, 8, []), (0, 8, []), (0, 14, []), (0, 14, []), (0, 14, []), (0, 14, []), (0, 14, []), (0, 8, []), (0, 8, []), (0, 480, []), (0, 14, []), (8, 0, [some 168, none]), (0, 8, []), (10, 0, [some 170]), (0, 8, []), (7, 0, [none, some 172, some 173, some 174, none, some 175, some 176, some 177, some 178, some 179]), (0, 8, []), (0, 8, []), (0, 8, []), (0, 14, []), (0, 14, []), (0, 14, []), (0, 14, []), (0, 14, []), (7, 0, [none, some 181, some 182, some 183, none, some 184, some 185, some 186, some 187, some 188]), (0, 8, []), (0, 8, []), (0, 8, []), (0, 14, []), (0, 14, []), (0, 14, []), (0, 14, []), (0, 14, []), (12, 0, [none, some 190, none, none, none, none, some 191, some 192, some 193, some 194, none, some 195, some 196, some 197, some 198, none, some 199, some 200, some 201, some 202, none, some 203, none, some 204, some 205]), (0, 120, []), (0, 96, []), (0, 96, []), (0, 96, []), (0, 1344, []), (0, 192, []), (1, 2, []), (0, 8, []), (0, 8, []), (3, 8, []), (3, 8, []), (0, 8, []), (0, 480, []), (0, 14, []), (0, 64, []), (0, 96, []), (3, 1, [])]
def gw_kd (k : Nat) : Nat × Nat × List (Option Nat) := gw_kdl.getD k (99, 0, [])
def gw_n : Nat := 207
/-- the words that every method may use -/
def gw_tbl : List Cond := lw_tbl.filter goodWord
theorem gw_mem {w : Cond} (h : w ∈ lw_tbl) (hg : goodWord w = true) : w ∈ gw_tbl := List.mem_filter.mpr ⟨h, hg⟩
theorem gw_sub : ∀ w ∈ gw_tbl, w ∈ lw_tbl := fun _ h => (List.mem_filter.mp h).1
def gw_fs (B : Nat) (f : Nat → Int32) : Nat → List (Option Nat) → List Value
  | _, [] => []
  | j, none :: r => .int (f j) :: gw_fs B f (j + 1) r
  | j, some t :: r => .ref (B + t) :: gw_fs B f (j + 1) r
def gw_ct (G : gw_G) (σ : gw_S) (k : Nat) : va_E :=
  match gw_kd k with
  | (0, n, _) => .inl (G.2.2.1.1, n, .inl (σ.1 k))
  | (1, n, _) => .inl (G.2.2.1.2.1, n, .inl (σ.1 k))
  | (2, n, _) => .inl (G.2.2.1.2.2.1, n, .inl (σ.1 k))
  | (3, n, _) => .inl (G.2.2.1.2.2.2.1, n, .inr (.inl (σ.2 k)))
  | (4, n, t) => .inl (G.2.2.1.2.2.2.2, n, .inr (.inr (.inr (.inr (fun j => (t.getD j none).map (fun z => G.1 + z))))))
  | (c + 5, _, t) => .inr (c, gw_fs G.1 (σ.1 k) 0 t)
def gw_ws (G : gw_G) (σ : gw_S) : va_W := (List.range gw_n).map (fun k => (G.1 + k, gw_ct G σ k))
def gw_P (G : gw_G) (σ : gw_S) (H : Heap) : Prop := va_P G.2.1 vwCl (gw_ws G σ) H
def gw_A (G : gw_G) : Nat → Prop := fun q => G.1 ≤ q
abbrev gw_ty (G : gw_G) : List (ClassId × FieldType) := [(G.2.2.1.1, .int), (G.2.2.1.2.1, .boolean), (G.2.2.1.2.2.1, .char), (G.2.2.1.2.2.2.1, .long), (G.2.2.1.2.2.2.2, .object RX3)]
def gw_en : Nat → String := fun i => match i with
  | 0 => "FINE"
  | 1 => "NO_SUCH"
  | 2 => "RANGE"
  | _ => "STATE"
def gw_isN : Cond → Bool
  | .fieldLinkNest .. => true
  | .methodLinkNest .. => true
  | .castable .. => true
  | .declares _ => true
  | _ => false
/-- the words on nest mates -/
def gw_nst : List Cond := lw_tbl.filter gw_isN
theorem gw_nmem {w : Cond} (h : w ∈ lw_tbl) (hg : gw_isN w = true) : w ∈ gw_nst := List.mem_filter.mpr ⟨h, hg⟩
def gw_exn : Nat → String := fun i => match i with
  | 0 => ""
  | 1 => "java/lang/IndexOutOfBoundsException"
  | 2 => "java/lang/IllegalArgumentException"
  | _ => "java/lang/IllegalStateException"
/-- what a throw asks of a state -/
def gw_T (G : gw_G) (U : State) : Prop := (∃ a, vk_R RX7 297 "there is no such module, wire or save slot" a U) ∧ (∃ a, vk_R RX7 304 "an argument is out of its range" a U) ∧ (∃ a, vk_R RX7 309 "this cannot be done now" a U) ∧ vx_Zq Bundle.tN "UNASSIGNED_STACK" Bundle.steD (gw_A G) U U.heap ∧ vx_Zq Bundle.tN "SUPPRESSED_SENTINEL" Bundle.listD (gw_A G) U U.heap ∧ ∀ i j, 0 < i → i < 4 → 0 < j → j < 4 → ¬ i = j → va_Nc (gw_exn i) (gw_exn j) U
/-- what stays: classes, array classes, the enum's constants -/
def gw_K (G : gw_G) (U : State) : Prop := va_K G.2.1 vwCl (gw_ty G) U ∧ (∀ i, i < 4 → va_Z RX1 (gw_en i) "LRateWires$Fault;" (.ref (G.2.2.2 i)) (gw_A G) U U.heap) ∧ (∀ i j, i < 4 → j < 4 → G.2.2.2 i = G.2.2.2 j → i = j) ∧ G.1 ≤ U.heap.size ∧ (∀ w ∈ gw_nst, va_Nw w U) ∧ gw_T G U
theorem gw_at (G : gw_G) (σ : gw_S) {k : Nat} (h : k < gw_n) : (gw_ws G σ)[k]? = some (G.1 + k, gw_ct G σ k) := by
  simp [gw_ws, List.getElem?_map, List.getElem?_range h]
theorem gw_lk {G : gw_G} {σ : gw_S} {k : Nat} {q : Nat × va_E} (h : (gw_ws G σ)[k]? = some q) : k < gw_n ∧ q = (G.1 + k, gw_ct G σ k) := by
  have hl : k < (gw_ws G σ).length := (List.getElem?_eq_some_iff.mp h).1
  have hk : k < gw_n := by simpa [gw_ws] using hl
  exact ⟨hk, Option.some.inj (h.symm.trans (gw_at G σ hk))⟩
theorem gw_D (G : gw_G) (σ : gw_S) : va_D (gw_A G) (gw_ws G σ) := by
  refine ⟨fun i j x y hi hj hxy => ?_, fun k q hk => ?_⟩
  · obtain ⟨h1, rfl⟩ := gw_lk hi
    obtain ⟨h2, rfl⟩ := gw_lk hj
    exact Nat.add_left_cancel hxy
  · obtain ⟨h1, rfl⟩ := gw_lk hk
    exact Nat.le_add_right _ _
theorem gw_wset {G : gw_G} {σ σ' : gw_S} {k : Nat} {e : va_E} (h : k < gw_n) (he : gw_ct G σ' k = e) (ho : ∀ k', k' ≠ k → gw_ct G σ' k' = gw_ct G σ k') : (gw_ws G σ).set k (G.1 + k, e) = gw_ws G σ' := by
  apply List.ext_getElem?
  intro i
  by_cases hik : i = k
  · subst hik
    rw [List.getElem?_set_self (by simpa [gw_ws] using h), gw_at G σ' h, he]
  · rw [List.getElem?_set_ne (Ne.symm hik)]
    by_cases hi : i < gw_n
    · rw [gw_at G σ hi, gw_at G σ' hi, ho i hik]
    · rw [List.getElem?_eq_none (by simpa [gw_ws] using hi), List.getElem?_eq_none (by simpa [gw_ws] using hi)]
theorem gw_set {G : gw_G} {σ σ' : gw_S} {k : Nat} {e : va_E} {H1 : Heap} (h : k < gw_n) (he : gw_ct G σ' k = e) (ho : ∀ k', k' ≠ k → gw_ct G σ' k' = gw_ct G σ k') (hP : va_P G.2.1 vwCl ((gw_ws G σ).set k (G.1 + k, e)) H1) : gw_P G σ' H1 := by
  rw [gw_wset h he ho] at hP
  exact hP
theorem gw_ct_ne {G : gw_G} {σ σ' : gw_S} {k : Nat} (h1 : σ'.1 k = σ.1 k) (h2 : σ'.2 k = σ.2 k) : gw_ct G σ' k = gw_ct G σ k := by
  unfold gw_ct
  split <;> simp [h1, h2]
/-- a row of a cell is put -/
def gw_r (σ : gw_S) (k : Nat) (f : Nat → Int32) : gw_S := (fun k' => if k' = k then f else σ.1 k', σ.2)
def gw_rl (σ : gw_S) (k : Nat) (f : Nat → Int64) : gw_S := (σ.1, fun k' => if k' = k then f else σ.2 k')
/-- a place of a cell is put -/
def gw_u (σ : gw_S) (k j : Nat) (x : Int32) : gw_S := gw_r σ k (upd (σ.1 k) j x)
def gw_ul (σ : gw_S) (k j : Nat) (x : Int64) : gw_S := gw_rl σ k (vp_updL (σ.2 k) j x)
theorem gw_r_at (σ : gw_S) (k : Nat) (f : Nat → Int32) : (gw_r σ k f).1 k = f := by simp [gw_r]
theorem gw_r_ne (σ : gw_S) {k k' : Nat} (f : Nat → Int32) (h : k' ≠ k) : (gw_r σ k f).1 k' = σ.1 k' := by simp [gw_r, h]
theorem gw_r_l (σ : gw_S) (k : Nat) (f : Nat → Int32) : (gw_r σ k f).2 = σ.2 := rfl
theorem gw_rl_at (σ : gw_S) (k : Nat) (f : Nat → Int64) : (gw_rl σ k f).2 k = f := by simp [gw_rl]
theorem gw_rl_ne (σ : gw_S) {k k' : Nat} (f : Nat → Int64) (h : k' ≠ k) : (gw_rl σ k f).2 k' = σ.2 k' := by simp [gw_rl, h]
theorem gw_rl_i (σ : gw_S) (k : Nat) (f : Nat → Int64) : (gw_rl σ k f).1 = σ.1 := rfl
theorem gw_ct0 {G : gw_G} {σ : gw_S} {k n : Nat} {t : List (Option Nat)} (h : gw_kd k = (0, n, t)) : gw_ct G σ k = .inl (G.2.2.1.1, n, .inl (σ.1 k)) := by unfold gw_ct; rw [h]
theorem gw_ct1 {G : gw_G} {σ : gw_S} {k n : Nat} {t : List (Option Nat)} (h : gw_kd k = (1, n, t)) : gw_ct G σ k = .inl (G.2.2.1.2.1, n, .inl (σ.1 k)) := by unfold gw_ct; rw [h]
theorem gw_ct2 {G : gw_G} {σ : gw_S} {k n : Nat} {t : List (Option Nat)} (h : gw_kd k = (2, n, t)) : gw_ct G σ k = .inl (G.2.2.1.2.2.1, n, .inl (σ.1 k)) := by unfold gw_ct; rw [h]
theorem gw_ct3 {G : gw_G} {σ : gw_S} {k n : Nat} {t : List (Option Nat)} (h : gw_kd k = (3, n, t)) : gw_ct G σ k = .inl (G.2.2.1.2.2.2.1, n, .inr (.inl (σ.2 k))) := by unfold gw_ct; rw [h]
theorem gw_ct4 {G : gw_G} {σ : gw_S} {k n : Nat} {t : List (Option Nat)} (h : gw_kd k = (4, n, t)) : gw_ct G σ k = .inl (G.2.2.1.2.2.2.2, n, .inr (.inr (.inr (.inr (fun j => (t.getD j none).map (fun z => G.1 + z)))))) := by unfold gw_ct; rw [h]
theorem gw_ct5 {G : gw_G} {σ : gw_S} {k c n : Nat} {t : List (Option Nat)} (h : gw_kd k = (c + 5, n, t)) : gw_ct G σ k = .inr (c, gw_fs G.1 (σ.1 k) 0 t) := by unfold gw_ct; rw [h]
theorem gw_fs_len (B : Nat) (f : Nat → Int32) : ∀ (t : List (Option Nat)) (j : Nat), (gw_fs B f j t).length = t.length
  | [], _ => rfl
  | none :: r, j => by simp [gw_fs, gw_fs_len B f r]
  | some _ :: r, j => by simp [gw_fs, gw_fs_len B f r]
theorem gw_fs_i (B : Nat) (f : Nat → Int32) : ∀ (t : List (Option Nat)) (j i : Nat), t[i]? = some none → (gw_fs B f j t)[i]? = some (.int (f (j + i)))
  | [], _, _, h => by simp at h
  | none :: r, j, 0, _ => by simp [gw_fs]
  | some _ :: r, j, 0, h => by simp at h
  | none :: r, j, i + 1, h => by
    rw [gw_fs, List.getElem?_cons_succ, gw_fs_i B f r (j + 1) i (by simpa using h)]
    congr 3; omega
  | some _ :: r, j, i + 1, h => by
    rw [gw_fs, List.getElem?_cons_succ, gw_fs_i B f r (j + 1) i (by simpa using h)]
    congr 3; omega
theorem gw_fs_r (B : Nat) (f : Nat → Int32) {z : Nat} : ∀ (t : List (Option Nat)) (j i : Nat), t[i]? = some (some z) → (gw_fs B f j t)[i]? = some (.ref (B + z))
  | [], _, _, h => by simp at h
  | none :: r, j, 0, h => by simp at h
  | some _ :: r, j, 0, h => by simp at h; subst h; simp [gw_fs]
  | none :: r, j, i + 1, h => by
    rw [gw_fs, List.getElem?_cons_succ, gw_fs_r B f r (j + 1) i (by simpa using h)]
  | some _ :: r, j, i + 1, h => by
    rw [gw_fs, List.getElem?_cons_succ, gw_fs_r B f r (j + 1) i (by simpa using h)]
theorem gw_fs_set (B : Nat) (f : Nat → Int32) (x : Int32) : ∀ (t : List (Option Nat)) (j i : Nat), t[i]? = some none → (gw_fs B f j t).set i (.int x) = gw_fs B (upd f (j + i) x) j t
  | [], _, _, h => by simp at h
  | none :: r, j, 0, _ => by
    have h2 : ∀ (r : List (Option Nat)) (m : Nat), j < m → gw_fs B f m r = gw_fs B (upd f j x) m r := by
      intro r
      induction r with
      | nil => intro m _; rfl
      | cons a r ih =>
        intro m hm
        cases a with
        | none => simp only [gw_fs]; rw [ih (m + 1) (by omega)]; rw [show upd f j x m = f m by simp [upd]; omega]
        | some z => simp only [gw_fs]; rw [ih (m + 1) (by omega)]
    simp only [gw_fs, List.set_cons_zero, Nat.add_zero]
    rw [h2 r (j + 1) (by omega)]
    simp [upd]
  | some _ :: r, j, 0, h => by simp at h
  | none :: r, j, i + 1, h => by
    simp only [gw_fs, List.set_cons_succ]
    rw [gw_fs_set B f x r (j + 1) i (by simpa using h), show j + 1 + i = j + (i + 1) by omega]
    congr 2
    simp [upd]
  | some _ :: r, j, i + 1, h => by
    simp only [gw_fs, List.set_cons_succ]
    rw [gw_fs_set B f x r (j + 1) i (by simpa using h), show j + 1 + i = j + (i + 1) by omega]
/-- a body's machine, in one -/
abbrev gw_X : Type := Program × Launch × Env × Room × State × MethodId × Array Value × List Frame × Method × Code × (State → Prop) × Nat × Nat
abbrev xp (x : gw_X) : Program := x.1
abbrev xl (x : gw_X) : Launch := x.2.1
abbrev xe (x : gw_X) : Env := x.2.2.1
abbrev xR (x : gw_X) : Room := x.2.2.2.1
abbrev xs (x : gw_X) : State := x.2.2.2.2.1
abbrev xm (x : gw_X) : MethodId := x.2.2.2.2.2.1
abbrev xa (x : gw_X) : Array Value := x.2.2.2.2.2.2.1
abbrev xb (x : gw_X) : List Frame := x.2.2.2.2.2.2.2.1
abbrev xM (x : gw_X) : Method := x.2.2.2.2.2.2.2.2.1
abbrev xc (x : gw_X) : Code := x.2.2.2.2.2.2.2.2.2.1
abbrev xQ (x : gw_X) : State → Prop := x.2.2.2.2.2.2.2.2.2.2.1
abbrev xk (x : gw_X) : Nat := x.2.2.2.2.2.2.2.2.2.2.2.1
abbrev xn (x : gw_X) : Nat := x.2.2.2.2.2.2.2.2.2.2.2.2
abbrev xW (x : gw_X) (H : Heap) (locs : List Loc) (g : JFrame) : Prop := W (xp x) (xl x) (xe x) (xR x) (xs x) (xm x) (xa x) (xb x) (xM x) (xc x) H locs (xk x) (xn x) (xQ x) g
/-- what a body knows of its machine -/
def XC (x : gw_X) (G : gw_G) (own : String) (cc : ByteArray) (nL : Nat) (ret : Option FieldType) : Prop :=
  (xp x).tables.exec = Jvm.exec ∧ (xc x).code = cc ∧ (xc x).maxLocals = nL ∧ (xs x).vm.findClass own = some (xm x).cls ∧ (∀ w ∈ gw_tbl, w.before (xa x) (xs x) = true) ∧ (xM x).sig.returnType = ret ∧ (xM x).locks = false ∧ gw_K G (xs x)
/-- from here the machine comes to Q, whatever the heap, if it is the world σ -/
def PW (x : gw_X) (G : gw_G) (nL pc : Nat) (ls : List (Nat × Value)) (st : List Value) (σ : gw_S) : Prop :=
  ∀ (H : Heap) (locs : List Loc) (arr : Array Slot), gw_P G σ H → va_S (gw_A G) (xs x).heap H locs → lv_has arr nL ls → xW x H locs (F0 (xm x) pc arr st)
/-- the room that a body of depth D asks -/
def gw_ok (x : gw_X) (D : Nat) : Prop := D ≤ (xR x).frames ∧ 30 * D ≤ (xR x).locals ∧ xk x ≤ (xR x).cells ∧ xn x ≤ (xR x).slots
/-- rooms: a depth -/
def gw_R (d : Nat) : Room := { frames := d, cells := 0, slots := 0, locals := 30 * d }
/-- a contract: from the world σ with these arguments it returns, and Φ -/
def gw_Pc (G : gw_G) (as : List Value) (σ : gw_S) : Array Value → State → Prop := va_Pc as (fun U => gw_P G σ U.heap ∧ gw_K G U)
def gw_Q (G : gw_G) (Φ : Option Value → gw_S → Prop) : Array Value → State → Outcome → State → Prop := fun _ st oc t => (∃ (v : Option Value) (σ' : gw_S), oc = .returned v ∧ Φ v σ' ∧ gw_P G σ' t.heap) ∧ va_F (gw_A G) st t
def gw_M (l : Launch) (G : gw_G) (y : MethodName) (bytes : ByteArray) (maxL : Nat) (rt : Option FieldType) (d : Nat) (as : List Value) (σ : gw_S) (Φ : Option Value → gw_S → Prop) : Prop :=
  Met l y (.code y bytes maxL rt :: gw_tbl) (gw_R d) (gw_Pc G as σ) (gw_Q G Φ) 0 0 (gw_A G)
theorem gw_nst_moved {s U : State} (hW : s.WarmedH U.vm) (h : ∀ w ∈ gw_nst, va_Nw w s) : ∀ w ∈ gw_nst, va_Nw w U := by
  intro w hw
  have h1 := h w hw
  have h2 := (List.mem_filter.mp hw).2
  cases w <;> first | exact va_Nw.warmF hW h1 | exact va_Nw.warmM hW h1 | exact va_Nw.warmC hW h1 | exact va_Nw.warmD hW h1 | (simp [gw_isN] at h2; done)
theorem gw_Nc_moved {C T : String} {u U : State} (hvm : u.vm.Alike U.vm) (h : va_Nc C T u) : va_Nc C T U := by
  obtain ⟨c, t, h1, h2, h3⟩ := h
  exact ⟨c, t, by rw [hvm.findClass]; exact h1, by rw [hvm.findClass]; exact h2, by rw [hvm.assignable]; exact h3⟩
theorem gw_T.moved {G : gw_G} {u U : State} (hvm : u.vm = U.vm) (hh : U.heap = u.heap) (h : gw_T G u) : gw_T G U := by
  have hal : u.vm.Alike U.vm := hvm ▸ Vm.Alike.refl u.vm
  obtain ⟨⟨a1, h1⟩, ⟨a2, h2⟩, ⟨a3, h3⟩, h4, h5, h6⟩ := h
  exact ⟨⟨a1, h1.same hvm.symm⟩, ⟨a2, h2.same hvm.symm⟩, ⟨a3, h3.same hvm.symm⟩, by rw [hh]; exact h4.moved hal, by rw [hh]; exact h5.moved hal, fun i j p1 p2 p3 p4 p5 => gw_Nc_moved hal (h6 i j p1 p2 p3 p4 p5)⟩
theorem gw_T.go {G : gw_G} {s U : State} {H : Heap} {locs : List Loc} (hW : s.WarmedH U.vm) (hh : U.heap = H) (hS : va_S (gw_A G) s.heap H locs) (h : gw_T G s) : gw_T G U := by
  have hal := hW.alike
  obtain ⟨⟨a1, h1⟩, ⟨a2, h2⟩, ⟨a3, h3⟩, h4, h5, h6⟩ := h
  exact ⟨⟨a1, h1.warm hW⟩, ⟨a2, h2.warm hW⟩, ⟨a3, h3.warm hW⟩, by rw [hh]; exact (h4.kept (fun a h1 h2 => hS.2.1 a h1 h2)).moved hal, by rw [hh]; exact (h5.kept (fun a h1 h2 => hS.2.1 a h1 h2)).moved hal, fun i j p1 p2 p3 p4 p5 => gw_Nc_moved hal (h6 i j p1 p2 p3 p4 p5)⟩
theorem gw_K.moved {G : gw_G} {u U : State} (hvm : u.vm = U.vm) (hh : U.heap = u.heap) (h : gw_K G u) : gw_K G U :=
  ⟨h.1.moved (hvm ▸ Vm.Alike.refl u.vm), fun i hi => by rw [hh]; exact (h.2.1 i hi).moved (hvm ▸ Vm.Alike.refl u.vm), h.2.2.1, by rw [hh]; exact h.2.2.2.1, fun w hw => by
    have h2 := (List.mem_filter.mp hw).2
    refine va_Nw.same ?_ hvm (h.2.2.2.2.1 w hw)
    cases w <;> first | rfl | (simp [gw_isN] at h2; done), h.2.2.2.2.2.moved hvm hh⟩
theorem gw_K.go {G : gw_G} {s U : State} {H : Heap} {locs : List Loc} (hW : s.WarmedH U.vm) (hh : U.heap = H) (hS : va_S (gw_A G) s.heap H locs) (h : gw_K G s) : gw_K G U :=
  ⟨h.1.moved hW.alike, fun i hi => by rw [hh]; exact ((h.2.1 i hi).kept (fun a h1 h2 => hS.2.1 a h1 h2)).moved hW.alike, h.2.2.1, by rw [hh]; exact Nat.le_trans h.2.2.2.1 hS.1, gw_nst_moved hW h.2.2.2.2.1, h.2.2.2.2.2.go hW hh hS⟩
theorem gw_blind {G : gw_G} {as : List Value} {σ : gw_S} : FrameBlind (gw_Pc G as σ) := fun a U g mk q => ⟨q.1, q.2.1, q.2.2.moved (u := U) (U := U.calling g mk a) rfl rfl⟩
theorem gw_M.imp {l : Launch} {G : gw_G} {y : MethodName} {bytes : ByteArray} {maxL : Nat} {rt : Option FieldType} {d : Nat} {as : List Value} {σ : gw_S} {Φ Ψ : Option Value → gw_S → Prop}
    (h : gw_M l G y bytes maxL rt d as σ Φ) (hi : ∀ v σ', Φ v σ' → Ψ v σ') : gw_M l G y bytes maxL rt d as σ Ψ := by
  unfold gw_M Met at h ⊢
  refine MetFree.mono h (fun _ _ q => q) (fun _ _ _ _ _ q => q) ?_
  rintro a st oc t - ⟨⟨⟨v, σ', h1, h2, h3⟩, h4⟩, h5⟩
  exact ⟨⟨⟨v, σ', h1, hi v σ' h2, h3⟩, h4⟩, h5⟩
/-- a return with Φ is an end -/
def RT (x : gw_X) (G : gw_G) (Φ : Option Value → gw_S → Prop) : Prop := ∀ (H : Heap) (locs : List Loc) (g : JFrame), W (xp x) (xl x) (xe x) (xR x) (xs x) (xm x) (xa x) (xb x) (xM x) (xc x) H locs (xk x) (xn x) (MQ (xb x) (gw_Q G Φ) (xa x) (xs x) (xk x) (xn x) (gw_A G)) g → xW x H locs g
def gz (b : Bool) : Int32 := if b then 1 else 0
theorem gz_t : gz true = 1 := rfl
theorem gz_f : gz false = 0 := rfl
theorem gz_0 (b : Bool) : gz b = 0 ↔ b = false := by cases b <;> decide
theorem gz_n (b : Bool) : narrow .boolean (.int (gz b)) = .int (gz b) := by cases b <;> rfl
theorem gz_fit (b : Bool) : fits .boolean (.int (gz b)) = true := by cases b <;> rfl
theorem gz_v (b : Bool) : vp_nar .boolean (gz b) = gz b := by cases b <;> rfl
/-- the forms of contracts: what is returned -/
def fi (Φ : Int32 → gw_S → Prop) : Option Value → gw_S → Prop := fun v τ => ∃ r : Int32, v = some (.int r) ∧ Φ r τ
def fz (Φ : Bool → gw_S → Prop) : Option Value → gw_S → Prop := fun v τ => ∃ r : Bool, v = some (.int (gz r)) ∧ Φ r τ
def fl (Φ : Int64 → gw_S → Prop) : Option Value → gw_S → Prop := fun v τ => ∃ r : Int64, v = some (.long r) ∧ Φ r τ
def fv (Φ : gw_S → Prop) : Option Value → gw_S → Prop := fun v τ => v = none ∧ Φ τ
def fe (G : gw_G) (Φ : Nat → gw_S → Prop) : Option Value → gw_S → Prop := fun v τ => ∃ i : Nat, i < 4 ∧ v = some (.ref (G.2.2.2 i)) ∧ Φ i τ
section GW
variable {l : Launch} {x : gw_X} {G : gw_G} {nL pc : Nat} {own : String} {cc : ByteArray} {ret : Option FieldType} {ls : List (Nat × Value)} {st : List Value} {σ : gw_S}
/-- a contract out of a walk of the body -/
theorem gw_met {y : MethodName} {bytes : ByteArray} {maxL d : Nat} {rt : Option FieldType} {as : List Value} {Φ : Option Value → gw_S → Prop} (hy : plainName y.cls = true) (ha : (lg_sl as).length ≤ maxL)
    (body : ∀ (x : gw_X), XC x G y.cls bytes maxL rt → gw_ok x d → RT x G Φ → PW x G maxL 0 (lv_args 0 as) [] σ) : gw_M l G y bytes maxL rt d as σ Φ := by
  refine Met.ofW (cc := bytes) (maxL := maxL) (ret := rt) hy rfl ?_
  intro p e s m args below meth c s₁ B hml hv
  obtain ⟨rfl, hP, hK⟩ := hv
  have hts := atoms_spec (ws := Cond.code y bytes maxL rt :: gw_tbl) B.pre
  have hown : s.vm.findClass y.cls = some m.cls := findClass_of_methodNamed B.named
  have hl := lv_entry as (n := maxL) ha
  rw [lg_entry_eq]
  exact body (p, l, e, gw_R d, s, m, as.toArray, below, meth, c, MQ below (gw_Q G Φ) as.toArray s 0 0 (gw_A G), 0, 0) ⟨B.exec, B.bytes, hml, hown, fun w hw => hts w (List.mem_cons_of_mem _ hw), B.returns, B.notSynchronized, hK⟩ ⟨Nat.le_refl _, Nat.le_refl _, Nat.le_refl _, Nat.le_refl _⟩ (fun _ _ _ h => h) s.heap [] _ hP va_S.rf hl
theorem pw_sub {ls' : List (Nat × Value)} (ks : List Nat) (h : lv_pick ls ks = ls') (k : PW x G nL pc ls' st σ) : PW x G nL pc ls st σ := fun H locs arr hP hS hl => k H locs arr hP hS (lv_sub hl ks h)
theorem pw_vret {Φ : gw_S → Prop} (C : XC x G own cc nL none) (hT : RT x G (fv Φ)) (hd : decode cc pc = .ok (.return_, 1)) (h : Φ σ) : PW x G nL pc ls [] σ := fun H locs arr hP hS hl =>
  hT _ _ _ (W.vret C.1 C.2.1 C.2.2.2.2.2.1 (fun t ht hW => ⟨⟨none, σ, rfl, ⟨rfl, h⟩, by rw [ht]; exact hP⟩, hS.F ht⟩) hS.2.2 hd C.2.2.2.2.2.2.1)
theorem pw_iret {Φ : Int32 → gw_S → Prop} {v : Int32} (C : XC x G own cc nL (some .int)) (hT : RT x G (fi Φ)) (hd : decode cc pc = .ok (.ireturn, 1)) (h : Φ v σ) : PW x G nL pc ls [.int v] σ := fun H locs arr hP hS hl =>
  hT _ _ _ (W.iret C.1 C.2.1 C.2.2.2.2.2.1 (fun t ht hW => ⟨⟨_, σ, rfl, ⟨v, rfl, h⟩, by rw [ht]; exact hP⟩, hS.F ht⟩) hS.2.2 hd C.2.2.2.2.2.2.1)
theorem pw_zret {Φ : Bool → gw_S → Prop} {b : Bool} (C : XC x G own cc nL (some .boolean)) (hT : RT x G (fz Φ)) (hd : decode cc pc = .ok (.ireturn, 1)) (h : Φ b σ) : PW x G nL pc ls [.int (gz b)] σ := fun H locs arr hP hS hl =>
  hT _ _ _ (W.zret C.1 C.2.1 C.2.2.2.2.2.1 (gz_n b) (fun t ht hW => ⟨⟨_, σ, rfl, ⟨b, rfl, h⟩, by rw [ht]; exact hP⟩, hS.F ht⟩) hS.2.2 hd C.2.2.2.2.2.2.1)
theorem pw_cret {Φ : Int32 → gw_S → Prop} {v : Int32} {ty : FieldType} (C : XC x G own cc nL (some ty)) (hT : RT x G (fi Φ)) (hd : decode cc pc = .ok (.ireturn, 1)) (hn : narrow ty (.int v) = .int v) (h : Φ v σ) : PW x G nL pc ls [.int v] σ := fun H locs arr hP hS hl =>
  hT _ _ _ (W.zret C.1 C.2.1 C.2.2.2.2.2.1 hn (fun t ht hW => ⟨⟨_, σ, rfl, ⟨v, rfl, h⟩, by rw [ht]; exact hP⟩, hS.F ht⟩) hS.2.2 hd C.2.2.2.2.2.2.1)
theorem pw_lret {Φ : Int64 → gw_S → Prop} {v : Int64} (C : XC x G own cc nL (some .long)) (hT : RT x G (fl Φ)) (hd : decode cc pc = .ok (.lreturn, 1)) (h : Φ v σ) : PW x G nL pc ls [.long v] σ := fun H locs arr hP hS hl =>
  hT _ _ _ (W.lret C.1 C.2.1 C.2.2.2.2.2.1 (fun t ht hW => ⟨⟨_, σ, rfl, ⟨v, rfl, h⟩, by rw [ht]; exact hP⟩, hS.F ht⟩) hS.2.2 hd C.2.2.2.2.2.2.1)
theorem pw_eret {Φ : Nat → gw_S → Prop} {i : Nat} {o : String} (C : XC x G own cc nL (some (.object o))) (hT : RT x G (fe G Φ)) (hd : decode cc pc = .ok (.areturn, 1)) (hi : i < 4) (h : Φ i σ) : PW x G nL pc ls [.ref (G.2.2.2 i)] σ := fun H locs arr hP hS hl =>
  hT _ _ _ (W.aret C.1 C.2.1 C.2.2.2.2.2.1 (Or.inl ⟨_, rfl⟩) (Or.inr ⟨_, rfl⟩) (fun t ht hW => ⟨⟨_, σ, rfl, ⟨i, hi, rfl, h⟩, by rw [ht]; exact hP⟩, hS.F ht⟩) hS.2.2 hd C.2.2.2.2.2.2.1)

theorem pw_iconst (C : XC x G own cc nL ret) {n : Int} {v : Int32} (hd : decode cc pc = .ok (.iconst n, 1)) (hv : Int32.ofInt n = v) (k : PW x G nL (pc + 1) ls (.int v :: st) σ) : PW x G nL pc ls (st) σ := fun H locs arr hP hS hl => lv_iconst C.1 C.2.1 hd hv (k H locs arr hP hS hl)
theorem pw_bipush (C : XC x G own cc nL ret) {n : Int} {v : Int32} (hd : decode cc pc = .ok (.bipush n, 2)) (hv : (Int8.ofInt n).toInt32 = v) (k : PW x G nL (pc + 2) ls (.int v :: st) σ) : PW x G nL pc ls (st) σ := fun H locs arr hP hS hl => lv_bipush C.1 C.2.1 hd hv (k H locs arr hP hS hl)
theorem pw_sipush (C : XC x G own cc nL ret) {n : Int} {v : Int32} (hd : decode cc pc = .ok (.sipush n, 3)) (hv : (Int16.ofInt n).toInt32 = v) (k : PW x G nL (pc + 3) ls (.int v :: st) σ) : PW x G nL pc ls (st) σ := fun H locs arr hP hS hl => lv_sipush C.1 C.2.1 hd hv (k H locs arr hP hS hl)
theorem pw_lconst (C : XC x G own cc nL ret) {n : Fin 2} {v : Int64} (hd : decode cc pc = .ok (.lconst n, 1)) (hv : Int64.ofNat (n : Nat) = v) (k : PW x G nL (pc + 1) ls (.long v :: st) σ) : PW x G nL pc ls (st) σ := fun H locs arr hP hS hl => lv_lconst C.1 C.2.1 hd hv (k H locs arr hP hS hl)
theorem pw_ldc (C : XC x G own cc nL ret) {i : Nat} {v : Int32} (hd : decode cc pc = .ok (.ldc i, 2)) (hw : Jvm.Cond.constant own i v ∈ gw_tbl) (k : PW x G nL (pc + 2) ls (.int v :: st) σ) : PW x G nL pc ls (st) σ := fun H locs arr hP hS hl => lv_ldc C.1 C.2.1 C.2.2.2.1 (C.2.2.2.2.1 _ hw) hd (k H locs arr hP hS hl)
theorem pw_ldcw (C : XC x G own cc nL ret) {i : Nat} {v : Int32} (hd : decode cc pc = .ok (.ldc_w i, 3)) (hw : Jvm.Cond.constant own i v ∈ gw_tbl) (k : PW x G nL (pc + 3) ls (.int v :: st) σ) : PW x G nL pc ls (st) σ := fun H locs arr hP hS hl => lv_ldcw C.1 C.2.1 C.2.2.2.1 (C.2.2.2.2.1 _ hw) hd (k H locs arr hP hS hl)
theorem pw_ldc2 (C : XC x G own cc nL ret) {i : Nat} {v : Int64} (hd : decode cc pc = .ok (.ldc2_w i, 3)) (hw : Jvm.Cond.constantLong own i v ∈ gw_tbl) (k : PW x G nL (pc + 3) ls (.long v :: st) σ) : PW x G nL pc ls (st) σ := fun H locs arr hP hS hl => lv_ldc2 C.1 C.2.1 C.2.2.2.1 (C.2.2.2.2.1 _ hw) hd (k H locs arr hP hS hl)
theorem pw_iload_n (C : XC x G own cc nL ret) {f : Fin 4} {i : Nat} {u : Int32} (hd : decode cc pc = .ok (.iload_n f, 1)) (hi : (f : Nat) = i) (j : Nat) (hj : ls[j]? = some (i, .int u)) (k : PW x G nL (pc + 1) ls (.int u :: st) σ) : PW x G nL pc ls (st) σ := fun H locs arr hP hS hl => lv_iload_n C.1 C.2.1 hd hi (lv_at hl j hj) (k H locs arr hP hS hl)
theorem pw_iload (C : XC x G own cc nL ret) {i : Nat} {u : Int32} (hd : decode cc pc = .ok (.iload i, 2)) (j : Nat) (hj : ls[j]? = some (i, .int u)) (k : PW x G nL (pc + 2) ls (.int u :: st) σ) : PW x G nL pc ls (st) σ := fun H locs arr hP hS hl => lv_iload C.1 C.2.1 hd (lv_at hl j hj) (k H locs arr hP hS hl)
theorem pw_istore_n (C : XC x G own cc nL ret) {f : Fin 4} {i : Nat} {u : Int32} {ls' : List (Nat × Value)} (hd : decode cc pc = .ok (.istore_n f, 1)) (hi : (f : Nat) = i) (hn : i < nL) (hls : (i, Value.int u) :: ls.filter (fun q => !(q.1 == i) && !(q.1 + 1 == i && q.2.category == 2)) = ls') (k : PW x G nL (pc + 1) ls' (st) σ) : PW x G nL pc ls (.int u :: st) σ := fun H locs arr hP hS hl => lv_istore_n C.1 C.2.1 hd hi hl hn hls (fun a h => k H locs a hP hS h)
theorem pw_istore (C : XC x G own cc nL ret) {i : Nat} {u : Int32} {ls' : List (Nat × Value)} (hd : decode cc pc = .ok (.istore i, 2)) (hn : i < nL) (hls : (i, Value.int u) :: ls.filter (fun q => !(q.1 == i) && !(q.1 + 1 == i && q.2.category == 2)) = ls') (k : PW x G nL (pc + 2) ls' (st) σ) : PW x G nL pc ls (.int u :: st) σ := fun H locs arr hP hS hl => lv_istore C.1 C.2.1 hd hl hn hls (fun a h => k H locs a hP hS h)
theorem pw_lload_n (C : XC x G own cc nL ret) {f : Fin 4} {i : Nat} {u : Int64} (hd : decode cc pc = .ok (.lload_n f, 1)) (hi : (f : Nat) = i) (j : Nat) (hj : ls[j]? = some (i, .long u)) (k : PW x G nL (pc + 1) ls (.long u :: st) σ) : PW x G nL pc ls (st) σ := fun H locs arr hP hS hl => lv_lload_n C.1 C.2.1 hd hi (lv_at hl j hj) (k H locs arr hP hS hl)
theorem pw_lload (C : XC x G own cc nL ret) {i : Nat} {u : Int64} (hd : decode cc pc = .ok (.lload i, 2)) (j : Nat) (hj : ls[j]? = some (i, .long u)) (k : PW x G nL (pc + 2) ls (.long u :: st) σ) : PW x G nL pc ls (st) σ := fun H locs arr hP hS hl => lv_lload C.1 C.2.1 hd (lv_at hl j hj) (k H locs arr hP hS hl)
theorem pw_lstore_n (C : XC x G own cc nL ret) {f : Fin 4} {i : Nat} {u : Int64} {ls' : List (Nat × Value)} (hd : decode cc pc = .ok (.lstore_n f, 1)) (hi : (f : Nat) = i) (hn : i + 1 < nL) (hls : (i, Value.long u) :: ls.filter (fun q => !(q.1 == i) && (!(q.1 == i + 1) && !(q.1 + 1 == i && q.2.category == 2))) = ls') (k : PW x G nL (pc + 1) ls' (st) σ) : PW x G nL pc ls (.long u :: st) σ := fun H locs arr hP hS hl => lv_lstore_n C.1 C.2.1 hd hi hl hn hls (fun a h => k H locs a hP hS h)
theorem pw_lstore (C : XC x G own cc nL ret) {i : Nat} {u : Int64} {ls' : List (Nat × Value)} (hd : decode cc pc = .ok (.lstore i, 2)) (hn : i + 1 < nL) (hls : (i, Value.long u) :: ls.filter (fun q => !(q.1 == i) && (!(q.1 == i + 1) && !(q.1 + 1 == i && q.2.category == 2))) = ls') (k : PW x G nL (pc + 2) ls' (st) σ) : PW x G nL pc ls (.long u :: st) σ := fun H locs arr hP hS hl => lv_lstore C.1 C.2.1 hd hl hn hls (fun a h => k H locs a hP hS h)
theorem pw_aload_n (C : XC x G own cc nL ret) {f : Fin 4} {i : Nat} {u : Nat} (hd : decode cc pc = .ok (.aload_n f, 1)) (hi : (f : Nat) = i) (j : Nat) (hj : ls[j]? = some (i, .ref u)) (k : PW x G nL (pc + 1) ls (.ref u :: st) σ) : PW x G nL pc ls (st) σ := fun H locs arr hP hS hl => lv_aload_n C.1 C.2.1 hd hi (lv_at hl j hj) (k H locs arr hP hS hl)
theorem pw_aload (C : XC x G own cc nL ret) {i : Nat} {u : Nat} (hd : decode cc pc = .ok (.aload i, 2)) (j : Nat) (hj : ls[j]? = some (i, .ref u)) (k : PW x G nL (pc + 2) ls (.ref u :: st) σ) : PW x G nL pc ls (st) σ := fun H locs arr hP hS hl => lv_aload C.1 C.2.1 hd (lv_at hl j hj) (k H locs arr hP hS hl)
theorem pw_astore_n (C : XC x G own cc nL ret) {f : Fin 4} {i : Nat} {u : Nat} {ls' : List (Nat × Value)} (hd : decode cc pc = .ok (.astore_n f, 1)) (hi : (f : Nat) = i) (hn : i < nL) (hls : (i, Value.ref u) :: ls.filter (fun q => !(q.1 == i) && !(q.1 + 1 == i && q.2.category == 2)) = ls') (k : PW x G nL (pc + 1) ls' (st) σ) : PW x G nL pc ls (.ref u :: st) σ := fun H locs arr hP hS hl => lv_astore_n C.1 C.2.1 hd hi hl hn hls (fun a h => k H locs a hP hS h)
theorem pw_astore (C : XC x G own cc nL ret) {i : Nat} {u : Nat} {ls' : List (Nat × Value)} (hd : decode cc pc = .ok (.astore i, 2)) (hn : i < nL) (hls : (i, Value.ref u) :: ls.filter (fun q => !(q.1 == i) && !(q.1 + 1 == i && q.2.category == 2)) = ls') (k : PW x G nL (pc + 2) ls' (st) σ) : PW x G nL pc ls (.ref u :: st) σ := fun H locs arr hP hS hl => lv_astore C.1 C.2.1 hd hl hn hls (fun a h => k H locs a hP hS h)
theorem pw_iinc (C : XC x G own cc nL ret) {i j : Nat} {n : Int} {u v : Int32} {ls' : List (Nat × Value)} (hd : decode cc pc = .ok (.iinc i n, 3)) (hj : ls[j]? = some (i, .int u)) (hv : u + Int32.ofInt n = v) (hn : i < nL) (hls : (i, Value.int v) :: ls.filter (fun q => !(q.1 == i) && !(q.1 + 1 == i && q.2.category == 2)) = ls') (k : PW x G nL (pc + 3) ls' (st) σ) : PW x G nL pc ls (st) σ := fun H locs arr hP hS hl => lv_iinc C.1 C.2.1 hd hl hj hv hn hls (fun a h => k H locs a hP hS h)
theorem pw_iadd (C : XC x G own cc nL ret) {u w : Int32} (hd : decode cc pc = .ok (.iadd, 1)) (k : PW x G nL (pc + 1) ls (.int (u + w) :: st) σ) : PW x G nL pc ls (.int w :: .int u :: st) σ := fun H locs arr hP hS hl => lv_iadd C.1 C.2.1 hd (k H locs arr hP hS hl)
theorem pw_isub (C : XC x G own cc nL ret) {u w : Int32} (hd : decode cc pc = .ok (.isub, 1)) (k : PW x G nL (pc + 1) ls (.int (u - w) :: st) σ) : PW x G nL pc ls (.int w :: .int u :: st) σ := fun H locs arr hP hS hl => lv_isub C.1 C.2.1 hd (k H locs arr hP hS hl)
theorem pw_imul (C : XC x G own cc nL ret) {u w : Int32} (hd : decode cc pc = .ok (.imul, 1)) (k : PW x G nL (pc + 1) ls (.int (u * w) :: st) σ) : PW x G nL pc ls (.int w :: .int u :: st) σ := fun H locs arr hP hS hl => lv_imul C.1 C.2.1 hd (k H locs arr hP hS hl)
theorem pw_iand (C : XC x G own cc nL ret) {u w : Int32} (hd : decode cc pc = .ok (.iand, 1)) (k : PW x G nL (pc + 1) ls (.int (u &&& w) :: st) σ) : PW x G nL pc ls (.int w :: .int u :: st) σ := fun H locs arr hP hS hl => lv_iand C.1 C.2.1 hd (k H locs arr hP hS hl)
theorem pw_ior (C : XC x G own cc nL ret) {u w : Int32} (hd : decode cc pc = .ok (.ior, 1)) (k : PW x G nL (pc + 1) ls (.int (u ||| w) :: st) σ) : PW x G nL pc ls (.int w :: .int u :: st) σ := fun H locs arr hP hS hl => lv_ior C.1 C.2.1 hd (k H locs arr hP hS hl)
theorem pw_idiv (C : XC x G own cc nL ret) {u w : Int32} (hd : decode cc pc = .ok (.idiv, 1)) (hne : ¬ w = 0) (k : PW x G nL (pc + 1) ls (.int (u / w) :: st) σ) : PW x G nL pc ls (.int w :: .int u :: st) σ := fun H locs arr hP hS hl => lv_idiv C.1 C.2.1 hd hne (k H locs arr hP hS hl)
theorem pw_irem (C : XC x G own cc nL ret) {u w : Int32} (hd : decode cc pc = .ok (.irem, 1)) (hne : ¬ w = 0) (k : PW x G nL (pc + 1) ls (.int (u - u / w * w) :: st) σ) : PW x G nL pc ls (.int w :: .int u :: st) σ := fun H locs arr hP hS hl => lv_irem C.1 C.2.1 hd hne (k H locs arr hP hS hl)
theorem pw_ladd (C : XC x G own cc nL ret) {u w : Int64} (hd : decode cc pc = .ok (.ladd, 1)) (k : PW x G nL (pc + 1) ls (.long (u + w) :: st) σ) : PW x G nL pc ls (.long w :: .long u :: st) σ := fun H locs arr hP hS hl => lv_ladd C.1 C.2.1 hd (k H locs arr hP hS hl)
theorem pw_lsub (C : XC x G own cc nL ret) {u w : Int64} (hd : decode cc pc = .ok (.lsub, 1)) (k : PW x G nL (pc + 1) ls (.long (u - w) :: st) σ) : PW x G nL pc ls (.long w :: .long u :: st) σ := fun H locs arr hP hS hl => lv_lsub C.1 C.2.1 hd (k H locs arr hP hS hl)
theorem pw_lmul (C : XC x G own cc nL ret) {u w : Int64} (hd : decode cc pc = .ok (.lmul, 1)) (k : PW x G nL (pc + 1) ls (.long (u * w) :: st) σ) : PW x G nL pc ls (.long w :: .long u :: st) σ := fun H locs arr hP hS hl => lv_lmul C.1 C.2.1 hd (k H locs arr hP hS hl)
theorem pw_land (C : XC x G own cc nL ret) {u w : Int64} (hd : decode cc pc = .ok (.land, 1)) (k : PW x G nL (pc + 1) ls (.long (u &&& w) :: st) σ) : PW x G nL pc ls (.long w :: .long u :: st) σ := fun H locs arr hP hS hl => lv_land C.1 C.2.1 hd (k H locs arr hP hS hl)
theorem pw_lor (C : XC x G own cc nL ret) {u w : Int64} (hd : decode cc pc = .ok (.lor, 1)) (k : PW x G nL (pc + 1) ls (.long (u ||| w) :: st) σ) : PW x G nL pc ls (.long w :: .long u :: st) σ := fun H locs arr hP hS hl => lv_lor C.1 C.2.1 hd (k H locs arr hP hS hl)
theorem pw_ldiv (C : XC x G own cc nL ret) {u w : Int64} (hd : decode cc pc = .ok (.ldiv, 1)) (hne : ¬ w = 0) (k : PW x G nL (pc + 1) ls (.long (u / w) :: st) σ) : PW x G nL pc ls (.long w :: .long u :: st) σ := fun H locs arr hP hS hl => lv_ldiv C.1 C.2.1 hd hne (k H locs arr hP hS hl)
theorem pw_lrem (C : XC x G own cc nL ret) {u w : Int64} (hd : decode cc pc = .ok (.lrem, 1)) (hne : ¬ w = 0) (k : PW x G nL (pc + 1) ls (.long (u - u / w * w) :: st) σ) : PW x G nL pc ls (.long w :: .long u :: st) σ := fun H locs arr hP hS hl => lv_lrem C.1 C.2.1 hd hne (k H locs arr hP hS hl)
theorem pw_ishl (C : XC x G own cc nL ret) {u w : Int32} (hd : decode cc pc = .ok (.ishl, 1)) (k : PW x G nL (pc + 1) ls (.int (u <<< (w &&& 31)) :: st) σ) : PW x G nL pc ls (.int w :: .int u :: st) σ := fun H locs arr hP hS hl => lv_ishl C.1 C.2.1 hd (k H locs arr hP hS hl)
theorem pw_ishr (C : XC x G own cc nL ret) {u w : Int32} (hd : decode cc pc = .ok (.ishr, 1)) (k : PW x G nL (pc + 1) ls (.int (u >>> (w &&& 31)) :: st) σ) : PW x G nL pc ls (.int w :: .int u :: st) σ := fun H locs arr hP hS hl => lv_ishr C.1 C.2.1 hd (k H locs arr hP hS hl)
theorem pw_lushr (C : XC x G own cc nL ret) {u v : Int64} {w : Int32} (hd : decode cc pc = .ok (.lushr, 1)) (hv : (u.toUInt64 >>> (w.toInt64.toUInt64 &&& Int64.toUInt64 63)).toInt64 = v) (k : PW x G nL (pc + 1) ls (.long v :: st) σ) : PW x G nL pc ls (.int w :: .long u :: st) σ := fun H locs arr hP hS hl => lv_lushr C.1 C.2.1 hd hv (k H locs arr hP hS hl)
theorem pw_lshl (C : XC x G own cc nL ret) {u v : Int64} {w : Int32} (hd : decode cc pc = .ok (.lshl, 1)) (hv : u <<< (w.toInt64 &&& 63) = v) (k : PW x G nL (pc + 1) ls (.long v :: st) σ) : PW x G nL pc ls (.int w :: .long u :: st) σ := fun H locs arr hP hS hl => lv_lshl C.1 C.2.1 hd hv (k H locs arr hP hS hl)
theorem pw_i2l (C : XC x G own cc nL ret) {u : Int32} {v : Int64} (hd : decode cc pc = .ok (.i2l, 1)) (hv : u.toInt64 = v) (k : PW x G nL (pc + 1) ls (.long v :: st) σ) : PW x G nL pc ls (.int u :: st) σ := fun H locs arr hP hS hl => lv_i2l C.1 C.2.1 hd hv (k H locs arr hP hS hl)
theorem pw_l2i (C : XC x G own cc nL ret) {u : Int64} {v : Int32} (hd : decode cc pc = .ok (.l2i, 1)) (hv : u.toInt32 = v) (k : PW x G nL (pc + 1) ls (.int v :: st) σ) : PW x G nL pc ls (.long u :: st) σ := fun H locs arr hP hS hl => lv_l2i C.1 C.2.1 hd hv (k H locs arr hP hS hl)
theorem pw_i2c (C : XC x G own cc nL ret) {u : Int32} {v : Int32} (hd : decode cc pc = .ok (.i2c, 1)) (hv : (u.toUInt32 % 65536).toInt32 = v) (k : PW x G nL (pc + 1) ls (.int v :: st) σ) : PW x G nL pc ls (.int u :: st) σ := fun H locs arr hP hS hl => lv_i2c C.1 C.2.1 hd hv (k H locs arr hP hS hl)
theorem pw_lcmp (C : XC x G own cc nL ret) {u w : Int64} (hd : decode cc pc = .ok (.lcmp, 1)) (k : PW x G nL (pc + 1) ls (.int (lg_cmp u w) :: st) σ) : PW x G nL pc ls (.long w :: .long u :: st) σ := fun H locs arr hP hS hl => W.lcmp C.1 C.2.1 hd (k H locs arr hP hS hl)
theorem pw_dup (C : XC x G own cc nL ret) {v : Value} (hd : decode cc pc = .ok (.dup, 1)) (hv : v.category = 1) (k : PW x G nL (pc + 1) ls (v :: v :: st) σ) : PW x G nL pc ls (v :: st) σ := fun H locs arr hP hS hl => lv_dup C.1 C.2.1 hd hv (k H locs arr hP hS hl)
theorem pw_pop (C : XC x G own cc nL ret) {v : Value} (hd : decode cc pc = .ok (.pop, 1)) (hv : v.category = 1) (k : PW x G nL (pc + 1) ls (st) σ) : PW x G nL pc ls (v :: st) σ := fun H locs arr hP hS hl => lv_pop C.1 C.2.1 hd hv (k H locs arr hP hS hl)
theorem pw_dup2 (C : XC x G own cc nL ret) {v u : Value} (hd : decode cc pc = .ok (.dup2, 1)) (hv : v.category = 1) (hu : u.category = 1) (k : PW x G nL (pc + 1) ls (v :: u :: v :: u :: st) σ) : PW x G nL pc ls (v :: u :: st) σ := fun H locs arr hP hS hl => lv_dup2_11 C.1 C.2.1 hd hv hu (k H locs arr hP hS hl)
theorem pw_if_eq (C : XC x G own cc nL ret) {u : Int32} {off : Int} {tgt : Nat} (hd : decode cc pc = .ok (.ifCond .eq off, 3)) (ht : (pc : Int) + off = (tgt : Int)) (kt : u = 0 → PW x G nL tgt ls st σ) (kf : ¬ u = 0 → PW x G nL (pc + 3) ls st σ) : PW x G nL pc ls (.int u :: st) σ := fun H locs arr hP hS hl => lv_if_eq C.1 C.2.1 hd ht (fun q => kt q H locs arr hP hS hl) (fun q => kf q H locs arr hP hS hl)
theorem pw_icmp_eq (C : XC x G own cc nL ret) {u w : Int32} {off : Int} {tgt : Nat} (hd : decode cc pc = .ok (.if_icmp .eq off, 3)) (ht : (pc : Int) + off = (tgt : Int)) (kt : u = w → PW x G nL tgt ls st σ) (kf : ¬ u = w → PW x G nL (pc + 3) ls st σ) : PW x G nL pc ls (.int w :: .int u :: st) σ := fun H locs arr hP hS hl => lv_icmp_eq C.1 C.2.1 hd ht (fun q => kt q H locs arr hP hS hl) (fun q => kf q H locs arr hP hS hl)
theorem pw_if_ne (C : XC x G own cc nL ret) {u : Int32} {off : Int} {tgt : Nat} (hd : decode cc pc = .ok (.ifCond .ne off, 3)) (ht : (pc : Int) + off = (tgt : Int)) (kt : ¬ u = 0 → PW x G nL tgt ls st σ) (kf : u = 0 → PW x G nL (pc + 3) ls st σ) : PW x G nL pc ls (.int u :: st) σ := fun H locs arr hP hS hl => lv_if_ne C.1 C.2.1 hd ht (fun q => kt q H locs arr hP hS hl) (fun q => kf q H locs arr hP hS hl)
theorem pw_icmp_ne (C : XC x G own cc nL ret) {u w : Int32} {off : Int} {tgt : Nat} (hd : decode cc pc = .ok (.if_icmp .ne off, 3)) (ht : (pc : Int) + off = (tgt : Int)) (kt : ¬ u = w → PW x G nL tgt ls st σ) (kf : u = w → PW x G nL (pc + 3) ls st σ) : PW x G nL pc ls (.int w :: .int u :: st) σ := fun H locs arr hP hS hl => lv_icmp_ne C.1 C.2.1 hd ht (fun q => kt q H locs arr hP hS hl) (fun q => kf q H locs arr hP hS hl)
theorem pw_if_lt (C : XC x G own cc nL ret) {u : Int32} {off : Int} {tgt : Nat} (hd : decode cc pc = .ok (.ifCond .lt off, 3)) (ht : (pc : Int) + off = (tgt : Int)) (kt : u < 0 → PW x G nL tgt ls st σ) (kf : ¬ u < 0 → PW x G nL (pc + 3) ls st σ) : PW x G nL pc ls (.int u :: st) σ := fun H locs arr hP hS hl => lv_if_lt C.1 C.2.1 hd ht (fun q => kt q H locs arr hP hS hl) (fun q => kf q H locs arr hP hS hl)
theorem pw_icmp_lt (C : XC x G own cc nL ret) {u w : Int32} {off : Int} {tgt : Nat} (hd : decode cc pc = .ok (.if_icmp .lt off, 3)) (ht : (pc : Int) + off = (tgt : Int)) (kt : u < w → PW x G nL tgt ls st σ) (kf : ¬ u < w → PW x G nL (pc + 3) ls st σ) : PW x G nL pc ls (.int w :: .int u :: st) σ := fun H locs arr hP hS hl => lv_icmp_lt C.1 C.2.1 hd ht (fun q => kt q H locs arr hP hS hl) (fun q => kf q H locs arr hP hS hl)
theorem pw_if_ge (C : XC x G own cc nL ret) {u : Int32} {off : Int} {tgt : Nat} (hd : decode cc pc = .ok (.ifCond .ge off, 3)) (ht : (pc : Int) + off = (tgt : Int)) (kt : 0 ≤ u → PW x G nL tgt ls st σ) (kf : ¬ 0 ≤ u → PW x G nL (pc + 3) ls st σ) : PW x G nL pc ls (.int u :: st) σ := fun H locs arr hP hS hl => lv_if_ge C.1 C.2.1 hd ht (fun q => kt q H locs arr hP hS hl) (fun q => kf q H locs arr hP hS hl)
theorem pw_icmp_ge (C : XC x G own cc nL ret) {u w : Int32} {off : Int} {tgt : Nat} (hd : decode cc pc = .ok (.if_icmp .ge off, 3)) (ht : (pc : Int) + off = (tgt : Int)) (kt : w ≤ u → PW x G nL tgt ls st σ) (kf : ¬ w ≤ u → PW x G nL (pc + 3) ls st σ) : PW x G nL pc ls (.int w :: .int u :: st) σ := fun H locs arr hP hS hl => lv_icmp_ge C.1 C.2.1 hd ht (fun q => kt q H locs arr hP hS hl) (fun q => kf q H locs arr hP hS hl)
theorem pw_if_gt (C : XC x G own cc nL ret) {u : Int32} {off : Int} {tgt : Nat} (hd : decode cc pc = .ok (.ifCond .gt off, 3)) (ht : (pc : Int) + off = (tgt : Int)) (kt : 0 < u → PW x G nL tgt ls st σ) (kf : ¬ 0 < u → PW x G nL (pc + 3) ls st σ) : PW x G nL pc ls (.int u :: st) σ := fun H locs arr hP hS hl => lv_if_gt C.1 C.2.1 hd ht (fun q => kt q H locs arr hP hS hl) (fun q => kf q H locs arr hP hS hl)
theorem pw_icmp_gt (C : XC x G own cc nL ret) {u w : Int32} {off : Int} {tgt : Nat} (hd : decode cc pc = .ok (.if_icmp .gt off, 3)) (ht : (pc : Int) + off = (tgt : Int)) (kt : w < u → PW x G nL tgt ls st σ) (kf : ¬ w < u → PW x G nL (pc + 3) ls st σ) : PW x G nL pc ls (.int w :: .int u :: st) σ := fun H locs arr hP hS hl => lv_icmp_gt C.1 C.2.1 hd ht (fun q => kt q H locs arr hP hS hl) (fun q => kf q H locs arr hP hS hl)
theorem pw_if_le (C : XC x G own cc nL ret) {u : Int32} {off : Int} {tgt : Nat} (hd : decode cc pc = .ok (.ifCond .le off, 3)) (ht : (pc : Int) + off = (tgt : Int)) (kt : u ≤ 0 → PW x G nL tgt ls st σ) (kf : ¬ u ≤ 0 → PW x G nL (pc + 3) ls st σ) : PW x G nL pc ls (.int u :: st) σ := fun H locs arr hP hS hl => lv_if_le C.1 C.2.1 hd ht (fun q => kt q H locs arr hP hS hl) (fun q => kf q H locs arr hP hS hl)
theorem pw_icmp_le (C : XC x G own cc nL ret) {u w : Int32} {off : Int} {tgt : Nat} (hd : decode cc pc = .ok (.if_icmp .le off, 3)) (ht : (pc : Int) + off = (tgt : Int)) (kt : u ≤ w → PW x G nL tgt ls st σ) (kf : ¬ u ≤ w → PW x G nL (pc + 3) ls st σ) : PW x G nL pc ls (.int w :: .int u :: st) σ := fun H locs arr hP hS hl => lv_icmp_le C.1 C.2.1 hd ht (fun q => kt q H locs arr hP hS hl) (fun q => kf q H locs arr hP hS hl)
theorem pw_goto (C : XC x G own cc nL ret) {off : Int} {tgt : Nat} (hd : decode cc pc = .ok (.goto off, 3)) (ht : (pc : Int) + off = (tgt : Int)) (k : PW x G nL tgt ls st σ) : PW x G nL pc ls st σ := fun H locs arr hP hS hl => lv_goto C.1 C.2.1 hd ht (k H locs arr hP hS hl)
theorem pw_ifnonnull (C : XC x G own cc nL ret) {u : Nat} {off : Int} {tgt : Nat} (hd : decode cc pc = .ok (.ifnonnull off, 3)) (ht : (pc : Int) + off = (tgt : Int)) (k : PW x G nL tgt ls st σ) : PW x G nL pc ls (.ref u :: st) σ := fun H locs arr hP hS hl => lv_ifnonnull C.1 C.2.1 hd ht (k H locs arr hP hS hl)
-- ===== heap =====
/-- the class ci of vwCl: its words are among the table's -/
def gw_cw (ci : Nat) : String × u_T × Nat := vwCl.getD ci ("", fun _ => ("", "", "", false), 0)
def gw_tyf (ci : Nat) : Nat → FieldType := match ci with
  | 0 => tyX0
  | 1 => tyX2
  | 2 => tyX3
  | 3 => tyX4
  | 4 => tyX5
  | 5 => tyX6
  | 6 => tyX7
  | _ => tyX8
theorem gw_cin : ∀ ci, ci < 8 → ∀ w ∈ u_ws (gw_cw ci).1 (gw_cw ci).2.1 (gw_cw ci).2.2, w ∈ gw_tbl := by
  intro ci h
  match ci, h with
  | 0, _ => exact fun w hw => gw_mem (List.contains_iff_mem.mp (List.all_eq_true.mp (show (u_ws RX0 TX0 9).all (fun w => lw_tbl.contains w) = true by decide +kernel) w hw)) (List.all_eq_true.mp (show (u_ws RX0 TX0 9).all goodWord = true by decide +kernel) w hw)
  | 1, _ => exact fun w hw => gw_mem (List.contains_iff_mem.mp (List.all_eq_true.mp (show (u_ws RX2 TX2 3).all (fun w => lw_tbl.contains w) = true by decide +kernel) w hw)) (List.all_eq_true.mp (show (u_ws RX2 TX2 3).all goodWord = true by decide +kernel) w hw)
  | 2, _ => exact fun w hw => gw_mem (List.contains_iff_mem.mp (List.all_eq_true.mp (show (u_ws RX3 TX3 10).all (fun w => lw_tbl.contains w) = true by decide +kernel) w hw)) (List.all_eq_true.mp (show (u_ws RX3 TX3 10).all goodWord = true by decide +kernel) w hw)
  | 3, _ => exact fun w hw => gw_mem (List.contains_iff_mem.mp (List.all_eq_true.mp (show (u_ws RX4 TX4 2).all (fun w => lw_tbl.contains w) = true by decide +kernel) w hw)) (List.all_eq_true.mp (show (u_ws RX4 TX4 2).all goodWord = true by decide +kernel) w hw)
  | 4, _ => exact fun w hw => gw_mem (List.contains_iff_mem.mp (List.all_eq_true.mp (show (u_ws RX5 TX5 2).all (fun w => lw_tbl.contains w) = true by decide +kernel) w hw)) (List.all_eq_true.mp (show (u_ws RX5 TX5 2).all goodWord = true by decide +kernel) w hw)
  | 5, _ => exact fun w hw => gw_mem (List.contains_iff_mem.mp (List.all_eq_true.mp (show (u_ws RX6 TX6 1).all (fun w => lw_tbl.contains w) = true by decide +kernel) w hw)) (List.all_eq_true.mp (show (u_ws RX6 TX6 1).all goodWord = true by decide +kernel) w hw)
  | 6, _ => exact fun w hw => gw_mem (List.contains_iff_mem.mp (List.all_eq_true.mp (show (u_ws RX7 TX7 9).all (fun w => lw_tbl.contains w) = true by decide +kernel) w hw)) (List.all_eq_true.mp (show (u_ws RX7 TX7 9).all goodWord = true by decide +kernel) w hw)
  | 7, _ => exact fun w hw => gw_mem (List.contains_iff_mem.mp (List.all_eq_true.mp (show (u_ws RX8 TX8 25).all (fun w => lw_tbl.contains w) = true by decide +kernel) w hw)) (List.all_eq_true.mp (show (u_ws RX8 TX8 25).all goodWord = true by decide +kernel) w hw)
theorem gw_cty : ∀ ci, ci < 8 → ∀ k, k < (gw_cw ci).2.2 → parseFieldDescriptor ((gw_cw ci).2.1 k).2.2.1 = some (gw_tyf ci k) := by
  intro ci h
  match ci, h with
  | 0, _ => exact tyX0_ok
  | 1, _ => exact tyX2_ok
  | 2, _ => exact tyX3_ok
  | 3, _ => exact tyX4_ok
  | 4, _ => exact tyX5_ok
  | 5, _ => exact tyX6_ok
  | 6, _ => exact tyX7_ok
  | 7, _ => exact tyX8_ok
theorem gw_cnm : ∀ ci, ci < 8 → ∀ a, a < (gw_cw ci).2.2 → ∀ b, b < (gw_cw ci).2.2 → a ≠ b → ((gw_cw ci).2.1 a).2.1 ≠ ((gw_cw ci).2.1 b).2.1 := by
  intro ci h
  match ci, h with
  | 0, _ => exact nmX0
  | 1, _ => exact nmX2
  | 2, _ => exact nmX3
  | 3, _ => exact nmX4
  | 4, _ => exact nmX5
  | 5, _ => exact nmX6
  | 6, _ => exact nmX7
  | 7, _ => exact nmX8
theorem gw_cvw : ∀ ci, ci < 8 → vwCl[ci]? = some (gw_cw ci) := by
  intro ci h
  match ci, h with
  | 0, _ => rfl
  | 1, _ => rfl
  | 2, _ => rfl
  | 3, _ => rfl
  | 4, _ => rfl
  | 5, _ => rfl
  | 6, _ => rfl
  | 7, _ => rfl
/-- a field's link, with its place -/
def gw_F (own : String) (index ci j : Nat) : Prop := ci < 8 ∧ j < (gw_cw ci).2.2 ∧ Cond.fieldLink own index (gw_cw ci).1 ((gw_cw ci).2.1 j).2.1 ((gw_cw ci).2.1 j).2.2.1 ∈ gw_tbl ∧ ((gw_cw ci).2.1 j).1 = (gw_cw ci).1
def gw_FN (own : String) (index ci j : Nat) : Prop := ci < 8 ∧ j < (gw_cw ci).2.2 ∧ Cond.fieldLinkNest own index (gw_cw ci).1 ((gw_cw ci).2.1 j).2.1 ((gw_cw ci).2.1 j).2.2.1 RX7 ∈ gw_nst ∧ ((gw_cw ci).2.1 j).1 = (gw_cw ci).1
theorem pw_geti (C : XC x G own cc nL ret) {index ci k n j : Nat} {t : List (Option Nat)} (hd : decode cc pc = .ok (.getfield index, 3)) (hF : gw_F own index ci j) (hk : k < gw_n) (hkd : gw_kd k = (ci + 5, n, t)) (ht : t[j]? = some none)
    (kk : PW x G nL (pc + 3) ls (.int (σ.1 k j) :: st) σ) : PW x G nL pc ls (.ref (G.1 + k) :: st) σ := fun H locs arr hP hS hl =>
  va_get C.1 C.2.1 C.2.2.2.2.1 (gw_cin ci hF.1) C.2.2.2.1 C.2.2.2.2.2.2.2.1 hP k ((gw_at G σ hk).trans (by rw [gw_ct5 hkd])) (gw_cvw ci hF.1) j hF.2.1 (C.2.2.2.2.1 _ hF.2.2.1) (fun z hz => by rw [← hF.2.2.2]; exact hz) (by rw [gw_fs_i _ _ _ _ _ ht, Nat.zero_add]) hd (kk H locs arr hP hS hl)
theorem pw_getiN (C : XC x G own cc nL ret) {index ci k n j : Nat} {t : List (Option Nat)} (hd : decode cc pc = .ok (.getfield index, 3)) (hF : gw_FN own index ci j) (hk : k < gw_n) (hkd : gw_kd k = (ci + 5, n, t)) (ht : t[j]? = some none)
    (kk : PW x G nL (pc + 3) ls (.int (σ.1 k j) :: st) σ) : PW x G nL pc ls (.ref (G.1 + k) :: st) σ := fun H locs arr hP hS hl =>
  va_getN C.1 C.2.1 C.2.2.2.2.1 (gw_cin ci hF.1) C.2.2.2.1 C.2.2.2.2.2.2.2.1 hP k ((gw_at G σ hk).trans (by rw [gw_ct5 hkd])) (gw_cvw ci hF.1) j hF.2.1 ((C.2.2.2.2.2.2.2.2.2.2.2.1 _ hF.2.2.1).use rfl) (fun z hz => by rw [← hF.2.2.2]; exact hz) (by rw [gw_fs_i _ _ _ _ _ ht, Nat.zero_add]) hd (kk H locs arr hP hS hl)
theorem pw_getr (C : XC x G own cc nL ret) {index ci k n j z : Nat} {t : List (Option Nat)} (hd : decode cc pc = .ok (.getfield index, 3)) (hF : gw_F own index ci j) (hk : k < gw_n) (hkd : gw_kd k = (ci + 5, n, t)) (ht : t[j]? = some (some z))
    (kk : PW x G nL (pc + 3) ls (.ref (G.1 + z) :: st) σ) : PW x G nL pc ls (.ref (G.1 + k) :: st) σ := fun H locs arr hP hS hl =>
  va_get C.1 C.2.1 C.2.2.2.2.1 (gw_cin ci hF.1) C.2.2.2.1 C.2.2.2.2.2.2.2.1 hP k ((gw_at G σ hk).trans (by rw [gw_ct5 hkd])) (gw_cvw ci hF.1) j hF.2.1 (C.2.2.2.2.1 _ hF.2.2.1) (fun z hz => by rw [← hF.2.2.2]; exact hz) (gw_fs_r _ _ _ _ _ ht) hd (kk H locs arr hP hS hl)
theorem pw_getrN (C : XC x G own cc nL ret) {index ci k n j z : Nat} {t : List (Option Nat)} (hd : decode cc pc = .ok (.getfield index, 3)) (hF : gw_FN own index ci j) (hk : k < gw_n) (hkd : gw_kd k = (ci + 5, n, t)) (ht : t[j]? = some (some z))
    (kk : PW x G nL (pc + 3) ls (.ref (G.1 + z) :: st) σ) : PW x G nL pc ls (.ref (G.1 + k) :: st) σ := fun H locs arr hP hS hl =>
  va_getN C.1 C.2.1 C.2.2.2.2.1 (gw_cin ci hF.1) C.2.2.2.1 C.2.2.2.2.2.2.2.1 hP k ((gw_at G σ hk).trans (by rw [gw_ct5 hkd])) (gw_cvw ci hF.1) j hF.2.1 ((C.2.2.2.2.2.2.2.2.2.2.2.1 _ hF.2.2.1).use rfl) (fun z hz => by rw [← hF.2.2.2]; exact hz) (gw_fs_r _ _ _ _ _ ht) hd (kk H locs arr hP hS hl)
theorem pw_puti (C : XC x G own cc nL ret) {index ci k n j : Nat} {t : List (Option Nat)} {v : Int32} (hd : decode cc pc = .ok (.putfield index, 3)) (hF : gw_F own index ci j) (hfin : ((gw_cw ci).2.1 j).2.2.2 = false) (hn : narrow (gw_tyf ci j) (.int v) = .int v) (hfit : fits (gw_tyf ci j) (.int v) = true) (hk : k < gw_n) (hkd : gw_kd k = (ci + 5, n, t)) (ht : t[j]? = some none)
    (kk : PW x G nL (pc + 3) ls st (gw_u σ k j v)) : PW x G nL pc ls (.int v :: .ref (G.1 + k) :: st) σ := fun H locs arr hP hS hl => by
  refine va_put C.1 C.2.1 C.2.2.2.2.1 (gw_cin ci hF.1) (gw_tyf ci) (gw_cty ci hF.1) (gw_cnm ci hF.1) C.2.2.2.1 C.2.2.2.2.2.2.2.1 hP (gw_D G σ) hS k ((gw_at G σ hk).trans (by rw [gw_ct5 hkd])) (gw_cvw ci hF.1) j hF.2.1 (C.2.2.2.2.1 _ hF.2.2.1) (fun y hy => by rw [← hF.2.2.2]; exact hy) hfin (gw_cty ci hF.1 j hF.2.1) hn hfit (by rw [gw_fs_len]; exact (List.getElem?_eq_some_iff.mp ht).1) hd (fun H1 locs1 hP1 _ hS1 => kk H1 locs1 arr (gw_set hk ?_ ?_ hP1) hS1 hl)
  · rw [gw_ct5 hkd, gw_fs_set _ _ _ _ _ _ ht, Nat.zero_add]
    simp [gw_u, gw_r]
  · intro k' hne
    exact gw_ct_ne (gw_r_ne σ _ hne) rfl
theorem pw_iald (C : XC x G own cc nL ret) {k n : Nat} {t : List (Option Nat)} {i : Int32} (hd : decode cc pc = .ok (.iaload, 1)) (hk : k < gw_n) (hkd : gw_kd k = (0, n, t)) (hin : vp_in i n)
    (kk : PW x G nL (pc + 1) ls (.int (σ.1 k i.toNatClampNeg) :: st) σ) : PW x G nL pc ls (.int i :: .ref (G.1 + k) :: st) σ := fun H locs arr hP hS hl =>
  va_iald C.1 C.2.1 C.2.2.2.2.2.2.2.1 hP k 0 ((gw_at G σ hk).trans (by rw [gw_ct0 hkd])) rfl hin hd (kk H locs arr hP hS hl)
theorem pw_bald (C : XC x G own cc nL ret) {k n : Nat} {t : List (Option Nat)} {i : Int32} (hd : decode cc pc = .ok (.baload, 1)) (hk : k < gw_n) (hkd : gw_kd k = (1, n, t)) (hin : vp_in i n)
    (kk : PW x G nL (pc + 1) ls (.int (σ.1 k i.toNatClampNeg) :: st) σ) : PW x G nL pc ls (.int i :: .ref (G.1 + k) :: st) σ := fun H locs arr hP hS hl =>
  va_zald C.1 C.2.1 C.2.2.2.2.2.2.2.1 hP k 1 ((gw_at G σ hk).trans (by rw [gw_ct1 hkd])) rfl hin hd (kk H locs arr hP hS hl)
theorem pw_cald (C : XC x G own cc nL ret) {k n : Nat} {t : List (Option Nat)} {i : Int32} (hd : decode cc pc = .ok (.caload, 1)) (hk : k < gw_n) (hkd : gw_kd k = (2, n, t)) (hin : vp_in i n)
    (kk : PW x G nL (pc + 1) ls (.int (σ.1 k i.toNatClampNeg) :: st) σ) : PW x G nL pc ls (.int i :: .ref (G.1 + k) :: st) σ := fun H locs arr hP hS hl =>
  va_cald C.1 C.2.1 C.2.2.2.2.2.2.2.1 hP k 2 ((gw_at G σ hk).trans (by rw [gw_ct2 hkd])) rfl hin hd (kk H locs arr hP hS hl)
theorem pw_lald (C : XC x G own cc nL ret) {k n : Nat} {t : List (Option Nat)} {i : Int32} (hd : decode cc pc = .ok (.laload, 1)) (hk : k < gw_n) (hkd : gw_kd k = (3, n, t)) (hin : vp_in i n)
    (kk : PW x G nL (pc + 1) ls (.long (σ.2 k i.toNatClampNeg) :: st) σ) : PW x G nL pc ls (.int i :: .ref (G.1 + k) :: st) σ := fun H locs arr hP hS hl =>
  va_lald C.1 C.2.1 C.2.2.2.2.2.2.2.1 hP k 3 ((gw_at G σ hk).trans (by rw [gw_ct3 hkd])) rfl hin hd (kk H locs arr hP hS hl)
theorem pw_aald (C : XC x G own cc nL ret) {k n z : Nat} {t : List (Option Nat)} {i : Int32} (hd : decode cc pc = .ok (.aaload, 1)) (hk : k < gw_n) (hkd : gw_kd k = (4, n, t)) (hin : vp_in i n) (hz : t.getD i.toNatClampNeg none = some z)
    (kk : PW x G nL (pc + 1) ls (.ref (G.1 + z) :: st) σ) : PW x G nL pc ls (.int i :: .ref (G.1 + k) :: st) σ := fun H locs arr hP hS hl =>
  va_aldq C.1 C.2.1 C.2.2.2.2.2.2.2.1 hP k 4 ((gw_at G σ hk).trans (by rw [gw_ct4 hkd])) rfl hin hd (by rw [hz]; exact kk H locs arr hP hS hl)
theorem pw_alen (C : XC x G own cc nL ret) {k n : Nat} {t : List (Option Nat)} {v : Int32} (hd : decode cc pc = .ok (.arraylength, 1)) (hk : k < gw_n) (hkd : gw_kd k = (0, n, t)) (hv : Int32.ofNat n = v)
    (kk : PW x G nL (pc + 1) ls (.int v :: st) σ) : PW x G nL pc ls (.ref (G.1 + k) :: st) σ := fun H locs arr hP hS hl =>
  va_alen C.1 C.2.1 C.2.2.2.2.2.2.2.1 hP k 0 ((gw_at G σ hk).trans (by rw [gw_ct0 hkd])) rfl hv hd (kk H locs arr hP hS hl)
theorem pw_iast (C : XC x G own cc nL ret) {k n : Nat} {t : List (Option Nat)} {i v : Int32} (hd : decode cc pc = .ok (.iastore, 1)) (hk : k < gw_n) (hkd : gw_kd k = (0, n, t)) (hin : vp_in i n)
    (kk : PW x G nL (pc + 1) ls st (gw_u σ k i.toNatClampNeg v)) : PW x G nL pc ls (.int v :: .int i :: .ref (G.1 + k) :: st) σ := fun H locs arr hP hS hl =>
  va_iast C.1 C.2.1 C.2.2.2.2.2.2.2.1 hP (gw_D G σ) hS k 0 ((gw_at G σ hk).trans (by rw [gw_ct0 hkd])) rfl hin hd (fun H1 locs1 hP1 _ hS1 => kk H1 locs1 arr (gw_set hk (by rw [gw_ct0 hkd]; simp [gw_u, gw_r]) (fun k' hne => gw_ct_ne (gw_r_ne σ _ hne) rfl) hP1) hS1 hl)
theorem pw_bast (C : XC x G own cc nL ret) {k n : Nat} {t : List (Option Nat)} {i v : Int32} (hd : decode cc pc = .ok (.bastore, 1)) (hk : k < gw_n) (hkd : gw_kd k = (1, n, t)) (hin : vp_in i n) (hx : vp_nar .boolean v = v)
    (kk : PW x G nL (pc + 1) ls st (gw_u σ k i.toNatClampNeg v)) : PW x G nL pc ls (.int v :: .int i :: .ref (G.1 + k) :: st) σ := fun H locs arr hP hS hl =>
  va_zast C.1 C.2.1 C.2.2.2.2.2.2.2.1 hP (gw_D G σ) hS k 1 ((gw_at G σ hk).trans (by rw [gw_ct1 hkd])) rfl hin hd (fun H1 locs1 hP1 _ hS1 => kk H1 locs1 arr (gw_set hk (by rw [gw_ct1 hkd, hx]; simp [gw_u, gw_r]) (fun k' hne => gw_ct_ne (gw_r_ne σ _ hne) rfl) hP1) hS1 hl)
theorem pw_cast (C : XC x G own cc nL ret) {k n : Nat} {t : List (Option Nat)} {i v : Int32} (hd : decode cc pc = .ok (.castore, 1)) (hk : k < gw_n) (hkd : gw_kd k = (2, n, t)) (hin : vp_in i n) (hx : vp_nar .char v = v)
    (kk : PW x G nL (pc + 1) ls st (gw_u σ k i.toNatClampNeg v)) : PW x G nL pc ls (.int v :: .int i :: .ref (G.1 + k) :: st) σ := fun H locs arr hP hS hl =>
  va_cast C.1 C.2.1 C.2.2.2.2.2.2.2.1 hP (gw_D G σ) hS k 2 ((gw_at G σ hk).trans (by rw [gw_ct2 hkd])) rfl hin hd (fun H1 locs1 hP1 _ hS1 => kk H1 locs1 arr (gw_set hk (by rw [gw_ct2 hkd, hx]; simp [gw_u, gw_r]) (fun k' hne => gw_ct_ne (gw_r_ne σ _ hne) rfl) hP1) hS1 hl)
theorem pw_last (C : XC x G own cc nL ret) {k n : Nat} {t : List (Option Nat)} {i : Int32} {v : Int64} (hd : decode cc pc = .ok (.lastore, 1)) (hk : k < gw_n) (hkd : gw_kd k = (3, n, t)) (hin : vp_in i n)
    (kk : PW x G nL (pc + 1) ls st (gw_ul σ k i.toNatClampNeg v)) : PW x G nL pc ls (.long v :: .int i :: .ref (G.1 + k) :: st) σ := fun H locs arr hP hS hl =>
  va_last C.1 C.2.1 C.2.2.2.2.2.2.2.1 hP (gw_D G σ) hS k 3 ((gw_at G σ hk).trans (by rw [gw_ct3 hkd])) rfl hin hd (fun H1 locs1 hP1 _ hS1 => kk H1 locs1 arr (gw_set hk (σ' := gw_ul σ k i.toNatClampNeg v) (by rw [gw_ct3 hkd]; simp [gw_ul, gw_rl]) (fun k' hne => gw_ct_ne (σ := σ) (σ' := gw_ul σ k i.toNatClampNeg v) (by simp [gw_ul, gw_rl]) (by simp [gw_ul, gw_rl, hne])) hP1) hS1 hl)
theorem pw_gets (C : XC x G own cc nL ret) {index i : Nat} (hd : decode cc pc = .ok (.getstatic index, 3)) (hi : i < 4) (hw : Cond.fieldLink own index RX1 (gw_en i) "LRateWires$Fault;" ∈ gw_tbl)
    (kk : PW x G nL (pc + 3) ls (.ref (G.2.2.2 i) :: st) σ) : PW x G nL pc ls st σ := fun H locs arr hP hS hl =>
  va_gets C.1 C.2.1 (C.2.2.2.2.2.2.2.2.1 i hi) hS C.2.2.2.1 (C.2.2.2.2.1 _ hw) (fun _ h => h) hd (kk H locs arr hP hS hl)
theorem pw_acmp_ne (C : XC x G own cc nL ret) {i j : Nat} {off : Int} {tgt : Nat} (hd : decode cc pc = .ok (.if_acmp .ne off, 3)) (ht : (pc : Int) + off = (tgt : Int)) (hi : i < 4) (hj : j < 4)
    (kt : ¬ i = j → PW x G nL tgt ls st σ) (kf : i = j → PW x G nL (pc + 3) ls st σ) : PW x G nL pc ls (.ref (G.2.2.2 j) :: .ref (G.2.2.2 i) :: st) σ := fun H locs arr hP hS hl =>
  lv_acmp_ne (rx := some (G.2.2.2 i)) (ry := some (G.2.2.2 j)) C.1 C.2.1 hd ht (fun q => kt (fun z => q (by rw [z])) H locs arr hP hS hl) (fun q => kf (C.2.2.2.2.2.2.2.2.2.1 i j hi hj (Option.some.inj q)) H locs arr hP hS hl)
theorem pw_acmp_eq (C : XC x G own cc nL ret) {i j : Nat} {off : Int} {tgt : Nat} (hd : decode cc pc = .ok (.if_acmp .eq off, 3)) (ht : (pc : Int) + off = (tgt : Int)) (hi : i < 4) (hj : j < 4)
    (kt : i = j → PW x G nL tgt ls st σ) (kf : ¬ i = j → PW x G nL (pc + 3) ls st σ) : PW x G nL pc ls (.ref (G.2.2.2 j) :: .ref (G.2.2.2 i) :: st) σ := fun H locs arr hP hS hl =>
  lv_acmp_eq (rx := some (G.2.2.2 i)) (ry := some (G.2.2.2 j)) C.1 C.2.1 hd ht (fun q => kt (C.2.2.2.2.2.2.2.2.2.1 i j hi hj (Option.some.inj q)) H locs arr hP hS hl) (fun q => kf (fun z => q (by rw [z])) H locs arr hP hS hl)
theorem pw_copyi (C : XC x G own cc nL ret) {index k0 k1 n0 n1 : Nat} {t0 t1 : List (Option Nat)} {sp dp n : Int32} (hd : decode cc pc = .ok (.invokestatic index, 3)) (hw : Cond.methodLink own index arraycopyName ∈ gw_tbl) (hw1 : Cond.native arraycopyName ∈ gw_tbl) (hw2 : Cond.static arraycopyName ∈ gw_tbl) (hw3 : Cond.initialized "java/lang/System" ∈ gw_tbl) (hk0 : k0 < gw_n) (hkd0 : gw_kd k0 = (0, n0, t0)) (hk1 : k1 < gw_n) (hkd1 : gw_kd k1 = (0, n1, t1))
    (h1 : ¬ sp < 0) (h2 : ¬ dp < 0) (h3 : ¬ n < 0) (h4 : sp.toNatClampNeg + n.toNatClampNeg ≤ n0) (h5 : dp.toNatClampNeg + n.toNatClampNeg ≤ n1) (hR : 1 ≤ (xR x).frames) (hR2 : (st.map fun v => v.category).sum + (nativeFrameWords "java/lang/System" "arraycopy" 5 + 11) ≤ (xR x).locals)
    (kk : PW x G nL (pc + 3) ls st (gw_r σ k1 (va_cpy (σ.1 k0) (σ.1 k1) sp.toNatClampNeg dp.toNatClampNeg n.toNatClampNeg))) : PW x G nL pc ls (.int n :: .int dp :: .ref (G.1 + k1) :: .int sp :: .ref (G.1 + k0) :: st) σ := fun H locs arr hP hS hl =>
  va_copyi C.1 C.2.1 (C.2.2.1.trans hl.1.symm) C.2.2.2.1 (C.2.2.2.2.1 _ hw) (C.2.2.2.2.1 _ hw1) (C.2.2.2.2.1 _ hw2) (C.2.2.2.2.1 _ hw3) C.2.2.2.2.2.2.2.1 hP (gw_D G σ) hS k0 k1 0 0 ((gw_at G σ hk0).trans (by rw [gw_ct0 hkd0])) ((gw_at G σ hk1).trans (by rw [gw_ct0 hkd1])) rfl rfl rfl h1 h2 h3 h4 h5 (fun i _ => rfl) hR hR2 hd (fun H1 locs1 hP1 _ hS1 => kk H1 locs1 arr (gw_set hk1 (by rw [gw_ct0 hkd1]; simp [gw_r]) (fun k' hne => gw_ct_ne (gw_r_ne σ _ hne) rfl) hP1) hS1 hl)
theorem pw_max (C : XC x G own cc nL ret) {index : Nat} {u w : Int32} (hd : decode cc pc = .ok (.invokestatic index, 3)) (hw : Cond.methodLink own index Lib.Math.max.name ∈ gw_tbl) (hw1 : Cond.static Lib.Math.max.name ∈ gw_tbl) (hw2 : Cond.initialized "java/lang/Math" ∈ gw_tbl) (hw3 : Cond.code Lib.Math.max.name Lib.Math.max.code 2 (some .int) ∈ gw_tbl) (hR : gw_ok x 1) (h8 : (st.map fun v => v.category).sum ≤ 17)
    (kk : PW x G nL (pc + 3) ls (.int (if u < w then w else u) :: st) σ) : PW x G nL pc ls (.int w :: .int u :: st) σ := fun H locs arr hP hS hl =>
  va_mmax C.1 C.2.1 (C.2.2.1.trans hl.1.symm) C.2.2.2.1 (C.2.2.2.2.1 _ hw) (C.2.2.2.2.1 _ hw1) (C.2.2.2.2.1 _ hw2) (C.2.2.2.2.1 _ hw3) hR.1 (by have := hR.2.1; omega) hR.2.2.1 hR.2.2.2 hd (kk H locs arr hP hS hl)
theorem pw_min (C : XC x G own cc nL ret) {index : Nat} {u w : Int32} (hd : decode cc pc = .ok (.invokestatic index, 3)) (hw : Cond.methodLink own index Lib.Math.min.name ∈ gw_tbl) (hw1 : Cond.static Lib.Math.min.name ∈ gw_tbl) (hw2 : Cond.initialized "java/lang/Math" ∈ gw_tbl) (hw3 : Cond.code Lib.Math.min.name Lib.Math.min.code 2 (some .int) ∈ gw_tbl) (hR : gw_ok x 1) (h8 : (st.map fun v => v.category).sum ≤ 17)
    (kk : PW x G nL (pc + 3) ls (.int (if w < u then w else u) :: st) σ) : PW x G nL pc ls (.int w :: .int u :: st) σ := fun H locs arr hP hS hl =>
  va_mmin C.1 C.2.1 (C.2.2.1.trans hl.1.symm) C.2.2.2.1 (C.2.2.2.2.1 _ hw) (C.2.2.2.2.1 _ hw1) (C.2.2.2.2.1 _ hw2) (C.2.2.2.2.1 _ hw3) hR.1 (by have := hR.2.1; omega) hR.2.2.1 hR.2.2.2 hd (kk H locs arr hP hS hl)
-- ===== calls =====
/-- what the tables say of a method that is called -/
def gw_MV (y : MethodName) (bytes : ByteArray) (maxL : Nat) (rt : Option FieldType) (n : Nat) : Prop := Cond.code y bytes maxL rt ∈ gw_tbl ∧ Cond.instanceMethod y ∈ gw_tbl ∧ Cond.selects y.cls y y ∈ gw_tbl ∧ Cond.initialized y.cls ∈ gw_tbl ∧ (y.cls ≠ "java/lang/invoke/MethodHandle" ∧ y.cls ≠ "java/lang/invoke/VarHandle" ∧ (parseMethodDescriptor y.desc).map (fun d => d.parameters.length) = some n)
def gw_MS (y : MethodName) (bytes : ByteArray) (maxL : Nat) (rt : Option FieldType) (n : Nat) : Prop := Cond.code y bytes maxL rt ∈ gw_tbl ∧ Cond.static y ∈ gw_tbl ∧ Cond.initialized y.cls ∈ gw_tbl ∧ (y.cls ≠ "java/lang/invoke/MethodHandle" ∧ y.cls ≠ "java/lang/invoke/VarHandle" ∧ (parseMethodDescriptor y.desc).map (fun d => d.parameters.length) = some n)
theorem gw_good {y : MethodName} {bytes : ByteArray} {maxL : Nat} {rt : Option FieldType} (h : Cond.code y bytes maxL rt ∈ gw_tbl) : GoodIn gw_tbl (.code y bytes maxL rt :: gw_tbl) := by
  intro w hw
  rcases List.mem_cons.mp hw with rfl | hw
  · exact ⟨h, good_of_word (List.mem_filter.mp h).2⟩
  · exact ⟨hw, good_of_word (List.mem_filter.mp hw).2⟩
theorem gw_call {Φ : Option Value → gw_S → Prop} {H : Heap} {locs : List Loc} {arr : Array Slot} {rest st0 : List Value} {a : Array Value}
    (hr : va_Run (xp x) (xl x) (xe x) (xR x) (xs x) (xm x) (xa x) (xb x) (xM x) (xc x) H locs (xk x) (xn x) 0 0 (F0 (xm x) pc arr st0) rest (gw_Q G Φ a) (gw_A G)) (hS : va_S (gw_A G) (xs x).heap H locs) (hl : lv_has arr nL ls)
    (k : ∀ (v : Option Value) (σ' : gw_S), Φ v σ' → PW x G nL (pc + 3) ls (v.toList ++ rest) σ') : xW x H locs (F0 (xm x) pc arr st0) := by
  intro T hT X
  obtain ⟨v, st₀, t, T', L, h0, X', hL, e1, e2, ⟨⟨v', σ', hv, hp, hb⟩, hz, hk⟩, st⟩ := hr T hT X
  cases hv
  rw [h0] at hz hk
  obtain ⟨t2, a1, b1⟩ := k v σ' hp T'.heap (locs ++ L) arr (by rw [e1]; exact hb)
    ⟨Nat.le_trans hS.1 (by rw [e1]; exact hz), fun q h1 h2 => by rw [e1, hk q (Nat.lt_of_lt_of_le h1 hS.1) h2]; exact hS.2.1 q h1 h2, fun q hq => by
      rcases List.mem_append.mp hq with h | h
      · exact hS.2.2 q h
      · exact hL q h⟩ hl T' rfl X'
  exact ⟨t2, st t2 a1, b1⟩
theorem pw_callV (C : XC x G own cc nL ret) {y : MethodName} {bytes : ByteArray} {maxL index d n k nn ci : Nat} {rt : Option FieldType} {As : List Value} {t : List (Option Nat)} {Φ : Option Value → gw_S → Prop} (hd : decode cc pc = .ok (.invokevirtual index, 3)) (hM : gw_M (xl x) G y bytes maxL rt d (.ref (G.1 + k) :: As) σ Φ) (hy : gw_MV y bytes maxL rt n) (hw : Cond.methodLink own index y ∈ gw_tbl) (hn : As.length = n) {D : Nat} (hR : gw_ok x D) (hdD : d + 1 ≤ D) (hmL : maxL ≤ 11) (hci : ci < 8) (hcn : (gw_cw ci).1 = y.cls) (hk : k < gw_n) (hkd : gw_kd k = (ci + 5, nn, t)) {st0 : List Value} (hst : st0 = As.reverse ++ .ref (G.1 + k) :: st) (h8 : (st.map fun v => v.category).sum ≤ 8)
    (kk : ∀ (v : Option Value) (σ' : gw_S), Φ v σ' → PW x G nL (pc + 3) ls (v.toList ++ st) σ') : PW x G nL pc ls st0 σ := fun H locs arr hP hS hl => by
  have hW := C.2.2.2.2.1
  refine gw_call (va_runV (C := y.cls) (bytes := bytes) (maxL := maxL) (ret := rt) (n := n) (index := index) (As := As) (b := G.1 + k) (rest := st) ⟨C.1, C.2.1, C.2.2.1, C.2.2.2.1, hW⟩ hM ⟨callB_of n hW (gw_good hy.1) rfl rfl rfl (hW _ hy.2.2.2.1) (hW _ hw) hy.2.2.2.2 ⟨Nat.le_trans hdD hR.1, by have := hR.2.1; show 8 + (maxL + 11) + 30 * d ≤ _; omega⟩, hW _ hy.2.1, hW _ hy.2.2.1⟩ ⟨gw_blind, ?_, fun U hU hW9 => ⟨rfl, by rw [hU]; exact hP, C.2.2.2.2.2.2.2.go hW9 hU hS⟩⟩ rfl hn hl.1 hst (lv_room h8) hd ⟨hR.2.2.1, hR.2.2.2⟩) hS hl kk
  have hv := va_recv C.2.2.2.2.2.2.2.1 hP (gw_cvw ci hci) (q0 := k) ((gw_at G σ hk).trans (by rw [gw_ct5 hkd]))
  rw [hcn] at hv
  exact hv
theorem pw_callS (C : XC x G own cc nL ret) {y : MethodName} {bytes : ByteArray} {maxL index d n : Nat} {rt : Option FieldType} {As : List Value} {Φ : Option Value → gw_S → Prop} (hd : decode cc pc = .ok (.invokestatic index, 3)) (hM : gw_M (xl x) G y bytes maxL rt d As σ Φ) (hy : gw_MS y bytes maxL rt n) (hw : Cond.methodLink own index y ∈ gw_tbl) (hn : As.length = n) {D : Nat} (hR : gw_ok x D) (hdD : d + 1 ≤ D) (hmL : maxL ≤ 11) {st0 : List Value} (hst : st0 = As.reverse ++ st) (h8 : (st.map fun v => v.category).sum ≤ 8)
    (kk : ∀ (v : Option Value) (σ' : gw_S), Φ v σ' → PW x G nL (pc + 3) ls (v.toList ++ st) σ') : PW x G nL pc ls st0 σ := fun H locs arr hP hS hl => by
  have hW := C.2.2.2.2.1
  exact gw_call (va_runS (bytes := bytes) (maxL := maxL) (ret := rt) (n := n) (index := index) (As := As) (rest := st) ⟨C.1, C.2.1, C.2.2.1, C.2.2.2.1, hW⟩ hM ⟨callB_of n hW (gw_good hy.1) rfl rfl rfl (hW _ hy.2.2.1) (hW _ hw) hy.2.2.2 ⟨Nat.le_trans hdD hR.1, by have := hR.2.1; show 8 + (maxL + 11) + 30 * d ≤ _; omega⟩, hW _ hy.2.1⟩ ⟨gw_blind, fun U hU hW9 => ⟨rfl, by rw [hU]; exact hP, C.2.2.2.2.2.2.2.go hW9 hU hS⟩⟩ rfl hn hl.1 hst (lv_room h8) hd ⟨hR.2.2.1, hR.2.2.2⟩) hS hl kk
theorem pw_callSN (C : XC x G own cc nL ret) {y : MethodName} {bytes : ByteArray} {maxL index d n : Nat} {rt : Option FieldType} {As : List Value} {Φ : Option Value → gw_S → Prop} (hd : decode cc pc = .ok (.invokestatic index, 3)) (hM : gw_M (xl x) G y bytes maxL rt d As σ Φ) (hy : gw_MS y bytes maxL rt n) (hw : Cond.methodLinkNest own index y RX7 ∈ gw_nst) (hn : As.length = n) {D : Nat} (hR : gw_ok x D) (hdD : d + 1 ≤ D) (hmL : maxL ≤ 11) {st0 : List Value} (hst : st0 = As.reverse ++ st) (h8 : (st.map fun v => v.category).sum ≤ 8)
    (kk : ∀ (v : Option Value) (σ' : gw_S), Φ v σ' → PW x G nL (pc + 3) ls (v.toList ++ st) σ') : PW x G nL pc ls st0 σ := fun H locs arr hP hS hl => by
  have hW := C.2.2.2.2.1
  exact gw_call (va_runSN (bytes := bytes) (maxL := maxL) (ret := rt) (n := n) (index := index) (As := As) (rest := st) ⟨C.1, C.2.1, C.2.2.1, C.2.2.2.1, hW⟩ hM ⟨va_cnB n hW (gw_good hy.1) rfl rfl rfl (C.2.2.2.2.2.2.2.2.2.2.2.1 _ hw) (hW _ hy.2.2.1) hy.2.2.2 ⟨Nat.le_trans hdD hR.1, by have := hR.2.1; show 8 + (maxL + 11) + 30 * d ≤ _; omega⟩, hW _ hy.2.1, trivial⟩ ⟨gw_blind, fun U hU hW9 => ⟨rfl, by rw [hU]; exact hP, C.2.2.2.2.2.2.2.go hW9 hU hS⟩⟩ rfl hn hl.1 hst (lv_room h8) hd ⟨hR.2.2.1, hR.2.2.2⟩) hS hl kk
theorem fi_k {Φ : Int32 → gw_S → Prop} {P : List Value → gw_S → Prop} (k : ∀ r τ, Φ r τ → P [.int r] τ) : ∀ (v : Option Value) (τ : gw_S), fi Φ v τ → P v.toList τ := by
  rintro v τ ⟨r, rfl, h⟩; exact k r τ h
end GW
section GW2
variable {x : gw_X} {G : gw_G} {nL pc : Nat} {own : String} {cc : ByteArray} {ret : Option FieldType} {ls : List (Nat × Value)} {st : List Value} {σ : gw_S}
theorem pw_z_eq (C : XC x G own cc nL ret) {b : Bool} {off : Int} {tgt : Nat} (hd : decode cc pc = .ok (.ifCond .eq off, 3)) (ht : (pc : Int) + off = (tgt : Int)) (kt : b = false → PW x G nL tgt ls st σ) (kf : ¬ b = false → PW x G nL (pc + 3) ls st σ) : PW x G nL pc ls (.int (gz b) :: st) σ :=
  pw_if_eq C hd ht (fun q => kt ((gz_0 b).mp q)) (fun q => kf (fun z => q ((gz_0 b).mpr z)))
theorem pw_z_ne (C : XC x G own cc nL ret) {b : Bool} {off : Int} {tgt : Nat} (hd : decode cc pc = .ok (.ifCond .ne off, 3)) (ht : (pc : Int) + off = (tgt : Int)) (kt : ¬ b = false → PW x G nL tgt ls st σ) (kf : b = false → PW x G nL (pc + 3) ls st σ) : PW x G nL pc ls (.int (gz b) :: st) σ :=
  pw_if_ne C hd ht (fun q => kt (fun z => q ((gz_0 b).mpr z))) (fun q => kf ((gz_0 b).mp q))
theorem pw_tout (C : XC x G own cc nL ret) {dflt lo hi : Int} {offs : Array Int} {len : Nat} {u : Int32} {tgt : Nat} (hd : decode cc pc = .ok (.tableswitch dflt lo hi offs, len)) (h : u.toInt < lo ∨ hi < u.toInt) (ht : (pc : Int) + dflt = (tgt : Int)) (k : PW x G nL tgt ls st σ) : PW x G nL pc ls (.int u :: st) σ := fun H locs arr hP hS hl => lv_tableOut C.1 C.2.1 hd h ht (k H locs arr hP hS hl)
theorem pw_tin (C : XC x G own cc nL ret) {dflt lo hi off : Int} {offs : Array Int} {len : Nat} {u : Int32} {tgt : Nat} (j : Int) (hd : decode cc pc = .ok (.tableswitch dflt lo hi offs, len)) (hu : u.toInt = j) (h1 : ¬ j < lo) (h2 : ¬ hi < j) (ho : offs[(j - lo).toNat]? = some off) (ht : (pc : Int) + off = (tgt : Int)) (k : PW x G nL tgt ls st σ) : PW x G nL pc ls (.int u :: st) σ := fun H locs arr hP hS hl => lv_tableIn C.1 C.2.1 hd (by rw [hu]; exact h1) (by rw [hu]; exact h2) (by rw [hu]; exact ho) ht (k H locs arr hP hS hl)
theorem pw_lsw (C : XC x G own cc nL ret) {dflt off : Int} {ps : Array (Int × Int)} {len : Nat} {u : Int32} {tgt : Nat} (hd : decode cc pc = .ok (.lookupswitch dflt ps, len)) (hp : (ps.toList.zip (ps.toList.drop 1)).all (fun (a, next) => a.1 < next.1) = true) (ho : Op.lookupswitch.offset ps.toList dflt u.toInt = off) (ht : (pc : Int) + off = (tgt : Int)) (k : PW x G nL tgt ls st σ) : PW x G nL pc ls (.int u :: st) σ := fun H locs arr hP hS hl => lv_lookup C.1 C.2.1 hd hp ho ht (k H locs arr hP hS hl)
end GW2
/-- a plan at the cell b and the eight behind it -/
def gw_plan (b : Nat) : Prop := b + 9 ≤ gw_n ∧ gw_kd b = (7, 0, [none, some (b + 1), some (b + 2), some (b + 3), none, some (b + 4), some (b + 5), some (b + 6), some (b + 7), some (b + 8)]) ∧ gw_kd (b + 1) = (0, 8, []) ∧ gw_kd (b + 2) = (0, 8, []) ∧ gw_kd (b + 3) = (0, 8, []) ∧ gw_kd (b + 4) = (0, 14, []) ∧ gw_kd (b + 5) = (0, 14, []) ∧ gw_kd (b + 6) = (0, 14, []) ∧ gw_kd (b + 7) = (0, 14, []) ∧ gw_kd (b + 8) = (0, 14, [])
theorem gw_pn {b : Nat} (h : gw_plan b) (i : Nat) (hi : i < 9) : b + i < gw_n := Nat.lt_of_lt_of_le (Nat.add_lt_add_left hi b) h.1
theorem gw_p0 {b : Nat} (h : gw_plan b) : b < gw_n := gw_pn h 0 (by decide)
def gw_rates (r : Nat) : Prop := r + 2 ≤ gw_n ∧ gw_kd r = (8, 0, [some (r + 1), none]) ∧ gw_kd (r + 1) = (0, 8, [])
theorem gw_r0 {b : Nat} (h : gw_rates b) : b < gw_n := Nat.lt_of_lt_of_le (Nat.lt_add_of_pos_right (by decide)) h.1
theorem gw_r1 {b : Nat} (h : gw_rates b) : b + 1 < gw_n := Nat.lt_of_lt_of_le (Nat.add_lt_add_left (by decide) b) h.1
/-- an array of n ints at the cell k -/
def gw_ia (k n : Nat) : Prop := k < gw_n ∧ gw_kd k = (0, n, [])
/-- a call of refuse: it throws, or goes on -/
def TX (x : gw_X) (G : gw_G) (own : String) (cc : ByteArray) (nL : Nat) (K : Nat → gw_S → Prop) : Prop := ∀ (pc idx : Nat) (ls : List (Nat × Value)) (i : Nat) (σ : gw_S), decode cc pc = .ok (.invokestatic idx, 3) → Cond.methodLink own idx yX7_refuse ∈ gw_tbl → i < 4 → (¬ i = 0 → K i σ) → (i = 0 → PW x G nL (pc + 3) ls [] σ) → PW x G nL pc ls [.ref (G.2.2.2 i)] σ

