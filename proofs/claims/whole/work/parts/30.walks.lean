/-! ways: rows of wires; how short they may be; closures of sets; fewest marks -/
def wl (T : pT) (B : Nat) : Nat → List Nat → Nat → Prop
  | a, [], b => a = b
  | a, w :: l, b => w < tW T ∧ tH T w ≤ B ∧ tF T w = a ∧ wl T B (tO T w) l b
def wsum (T : pT) : List Nat → Nat
  | [] => 0
  | w :: l => tH T w + wsum T l
theorem wl_app {T : pT} {B : Nat} : ∀ {l1 : List Nat} {l2 : List Nat} {a b c : Nat}, wl T B a l1 b → wl T B b l2 c → wl T B a (l1 ++ l2) c
  | [], _, _, _, _, h1, h2 => by have h1 : _ = _ := h1; subst h1; exact h2
  | _ :: _, _, _, _, _, h1, h2 => ⟨h1.1, h1.2.1, h1.2.2.1, wl_app h1.2.2.2 h2⟩
theorem wl_split {T : pT} {B : Nat} : ∀ {l1 : List Nat} {l2 : List Nat} {a c : Nat}, wl T B a (l1 ++ l2) c → ∃ b, wl T B a l1 b ∧ wl T B b l2 c
  | [], _, a, _, h => ⟨a, rfl, h⟩
  | _ :: _, _, _, _, h => by
    obtain ⟨b, h1, h2⟩ := wl_split h.2.2.2
    exact ⟨b, ⟨h.1, h.2.1, h.2.2.1, h1⟩, h2⟩
theorem wl_one {T : pT} {B : Nat} : ∀ {l : List Nat} {a b c : Nat}, wl T B a l b → wl T B a l c → b = c
  | [], _, _, _, h1, h2 => by have h1 : _ = _ := h1; have h2 : _ = _ := h2; rw [← h1, ← h2]
  | _ :: _, _, _, _, h1, h2 => wl_one h1.2.2.2 h2.2.2.2
theorem wsum_app (T : pT) : ∀ (l1 l2 : List Nat), wsum T (l1 ++ l2) = wsum T l1 + wsum T l2
  | [], l2 => by simp [wsum]
  | w :: l1, l2 => by simp [wsum, wsum_app T l1 l2, Nat.add_assoc]
theorem wl_end {T : pT} {B : Nat} (hv : VT T) : ∀ {l : List Nat} {a b : Nat}, wl T B a l b → a < tM T → b < tM T
  | [], _, _, h, ha => by have h : _ = _ := h; rw [← h]; exact ha
  | w :: _, _, _, h, _ => wl_end hv h.2.2.2 (hv.2.2.2 w h.1).2.1
theorem wl_mono {T : pT} {B B' : Nat} (hB : B ≤ B') : ∀ {l : List Nat} {a b : Nat}, wl T B a l b → wl T B' a l b
  | [], _, _, h => h
  | _ :: _, _, _, h => ⟨h.1, Nat.le_trans h.2.1 hB, h.2.2.1, wl_mono hB h.2.2.2⟩
theorem wsum_le {T : pT} {B : Nat} : ∀ {l : List Nat} {a b : Nat}, wl T B a l b → wsum T l ≤ l.length * B
  | [], _, _, _ => Nat.zero_le _
  | w :: l, _, _, h => by
    have := wsum_le h.2.2.2
    have h2 := h.2.1
    simp only [wsum, List.length_cons, Nat.succ_mul]; omega
/-- the module where one stands behind i wires -/
def vat (T : pT) : Nat → List Nat → Nat → Nat
  | a, _, 0 => a
  | a, [], _ + 1 => a
  | _, w :: l, i + 1 => vat T (tO T w) l i
theorem wl_vat {T : pT} {B : Nat} : ∀ {l : List Nat} {a b : Nat} (i : Nat), wl T B a l b → i ≤ l.length → wl T B a (l.take i) (vat T a l i) ∧ wl T B (vat T a l i) (l.drop i) b
  | l, a, b, 0, h, _ => by
    cases l <;> exact ⟨rfl, h⟩
  | [], a, b, i + 1, h, hi => absurd hi (by simp)
  | w :: l, a, b, i + 1, h, hi => by
    have := wl_vat i h.2.2.2 (by simpa using hi)
    exact ⟨⟨h.1, h.2.1, h.2.2.1, this.1⟩, this.2⟩
theorem vat_lt {T : pT} {B : Nat} (hv : VT T) {l : List Nat} {a b : Nat} (h : wl T B a l b) (ha : a < tM T) (i : Nat) (hi : i ≤ l.length) : vat T a l i < tM T := wl_end hv (wl_vat i h hi).1 ha
theorem holes2 {m n : Nat} {f : Nat → Nat} (h : ∀ i, i < n → f i < m) (hm : m < n) : ∃ i j, i < j ∧ j < n ∧ f i = f j := by
  induction m generalizing n f with
  | zero => exact absurd (h 0 (by omega)) (Nat.not_lt_zero _)
  | succ m ih =>
    by_cases hc : ∃ i, i < n - 1 ∧ f i = f (n - 1)
    · obtain ⟨i, h1, h2⟩ := hc
      exact ⟨i, n - 1, h1, by omega, h2⟩
    · have hn : ∀ i, i < n - 1 → f i ≠ f (n - 1) := fun i hi e => hc ⟨i, hi, e⟩
      -- the last value is taken out: values above it go down by one
      have hl := h (n - 1) (by omega)
      obtain ⟨i, j, h1, h2, h3⟩ := ih (n := n - 1) (f := fun i => if f i < f (n - 1) then f i else f i - 1) (fun i hi => by
        have e1 := h i (by omega)
        have e2 := hn i hi
        show (if f i < f (n - 1) then f i else f i - 1) < m
        split <;> omega) (by omega)
      refine ⟨i, j, h1, by omega, ?_⟩
      have e1 := hn i (by omega)
      have e2 := hn j (by omega)
      have h3 : (if f i < f (n - 1) then f i else f i - 1) = (if f j < f (n - 1) then f j else f j - 1) := h3
      split at h3 <;> split at h3 <;> omega
/-- a way may be taken with fewer wires than there are modules -/
theorem wl_short {T : pT} {B : Nat} (hv : VT T) : ∀ (n : Nat) {l : List Nat} {a b : Nat}, l.length ≤ n → wl T B a l b → a < tM T → ∃ l', wl T B a l' b ∧ l'.length < tM T ∧ wsum T l' ≤ wsum T l
  | 0, l, a, b, hn, h, ha => ⟨l, h, by omega, Nat.le_refl _⟩
  | n + 1, l, a, b, hn, h, ha => by
    by_cases hl : l.length < tM T
    · exact ⟨l, h, hl, Nat.le_refl _⟩
    · obtain ⟨i, j, h1, h2, h3⟩ := holes2 (n := l.length + 1) (f := vat T a l) (m := tM T) (fun i hi => vat_lt hv h ha i (by omega)) (by omega)
      have p1 := (wl_vat i h (by omega)).1
      have p2 := (wl_vat j h (by omega)).2
      rw [h3] at p1
      have p := wl_app p1 p2
      have hlen : (l.take i ++ l.drop j).length ≤ n := by
        rw [List.length_append, List.length_take, List.length_drop]; omega
      obtain ⟨l', q1, q2, q3⟩ := wl_short hv n hlen p ha
      refine ⟨l', q1, q2, Nat.le_trans q3 ?_⟩
      have e : wsum T l = wsum T (l.take i) + (wsum T ((l.drop i).take (j - i)) + wsum T (l.drop j)) := by
        rw [← wsum_app, ← wsum_app]
        congr 1
        have : l.drop j = (l.drop i).drop (j - i) := by rw [List.drop_drop]; congr 1; omega
        rw [this, List.take_append_drop, List.take_append_drop]
      rw [e, wsum_app]; omega
/-- reachable; reachable by one wire or more -/
def Rc (T : pT) (B a b : Nat) : Prop := ∃ l, wl T B a l b
def Rp (T : pT) (B a b : Nat) : Prop := ∃ l, l ≠ [] ∧ wl T B a l b
theorem Rp_iff {T : pT} {B a b : Nat} : Rp T B a b ↔ ∃ w, w < tW T ∧ tH T w ≤ B ∧ tF T w = a ∧ Rc T B (tO T w) b := by
  constructor
  · rintro ⟨l, h1, h2⟩
    cases l with
    | nil => exact absurd rfl h1
    | cons w l => exact ⟨w, h2.1, h2.2.1, h2.2.2.1, l, h2.2.2.2⟩
  · rintro ⟨w, h1, h2, h3, l, h4⟩
    exact ⟨w :: l, by simp, h1, h2, h3, h4⟩
theorem Rp_short {T : pT} {B a b : Nat} (hv : VT T) {l : List Nat} (hl : l ≠ []) (h : wl T B a l b) : ∃ l', l' ≠ [] ∧ wl T B a l' b ∧ l'.length ≤ tM T ∧ wsum T l' ≤ wsum T l := by
  cases l with
  | nil => exact absurd rfl hl
  | cons w l =>
    obtain ⟨l', q1, q2, q3⟩ := wl_short hv l.length (Nat.le_refl _) h.2.2.2 (hv.2.2.2 w h.1).2.1
    refine ⟨w :: l', by simp, ⟨h.1, h.2.1, h.2.2.1, q1⟩, by rw [List.length_cons]; exact q2, ?_⟩
    simp only [wsum]; omega
theorem Rc_iff {T : pT} {B a b : Nat} : Rc T B a b ↔ a = b ∨ Rp T B a b := by
  constructor
  · rintro ⟨l, h⟩
    cases l with
    | nil => exact Or.inl h
    | cons w l => exact Or.inr ⟨w :: l, by simp, h⟩
  · rintro (h | ⟨l, _, h⟩)
    · exact ⟨[], h⟩
    · exact ⟨l, h⟩
/-- one pass of the closing of a set over the wires; passes -/
def rS (T : pT) (B n : Nat) : Nat → Nat
  | 0 => n
  | i + 1 => if tH T i ≤ B ∧ (rS T B n i).testBit (tF T i) = true then rS T B n i ||| 2 ^ tO T i else rS T B n i
def rP (T : pT) (B n : Nat) : Nat → Nat
  | 0 => n
  | p + 1 => rS T B (rP T B n p) (tW T)
theorem bit_or (n k i : Nat) : (n ||| 2 ^ k).testBit i = (n.testBit i || decide (k = i)) := by
  rw [Nat.testBit_or, Nat.testBit_two_pow]
theorem rS_mono (T : pT) (B n : Nat) (i : Nat) : ∀ k m, n.testBit m = true → i = k → (rS T B n k).testBit m = true := by
  intro k
  induction k generalizing i with
  | zero => intro m h _; exact h
  | succ k ih =>
    intro m h _
    have := ih k m h rfl
    rw [rS]
    split
    · rw [bit_or, this]; rfl
    · exact this
theorem rS_step (T : pT) (B n : Nat) : ∀ k w, w < k → tH T w ≤ B → n.testBit (tF T w) = true → (rS T B n k).testBit (tO T w) = true := by
  intro k
  induction k with
  | zero => intro w hw; exact absurd hw (Nat.not_lt_zero w)
  | succ k ih =>
    intro w hw hB hn
    by_cases e : w = k
    · subst e
      rw [rS, if_pos ⟨hB, rS_mono T B n w w _ hn rfl⟩, bit_or]; simp
    · have := ih w (by omega) hB hn
      rw [rS]
      split
      · rw [bit_or, this]; rfl
      · exact this
theorem rS_sound (T : pT) (B n : Nat) : ∀ k, k ≤ tW T → ∀ m, (rS T B n k).testBit m = true → ∃ a, n.testBit a = true ∧ Rc T B a m := by
  intro k
  induction k with
  | zero => intro _ m h; exact ⟨m, h, [], rfl⟩
  | succ k ih =>
    intro hk m h
    rw [rS] at h
    split at h
    · rename_i hc
      rw [bit_or, Bool.or_eq_true, decide_eq_true_eq] at h
      rcases h with h | h
      · exact ih (by omega) m h
      · obtain ⟨a, h1, l, h2⟩ := ih (by omega) _ hc.2
        exact ⟨a, h1, l ++ [k], wl_app h2 ⟨by omega, hc.1, rfl, h⟩⟩
    · exact ih (by omega) m h
theorem rP_sound (T : pT) (B n : Nat) : ∀ p m, (rP T B n p).testBit m = true → ∃ a, n.testBit a = true ∧ Rc T B a m := by
  intro p
  induction p with
  | zero => intro m h; exact ⟨m, h, [], rfl⟩
  | succ p ih =>
    intro m h
    obtain ⟨a, h1, l1, h2⟩ := rS_sound T B _ _ (Nat.le_refl _) m h
    obtain ⟨c, h3, l2, h4⟩ := ih a h1
    exact ⟨c, h3, l2 ++ l1, wl_app h4 h2⟩
theorem rP_full (T : pT) (B n : Nat) : ∀ p (l : List Nat) a b, l.length ≤ p → n.testBit a = true → wl T B a l b → (rP T B n p).testBit b = true := by
  intro p
  induction p with
  | zero =>
    intro l a b hl ha h
    cases l with
    | nil => have h : a = b := h; rw [← h]; exact ha
    | cons w l => simp at hl
  | succ p ih =>
    intro l a b hl ha h
    rcases List.eq_nil_or_concat l with rfl | ⟨l', w, rfl⟩
    · have h : a = b := h
      rw [← h]
      exact rS_mono T B _ _ _ _ (ih [] a a (by simp) ha rfl) rfl
    · rw [List.concat_eq_append] at h hl
      obtain ⟨c, h1, h2⟩ := wl_split h
      have hc := ih l' a c (by simp at hl; omega) ha h1
      obtain ⟨q1, q2, q3, q4⟩ := h2
      have q4 : tO T w = b := q4
      rw [← q4]
      exact rS_step T B _ _ w q1 q2 (by rw [q3]; exact hc)
theorem rP_iff {T : pT} (hv : VT T) {B n : Nat} (hn : ∀ a, n.testBit a = true → a < tM T) (b : Nat) : (rP T B n (tM T - 1)).testBit b = true ↔ ∃ a, n.testBit a = true ∧ Rc T B a b := by
  constructor
  · exact rP_sound T B n _ b
  · rintro ⟨a, h1, l, h2⟩
    obtain ⟨l', q1, q2, q3⟩ := wl_short hv l.length (Nat.le_refl _) h2 (hn a h1)
    exact rP_full T B n _ l' a b (by omega) h1 q1
