/-! what holds of every state holds behind each call -/
section VS
variable {A : aS}
theorem vA_append (hv : VA A) (v : Int32) : VA (anAppend A v).2.2 := by
  unfold anAppend
  by_cases z : rgI 0 255 v = 0
  · rw [if_pos z]
    by_cases y : A.1.1 < 120
    · rw [if_pos y]
      obtain ⟨j, _, hj, rfl⟩ := rgI_0 (lo := 0) (hi := 255) (by decide) (by decide) z
      refine ⟨⟨y, fun i hi => ?_⟩, hv.2⟩
      have hi : i < A.1.1 + 1 := hi
      show uN A.1.2 A.1.1 (nI j).toNatClampNeg i < 256
      rw [nI_clamp (by omega)]
      by_cases e : i = A.1.1
      · rw [e, uN_at]; omega
      · rw [uN_ne _ _ e]; exact hv.1.2 i (by omega)
    · rw [if_neg y]; exact hv
  · rw [if_neg z]; exact hv
theorem vA_clear (hv : VA A) : VA (anClear A).2.2 := ⟨⟨Nat.zero_le _, fun i hi => absurd hi (Nat.not_lt_zero i)⟩, hv.2⟩
theorem VT_ldF {X : xT} : ∀ f i (s : pT × Nat), VT s.1 → errF X f i = none → VT (ldF X f i s).1
  | 0, _, _, h, _ => h
  | f + 1, i, s, h, he => by
    rw [ldF]
    by_cases hi : i < X.1
    · rw [if_pos hi]
      obtain ⟨g1, g2⟩ := errF_none f i he hi
      exact VT_ldF f _ _ (VT_obey h g1) g2
    · rw [if_neg hi]; exact h
theorem VT_ldX {X : xT} (he : errX X = none) : VT (ldX X).1 := by
  unfold errX at he
  by_cases y : tAt X 0 = 77
  · rw [if_pos y] at he; exact VT_ldF _ _ _ VT_nil he
  · rw [if_neg y] at he; cases he
theorem vA_load (hv : VA A) : VA (anLoad A).2.2 := by
  unfold anLoad
  by_cases e : errX A.1 = none
  · rw [if_pos e]
    exact ⟨hv.1, VT_ldX e, Nat.zero_le _, fun i hi => absurd hi (Nat.not_lt_zero i), fun s hs U hU => by cases hU⟩
  · rw [if_neg e]; exact hv
theorem vA_add (hv : VA A) (u k : Int32) : VA (anAdd A u k).2.2 := by
  unfold anAdd
  by_cases z : wfM A.2.1 u k = 0
  · rw [if_pos z]
    rw [wfM_e] at z
    by_cases y1 : rgI 0 3 u = 0
    · rw [if_pos y1] at z
      by_cases y2 : rgI 0 3 k = 0
      · rw [if_pos y2] at z
        by_cases y3 : tM A.2.1 < 8
        · obtain ⟨i, _, hi, rfl⟩ := rgI_0 (lo := 0) (hi := 3) (by decide) (by decide) y1
          obtain ⟨j, _, hj, rfl⟩ := rgI_0 (lo := 0) (hi := 3) (by decide) (by decide) y2
          exact VA_rem hv (VT_add hv.2.1 (by rw [nI_clamp (by omega)]; omega) (by rw [nI_clamp (by omega)]; omega) y3)
        · rw [if_neg y3] at z; cases z
      · rw [if_neg y2] at z; cases z
    · rw [if_neg y1] at z; cases z
  · rw [if_neg z]; exact hv
theorem vA_lay (hv : VA A) (a b c v g : Int32) : VA (anLay A a b c v g).2.2 := by
  have h8 := hv.2.1.1
  unfold anLay
  by_cases z : wfW A.2.1 a b c v g = 0
  · rw [if_pos z]
    obtain ⟨a', b', c', v', g', rfl, rfl, rfl, rfl, rfl, q1, q2, q3, q4, q5, q6, q7, q8, q9⟩ := wfW_0 hv.2.1 z
    refine VA_rem hv (VT_lay hv.2.1 ?_ ?_ ?_ ?_ ?_ ?_ ?_ q9) <;> (rw [nI_clamp (by omega)]; assumption)
  · rw [if_neg z]; exact hv
theorem vA_cut (hv : VA A) (w : Int32) : VA (anCut A w).2.2 := by
  have h14 := hv.2.1.2.1
  unfold anCut
  by_cases z : wrF A.2.1 w = 0
  · rw [if_pos z]
    obtain ⟨i, hi, rfl⟩ := wrF_0 hv.2.1 z
    exact VA_rem hv (VT_cut hv.2.1 (by rw [nI_clamp (by omega)]; exact hi))
  · rw [if_neg z]; exact hv
theorem vA_put (hv : VA A) (w g : Int32) : VA (anPut A w g).2.2 := by
  unfold anPut
  by_cases z : wfH A.2.1 w g = 0
  · rw [if_pos z]
    rw [wfH_e] at z
    by_cases y1 : wrF A.2.1 w = 0
    · rw [if_pos y1] at z
      by_cases y2 : rgI 0 99 g = 0
      · obtain ⟨j, _, hj, rfl⟩ := rgI_0 (lo := 0) (hi := 99) (by decide) (by decide) y2
        exact VA_rem hv (VT_put hv.2.1 (by rw [nI_clamp (by omega)]; exact hj))
      · rw [if_neg y2] at z; cases z
    · rw [if_neg y1] at z; cases z
  · rw [if_neg z]; exact hv
theorem vA_work (hv : VA A) (m : Int32) : VA (anWork A m).2.2 := by
  unfold anWork
  by_cases z : wfF A.2.1 m = 0
  · rw [if_pos z]
    rw [wfF_e] at z
    by_cases y1 : mdF A.2.1 m = 0
    · rw [if_pos y1] at z
      by_cases y2 : canB A.2.1 m.toNatClampNeg = true
      · exact VA_rem hv (VT_work hv.2.1 ((canB_iff _ _).mp y2))
      · rw [if_neg y2] at z; cases z
    · rw [if_neg y1] at z; cases z
  · rw [if_neg z]; exact hv
theorem vA_round (hv : VA A) (r : Int32) : VA (anRound A r).2.2 := by
  unfold anRound
  by_cases z : rgI 0 2 r = 0
  · rw [if_pos z]
    by_cases y : rC A.2.1 r.toNatClampNeg = true
    · rw [if_pos y]; exact VA_rem hv (VT_rE hv.2.1)
    · rw [if_neg y]; exact hv
  · rw [if_neg z]; exact hv
theorem vA_undo (hv : VA A) : VA (anUndo A).2.2 := by
  unfold anUndo
  by_cases z : A.2.2.2.1 = 0
  · rw [if_pos z]; exact hv
  · rw [if_neg z]
    obtain ⟨v1, v2, v3, v4, v5⟩ := hv
    exact ⟨v1, v4 _ (by omega), Nat.le_trans (Nat.sub_le _ _) v3, fun i hi => v4 i (Nat.lt_of_lt_of_le hi (Nat.sub_le _ _)), v5⟩
theorem vA_save (hv : VA A) (s : Int32) : VA (anSave A s).2.2 := by
  unfold anSave
  by_cases z : slF s = 0
  · rw [if_pos z]
    obtain ⟨v1, v2, v3, v4, v5⟩ := hv
    refine ⟨v1, v2, v3, v4, fun i hi U hU => ?_⟩
    have hU : (if i = s.toNatClampNeg then some A.2.1 else A.2.2.2.2 i) = some U := hU
    by_cases e : i = s.toNatClampNeg
    · rw [if_pos e] at hU; cases hU; exact v2
    · rw [if_neg e] at hU; exact v5 i hi U hU
  · rw [if_neg z]; exact hv
theorem vA_restore (hv : VA A) (s : Int32) : VA (anRestore A s).2.2 := by
  unfold anRestore
  by_cases z : slF s = 0
  · rw [if_pos z]
    obtain ⟨j, hj, rfl⟩ := slF_0 z
    rw [nI_clamp (by omega)]
    cases y : A.2.2.2.2 j with
    | none => exact hv
    | some U =>
      obtain ⟨v1, v2, v3, v4, v5⟩ := hv
      exact ⟨v1, v5 j hj U y, Nat.zero_le _, fun i hi => absurd hi (Nat.not_lt_zero i), v5⟩
  · rw [if_neg z]; exact hv
end VS
/-! questions leave the state as it is -/
section VQ
variable {A : aS}
theorem vQ_about (A : aS) (v : Int32) : (anAbout A v).2.2 = A := by
  unfold anAbout
  repeat' split
  all_goals rfl
theorem vQ_module (A : aS) (m v : Int32) : (anModule A m v).2.2 = A := by
  unfold anModule
  repeat' split
  all_goals rfl
theorem vQ_wire (A : aS) (m v : Int32) : (anWire A m v).2.2 = A := by
  unfold anWire
  repeat' split
  all_goals rfl
theorem vQ_between (A : aS) (m v : Int32) : (anBetween A m v).2.2 = A := by
  unfold anBetween
  repeat' split
  all_goals rfl
theorem vQ_order (A : aS) (m v : Int32) : (anOrder A m v).2.2 = A := by
  unfold anOrder
  repeat' split
  all_goals rfl
theorem vQ_sticks (A : aS) (m : Int32) : (anSticks A m).2.2 = A := by
  unfold anSticks
  repeat' split
  all_goals rfl
theorem vQ_holds (A : aS) (m v : Int32) : (anHolds A m v).2.2 = A := by
  unfold anHolds
  repeat' split
  all_goals rfl
theorem vQ_fewest (A : aS) (m : Int32) : (anFewest A m).2.2 = A := by
  unfold anFewest
  repeat' split
  all_goals rfl
theorem vQ_agrees (A : aS) (m v : Int32) : (anAgrees A m v).2.2 = A := by
  unfold anAgrees
  repeat' split
  all_goals rfl
theorem vQ_runScript (A : aS) (n : Int32) (v : Int64) : (anScript A n v).2.2 = A := by
  unfold anScript
  repeat' split
  all_goals rfl
theorem vQ_simulate (A : aS) (v : Int64) (n : Int32) : (anSim A v n).2.2 = A := by
  unfold anSim
  by_cases z : rgI 1 99 n = 0
  · rw [if_pos z]
  · rw [if_neg z]
end VQ
