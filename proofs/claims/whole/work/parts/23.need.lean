theorem s_needStep {d : Nat} {a1 : Int32} {u : zM} {Q : Option Value → zM → Prop} (p1 : 0 ≤ a1) (p2 : a1 < u 4 3) (h : Q none u) : zCall (d + 1) false 163 [.ref 0, .int a1] u Q := tX11_needStep ⟨fun c => absurd c (Int32.not_lt.mpr p1), fun _ => ⟨fun _ => h, fun c => absurd p2 c⟩⟩
theorem s_needStepT {d : Nat} {a1 : Int32} {u : zM} {Q : Option Value → zM → Prop} (p : a1 < 0 ∨ u 4 3 ≤ a1) (h : Q (some (.int 2)) u) : zCall (d + 1) true 163 [.ref 0, .int a1] u Q := tTX11_needStep ⟨fun _ => h, fun c => ⟨fun c2 => absurd c2 (Int32.not_lt.mpr (p.resolve_left c)), fun _ => h⟩⟩
theorem s_needCorner {d : Nat} {a1 : Int32} {u : zM} {Q : Option Value → zM → Prop} (p1 : vp_in a1 12) (h : Q none u) : zCall (d + 1) false 164 [.int a1] u Q := by
  obtain ⟨w, hw, rfl⟩ := vp_in_of p1 (by decide)
  refine tX11_needCorner ?_
  simp (disch := omega) only [nI_lit, nI_ltI, nI_leI]
  exact ⟨fun c => by omega, fun _ => ⟨fun _ => h, fun c => by omega⟩⟩
theorem s_needCornerT {d : Nat} {a1 : Int32} {u : zM} {Q : Option Value → zM → Prop} (p : a1 < 0 ∨ 12 ≤ a1) (h : Q (some (.int 2)) u) : zCall (d + 1) true 164 [.int a1] u Q := tTX11_needCorner ⟨fun _ => h, fun c => ⟨fun c2 => absurd c2 (Int32.not_lt.mpr (p.resolve_left c)), fun _ => h⟩⟩
theorem s_needKind {d : Nat} {a1 : Int32} {u : zM} {Q : Option Value → zM → Prop} (p1 : vp_in a1 4) (h : Q none u) : zCall (d + 1) false 165 [.int a1] u Q := by
  obtain ⟨w, hw, rfl⟩ := vp_in_of p1 (by decide)
  refine tX11_needKind ?_
  simp (disch := omega) only [nI_lit, nI_ltI, nI_leI]
  exact ⟨fun c => by omega, fun _ => ⟨fun _ => h, fun c => by omega⟩⟩
theorem s_needKindT {d : Nat} {a1 : Int32} {u : zM} {Q : Option Value → zM → Prop} (p : a1 < 0 ∨ 4 ≤ a1) (h : Q (some (.int 2)) u) : zCall (d + 1) true 165 [.int a1] u Q := tTX11_needKind ⟨fun _ => h, fun c => ⟨fun c2 => absurd c2 (Int32.not_lt.mpr (p.resolve_left c)), fun _ => h⟩⟩
theorem s_needWeekday {d : Nat} {a1 : Int32} {u : zM} {Q : Option Value → zM → Prop} (p1 : vp_in a1 7) (h : Q none u) : zCall (d + 1) false 166 [.int a1] u Q := by
  obtain ⟨w, hw, rfl⟩ := vp_in_of p1 (by decide)
  refine tX11_needWeekday ?_
  simp (disch := omega) only [nI_lit, nI_ltI, nI_leI]
  exact ⟨fun c => by omega, fun _ => ⟨fun _ => h, fun c => by omega⟩⟩
theorem s_needWeekdayT {d : Nat} {a1 : Int32} {u : zM} {Q : Option Value → zM → Prop} (p : a1 < 0 ∨ 7 ≤ a1) (h : Q (some (.int 2)) u) : zCall (d + 1) true 166 [.int a1] u Q := tTX11_needWeekday ⟨fun _ => h, fun c => ⟨fun c2 => absurd c2 (Int32.not_lt.mpr (p.resolve_left c)), fun _ => h⟩⟩
theorem s_needTwo {d : Nat} {a0 a1 : Int32} {u : zM} {Q : Option Value → zM → Prop} (p1 : ¬ a0 = a1) (h : Q none u) : zCall (d + 1) false 167 [.int a0, .int a1] u Q := tX11_needTwo ⟨fun _ => h, fun c => absurd c p1⟩
theorem s_needTwoT {d : Nat} {a0 a1 : Int32} {u : zM} {Q : Option Value → zM → Prop} (p1 : a0 = a1) (h : Q (some (.int 1)) u) : zCall (d + 1) true 167 [.int a0, .int a1] u Q := tTX11_needTwo ⟨fun c => absurd p1 c, fun _ => h⟩
theorem s_needDays {d : Nat} {a1 : Int32} {u : zM} {Q : Option Value → zM → Prop} (p1 : vp_in a1 61) (h : Q none u) : zCall (d + 1) false 168 [.int a1] u Q := by
  obtain ⟨w, hw, rfl⟩ := vp_in_of p1 (by decide)
  refine tX11_needDays ?_
  simp (disch := omega) only [nI_lit, nI_ltI, nI_leI]
  exact ⟨fun c => by omega, fun _ => ⟨fun _ => h, fun c => by omega⟩⟩
theorem s_needDaysT {d : Nat} {a1 : Int32} {u : zM} {Q : Option Value → zM → Prop} (p : a1 < 0 ∨ 60 < a1) (h : Q (some (.int 1)) u) : zCall (d + 1) true 168 [.int a1] u Q := tTX11_needDays ⟨fun _ => h, fun c => ⟨fun c2 => absurd c2 (Int32.not_le.mpr (p.resolve_left c)), fun _ => h⟩⟩
