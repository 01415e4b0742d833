def zRun (d : Nat) (τ : Bool) (cd : zCd) (rb : Nat) (Q : Option Value → zM → Prop) : Nat → zLs → List Value → zM → Prop := fun pc ls st u => ∀ P : Nat → zLs → List Value → zM → Prop, zClo (zCall d) cd rb τ Q P → P pc ls st u
theorem zI1_m {st : List Value} {k k2 : Int32 → List Value → Prop} (hk : ∀ x r, k x r → k2 x r) (h : zI1 st k) : zI1 st k2 := by
  obtain ⟨x, r, rfl, h⟩ := zI1_e h
  exact hk _ _ h
theorem zI2_m {st : List Value} {k k2 : Int32 → Int32 → List Value → Prop} (hk : ∀ y x r, k y x r → k2 y x r) (h : zI2 st k) : zI2 st k2 := by
  obtain ⟨y, x, r, rfl, h⟩ := zI2_e h
  exact hk _ _ _ h
theorem zR1_m {st : List Value} {k k2 : Nat → List Value → Prop} (hk : ∀ x r, k x r → k2 x r) (h : zR1 st k) : zR1 st k2 := by
  obtain ⟨x, r, rfl, h⟩ := zR1_e h
  exact hk _ _ h
theorem zIR_m {st : List Value} {k k2 : Int32 → Nat → List Value → Prop} (hk : ∀ y x r, k y x r → k2 y x r) (h : zIR st k) : zIR st k2 := by
  obtain ⟨y, x, r, rfl, h⟩ := zIR_e h
  exact hk _ _ _ h
theorem zIIR_m {st : List Value} {k k2 : Int32 → Int32 → Nat → List Value → Prop} (hk : ∀ w y x r, k w y x r → k2 w y x r) (h : zIIR st k) : zIIR st k2 := by
  obtain ⟨w, y, x, r, rfl, h⟩ := zIIR_e h
  exact hk _ _ _ _ h
theorem zLIR_m {st : List Value} {k k2 : Int64 → Int32 → Nat → List Value → Prop} (hk : ∀ w y x r, k w y x r → k2 w y x r) (h : zLIR st k) : zLIR st k2 := by
  obtain ⟨w, y, x, r, rfl, h⟩ := zLIR_e h
  exact hk _ _ _ _ h
theorem zL2_m {st : List Value} {k k2 : Int64 → Int64 → List Value → Prop} (hk : ∀ y x r, k y x r → k2 y x r) (h : zL2 st k) : zL2 st k2 := by
  obtain ⟨y, x, r, rfl, h⟩ := zL2_e h
  exact hk _ _ _ h
theorem zV1_m {st : List Value} {k k2 : Value → List Value → Prop} (hk : ∀ x r, k x r → k2 x r) (h : zV1 st k) : zV1 st k2 := by
  obtain ⟨x, r, rfl, h⟩ := zV1_e h
  exact hk _ _ h
theorem zV2_m {st : List Value} {k k2 : Value → Value → List Value → Prop} (hk : ∀ x y r, k x y r → k2 x y r) (h : zV2 st k) : zV2 st k2 := by
  obtain ⟨x, y, r, rfl, h⟩ := zV2_e h
  exact hk _ _ _ h
theorem zCpy_m {st : List Value} {k k2 : Int32 → Int32 → Nat → Int32 → Nat → List Value → Prop} (hk : ∀ n dp a sp a0 r, k n dp a sp a0 r → k2 n dp a sp a0 r) (h : zCpy st k) : zCpy st k2 := by
  obtain ⟨n, dp, a, sp, a0, r, rfl, h⟩ := zCpy_e h
  exact hk _ _ _ _ _ _ h
theorem zPop_m {k k2 : List Value → List Value → Prop} (hk : ∀ as r, k as r → k2 as r) : ∀ (n : Nat) (st acc : List Value), zPop n st acc k → zPop n st acc k2
  | 0, _, _, h => hk _ _ h
  | _ + 1, [], _, h => h
  | n + 1, _ :: st, acc, h => zPop_m hk n st _ h
theorem zJ_m {pc : Nat} {o : Int} {k k2 : Nat → Prop} (hk : ∀ t, k t → k2 t) (h : zJ pc o k) : zJ pc o k2 := by
  unfold zJ at h ⊢
  split at h
  · exact hk _ h
  · exact h
theorem zLi_m {ls : zLs} {i : Nat} {k k2 : Int32 → Prop} (hk : ∀ x, k x → k2 x) (h : zLi ls i k) : zLi ls i k2 := by
  obtain ⟨x, e, h⟩ := zLi_e h
  unfold zLi
  rw [e]
  exact hk _ h
theorem zLr_m {ls : zLs} {i : Nat} {k k2 : Nat → Prop} (hk : ∀ x, k x → k2 x) (h : zLr ls i k) : zLr ls i k2 := by
  obtain ⟨x, e, h⟩ := zLr_e h
  unfold zLr
  rw [e]
  exact hk _ h
theorem zC1_m {c : Jvm.ClassFile.Cond} {x : Int32} {A B A2 B2 : Prop} (ha : A → A2) (hb : B → B2) (h : zC1 c x A B) : zC1 c x A2 B2 := by
  cases c <;> exact ⟨fun q => by first | exact ha (h.1 q) | exact hb (h.1 q), fun q => by first | exact hb (h.2 q) | exact ha (h.2 q)⟩
theorem zC2_m {c : Jvm.ClassFile.Cond} {y x : Int32} {A B A2 B2 : Prop} (ha : A → A2) (hb : B → B2) (h : zC2 c y x A B) : zC2 c y x A2 B2 := by
  cases c <;> exact ⟨fun q => by first | exact ha (h.1 q) | exact hb (h.1 q), fun q => by first | exact hb (h.2 q) | exact ha (h.2 q)⟩
theorem zSw_m {pc : Nat} {x : Int32} {k k2 : Nat → Prop} (hk : ∀ t, k t → k2 t) : ∀ (l : List Int) (i : Int), zSw pc x k l i → zSw pc x k2 l i
  | [], _, _ => trivial
  | _ :: t, i, h => ⟨fun q => zJ_m hk (h.1 q), zSw_m hk t (i + 1) h.2⟩
set_option maxRecDepth 100000 in
set_option maxHeartbeats 4000000 in
theorem zStep_m {C : Bool → Nat → List Value → zM → (Option Value → zM → Prop) → Prop} (hC : ∀ τ y as u (Q Q2 : Option Value → zM → Prop), (∀ v w, Q v w → Q2 v w) → C τ y as u Q → C τ y as u Q2) {cd : zCd} {rb : Nat} {τ : Bool} {P P2 : Nat → zLs → List Value → zM → Prop} {Q Q2 : Option Value → zM → Prop} (hP : ∀ pc ls st u, P pc ls st u → P2 pc ls st u) (hQ : ∀ v w, Q v w → Q2 v w) {pc : Nat} {ls : zLs} {st : List Value} {u : zM} (h : zStep C cd rb τ P Q pc ls st u) : zStep C cd rb τ P2 Q2 pc ls st u := by
  unfold zStep at h ⊢
  cases hq : zLk cd pc with
  | none => rw [hq] at h; exact False.elim h
  | some x =>
    rw [hq] at h
    obtain ⟨i, n, a, b, k, v⟩ := x
    dsimp only at h ⊢
    cases i
    all_goals first | exact False.elim h | skip
    case iadd =>
      exact zI2_m (fun _ _ _ q => hP _ _ _ _ q) h
    case isub =>
      exact zI2_m (fun _ _ _ q => hP _ _ _ _ q) h
    case imul =>
      exact zI2_m (fun _ _ _ q => hP _ _ _ _ q) h
    case iand =>
      exact zI2_m (fun _ _ _ q => hP _ _ _ _ q) h
    case ior =>
      exact zI2_m (fun _ _ _ q => hP _ _ _ _ q) h
    case ixor =>
      exact zI2_m (fun _ _ _ q => hP _ _ _ _ q) h
    case ishl =>
      exact zI2_m (fun _ _ _ q => hP _ _ _ _ q) h
    case ishr =>
      exact zI2_m (fun _ _ _ q => hP _ _ _ _ q) h
    case iushr =>
      exact zI2_m (fun _ _ _ q => hP _ _ _ _ q) h
    case idiv =>
      exact zI2_m (fun _ _ _ q => ⟨q.1, hP _ _ _ _ q.2⟩) h
    case irem =>
      exact zI2_m (fun _ _ _ q => ⟨q.1, hP _ _ _ _ q.2⟩) h
    case i2b =>
      exact zI1_m (fun _ _ q => hP _ _ _ _ q) h
    case i2l =>
      exact zI1_m (fun _ _ q => hP _ _ _ _ q) h
    case lcmp =>
      exact zL2_m (fun _ _ _ q => hP _ _ _ _ q) h
    case dup =>
      exact zV1_m (fun _ _ q => ⟨q.1, hP _ _ _ _ q.2⟩) h
    case pop =>
      exact zV1_m (fun _ _ q => ⟨q.1, hP _ _ _ _ q.2⟩) h
    case dup2 =>
      exact zV2_m (fun _ _ _ q => ⟨q.1, hP _ _ _ _ q.2⟩) h
    case iload_n j =>
      exact zLi_m (fun _ q => hP _ _ _ _ q) h
    case iload j =>
      exact zLi_m (fun _ q => hP _ _ _ _ q) h
    case aload_n j =>
      exact zLr_m (fun _ q => hP _ _ _ _ q) h
    case aload j =>
      exact zLr_m (fun _ q => hP _ _ _ _ q) h
    case iconst z =>
      exact hP _ _ _ _ h
    case bipush z =>
      exact hP _ _ _ _ h
    case sipush z =>
      exact hP _ _ _ _ h
    case istore_n j =>
      exact zI1_m (fun _ _ q => hP _ _ _ _ q) h
    case istore j =>
      exact zI1_m (fun _ _ q => hP _ _ _ _ q) h
    case astore_n j =>
      exact zR1_m (fun _ _ q => hP _ _ _ _ q) h
    case astore j =>
      exact zR1_m (fun _ _ q => hP _ _ _ _ q) h
    case iinc j z =>
      exact zLi_m (fun _ q => hP _ _ _ _ q) h
    case goto o =>
      exact zJ_m (fun _ q => hP _ _ _ _ q) h
    case ifnonnull o =>
      exact zR1_m (fun _ _ q => zJ_m (fun _ q => hP _ _ _ _ q) q) h
    case ifCond c o =>
      exact zI1_m (fun _ _ q => zJ_m (fun _ q => zC1_m (hP _ _ _ _) (hP _ _ _ _) q) q) h
    case if_icmp c o =>
      exact zI2_m (fun _ _ _ q => zJ_m (fun _ q => zC2_m (hP _ _ _ _) (hP _ _ _ _) q) q) h
    case tableswitch o lo hi os =>
      exact zI1_m (fun _ _ q => ⟨q.1, fun z => zJ_m (fun _ q => hP _ _ _ _ q) (q.2.1 z), zSw_m (fun _ q => hP _ _ _ _ q) _ _ q.2.2⟩) h
    case ldc idx =>
      cases k with
      | zero => exact hP _ _ _ _ h
      | succ k => exact hP _ _ _ _ h
    case getfield idx =>
      refine zR1_m (fun x r q => ⟨q.1, ?_⟩) h
      have q2 := q.2
      revert q2
      cases (zFk a)[b]? with
      | none => exact id
      | some o => cases o with
        | none => exact hP _ _ _ _
        | some o => exact hP _ _ _ _
    case putfield idx =>
      refine zIR_m (fun y x r q => ⟨q.1, ?_⟩) h
      have q2 := q.2
      revert q2
      cases (zFk a)[b]? with
      | none => exact id
      | some o => cases o with
        | none => cases k with
          | zero => exact hP _ _ _ _
          | succ k => exact fun z => ⟨z.1, hP _ _ _ _ z.2⟩
        | some o => exact id
    case iaload =>
      exact zIR_m (fun _ _ _ q => ⟨q.1, hP _ _ _ _ q.2⟩) h
    case baload =>
      exact zIR_m (fun _ _ _ q => ⟨q.1, hP _ _ _ _ q.2⟩) h
    case laload =>
      exact zIR_m (fun _ _ _ q => ⟨q.1, hP _ _ _ _ q.2⟩) h
    case aaload =>
      exact zIR_m (fun _ _ _ q => ⟨q.1, hP _ _ _ _ q.2⟩) h
    case iastore =>
      exact zIIR_m (fun _ _ _ _ q => ⟨q.1, hP _ _ _ _ q.2⟩) h
    case bastore =>
      exact zIIR_m (fun _ _ _ _ q => ⟨q.1, hP _ _ _ _ q.2⟩) h
    case lastore =>
      exact zLIR_m (fun _ _ _ _ q => ⟨q.1, q.2.1, hP _ _ _ _ q.2.2⟩) h
    case arraylength =>
      exact zR1_m (fun _ _ q => by obtain ⟨t, n, g, q⟩ := q; exact ⟨t, n, g, hP _ _ _ _ q⟩) h
    case ireturn =>
      refine zI1_m (fun x r q => ⟨q.1, q.2.1, ?_⟩) h
      have q2 := q.2.2
      revert q2
      split
      · exact hQ _ _
      · exact fun z => ⟨z.1, hQ _ _ z.2⟩
      · exact id
    case return_ =>
      exact ⟨h.1, h.2.1, h.2.2.1, hQ _ _ h.2.2.2⟩
    case new idx =>
      exact ⟨h.1, hQ _ _ h.2⟩
    case invokevirtual idx =>
      dsimp only at h ⊢
      revert h
      split
      · exact zR1_m (fun _ _ q => ⟨q.1, q.2.1, hP _ _ _ _ q.2.2⟩)
      · exact zIR_m (fun _ _ _ q => ⟨q.1, q.2.1, q.2.2.1, hP _ _ _ _ q.2.2.2⟩)
      · exact fun h => zPop_m (fun as st1 q => zR1_m (fun x r q => ⟨q.1, q.2.1, q.2.2.imp (hC _ _ _ _ _ _ (fun _ _ z => hP _ _ _ _ z)) (fun z => ⟨z.1, hC _ _ _ _ _ _ hQ z.2⟩)⟩) q) _ _ _ h
    case ldc_w idx =>
      exact hP _ _ _ _ h
    case invokestatic idx =>
      dsimp only at h ⊢
      revert h
      split
      · exact fun h => zPop_m (fun as r q => ⟨q.1, q.2.imp (hC _ _ _ _ _ _ (fun _ _ z => hP _ _ _ _ z)) (fun z => ⟨z.1, hC _ _ _ _ _ _ hQ z.2⟩)⟩) _ _ _ h
      · exact zI2_m (fun _ _ _ q => ⟨q.1, hP _ _ _ _ q.2⟩)
      · exact zI2_m (fun _ _ _ q => ⟨q.1, hP _ _ _ _ q.2⟩)
      · exact id
      · exact zCpy_m (fun _ _ _ _ _ _ q => ⟨q.1, q.2.1, hP _ _ _ _ q.2.2⟩)
theorem zCall_m : ∀ (d : Nat) (τ : Bool) (y : Nat) (as : List Value) (u : zM) (Q Q2 : Option Value → zM → Prop), (∀ v w, Q v w → Q2 v w) → zCall d τ y as u Q → zCall d τ y as u Q2
  | 0, _, _, _, _, _, _, _, h => h
  | d + 1, _, _, _, _, _, _, hQ, h => ⟨h.1, h.2.1, fun P hP => h.2.2 P ⟨fun pc ls st u hs => hP.1 pc ls st u (zStep_m (zCall_m d) (fun _ _ _ _ z => z) hQ hs), hP.2⟩⟩
theorem zRun_step {d : Nat} {τ : Bool} {cd : zCd} {rb : Nat} {Q : Option Value → zM → Prop} {pc : Nat} {ls : zLs} {st : List Value} {u : zM} (h : zStep (zCall d) cd rb τ (zRun d τ cd rb Q) Q pc ls st u) : zRun d τ cd rb Q pc ls st u := fun P hP => hP.1 _ _ _ _ (zStep_m (zCall_m d) (fun _ _ _ _ z => z P hP) (fun _ _ z => z) h)
theorem zRun_wk {d : Nat} {τ : Bool} {cd : zCd} {rb : Nat} {Q : Option Value → zM → Prop} {pc : Nat} {ls ls0 : zLs} {st : List Value} {u : zM} (is : List Nat) (hs : is.map (fun i => ls[i]?) = ls0.map some) (h : zRun d τ cd rb Q pc ls0 st u) : zRun d τ cd rb Q pc ls st u := fun P hP => hP.2 pc ls ls0 st u (fun q hq => by
  have h1 : some q ∈ is.map (fun i => ls[i]?) := by rw [hs]; exact List.mem_map.mpr ⟨q, hq, rfl⟩
  obtain ⟨i, -, h2⟩ := List.mem_map.mp h1
  exact List.mem_of_getElem? h2) (h P hP)
theorem zCall_of {d : Nat} {τ : Bool} {y : Nat} {as : List Value} {u : zM} {Q : Option Value → zM → Prop} (cd : zCd) (rb : Nat) (h1 : (as.all fun v => v.category == 1) = true) (h2 : as.length ≤ zMx y) (h3 : zCode y = cd) (h4 : zRb y = rb) (h : zRun d τ cd rb Q 0 (lv_args 0 as) [] u) : zCall (d + 1) τ y as u Q := by
  subst h3
  subst h4
  exact ⟨h1, h2, h⟩
def zStop (l : List Nat) (pc : Nat) : Bool := l.any (fun q => Nat.beq q pc)
def zGo (C : Bool → Nat → List Value → zM → (Option Value → zM → Prop) → Prop) (cd : zCd) (rb : Nat) (τ : Bool) (stops : List Nat) (P : Nat → zLs → List Value → zM → Prop) (Q : Option Value → zM → Prop) : Nat → Nat → zLs → List Value → zM → Prop
  | 0, pc, ls, st, u => P pc ls st u
  | n + 1, pc, ls, st, u => match zStop stops pc with
    | true => P pc ls st u
    | false => zStep C cd rb τ (zGo C cd rb τ stops P Q n) Q pc ls st u
theorem zGo_run {d : Nat} {τ : Bool} {cd : zCd} {rb : Nat} {stops : List Nat} {Q : Option Value → zM → Prop} : ∀ (n pc : Nat) (ls : zLs) (st : List Value) (u : zM), zGo (zCall d) cd rb τ stops (zRun d τ cd rb Q) Q n pc ls st u → zRun d τ cd rb Q pc ls st u
  | 0, _, _, _, _, h => h
  | n + 1, pc, ls, st, u, h => by
    unfold zGo at h
    split at h
    · exact h
    · exact zRun_step (zStep_m (zCall_m d) (fun pc ls st u z => zGo_run n pc ls st u z) (fun _ _ z => z) h)
theorem zGo_in {d : Nat} {τ : Bool} {cd : zCd} {rb : Nat} {Q : Option Value → zM → Prop} {pc : Nat} {ls : zLs} {st : List Value} {u : zM} (n : Nat) (stops : List Nat) (h : zStep (zCall d) cd rb τ (zGo (zCall d) cd rb τ stops (zRun d τ cd rb Q) Q n) Q pc ls st u) : zRun d τ cd rb Q pc ls st u := zRun_step (zStep_m (zCall_m d) (fun pc ls st u z => zGo_run n pc ls st u z) (fun _ _ z => z) h)
def zCI (d y : Nat) (as : List Value) (u : zM) (K : Int32 → zM → Prop) : Prop := zCall d false y as u fun v w => ∃ x, v = some (.int x) ∧ K x w
def zCV (d y : Nat) (as : List Value) (u : zM) (K : zM → Prop) : Prop := zCall d false y as u fun v w => v = none ∧ K w
theorem zCI_go {d y : Nat} {as : List Value} {u : zM} {K : Int32 → zM → Prop} {Q : Option Value → zM → Prop} (k : ∀ x w, K x w → Q (some (.int x)) w) (h : zCI d y as u K) : zCall d false y as u Q := zCall_m d false y as u _ _ (fun v w z => by obtain ⟨x, rfl, z⟩ := z; exact k x w z) h
theorem zCV_go {d y : Nat} {as : List Value} {u : zM} {K : zM → Prop} {Q : Option Value → zM → Prop} (k : ∀ w, K w → Q none w) (h : zCV d y as u K) : zCall d false y as u Q := zCall_m d false y as u _ _ (fun v w z => by obtain ⟨rfl, z⟩ := z; exact k w z) h
