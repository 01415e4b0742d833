/-! cell 142 (out) is written by the law's wrappers alone -/
def yNl (x : zIn) : Bool := match x.1 with
  | .lastore => false
  | _ => true
theorem yNl_ok : (zMts.all fun t => t.2.2.2.2.2.1 == 13 || t.2.2.2.2.2.2.2.all fun x => yNl x.2) = true := by decide +kernel
theorem ySh142 {x : Nat} {q : zSh} (h : zShapes[x]? = some q) (hq : q ≠ .inr (2, 1)) : x ≠ 142 := by
  rintro rfl
  have : zShapes[142]? = some (.inr (2, 1)) := by decide +kernel
  rw [this] at h
  exact hq (Option.some.inj h).symm
theorem zUp142 {u : zM} {x b : Nat} {y : Int32} {q : zSh} (h : zShapes[x]? = some q) (hq : q ≠ .inr (2, 1)) : zUp u x b y 142 = u 142 := zRow_ne u _ (Ne.symm (ySh142 h hq))
set_option maxHeartbeats 4000000 in
theorem zStep_keep {C : Bool → Nat → List Value → zM → (Option Value → zM → Prop) → Prop} (hC : ∀ y as u (Q Q2 : Option Value → zM → Prop), y < 363 → zOo y ≠ 13 → (∀ v w, Q v w → w 142 = u 142 → Q2 v w) → C false y as u Q → C false y as u Q2) {cd : zCd} {rb own nl : Nat} {P : Nat → zLs → List Value → zM → Prop} {Q : Option Value → zM → Prop} {r0 : Nat → Int32} {pc : Nat} {ls : zLs} {st : List Value} {u : zM} (hok : ∀ x, zLk cd pc = some x → zOkI own nl x = true ∧ yNl x = true)
    (h : zStep C cd rb false (fun pc ls st u => u 142 = r0 → P pc ls st u) Q pc ls st u) (he : u 142 = r0) : zStep C cd rb false P (fun v w => Q v w ∧ w 142 = r0) pc ls st u := by
  unfold zStep at h ⊢
  cases hq : zLk cd pc with
  | none => rw [hq] at h; exact False.elim h
  | some x =>
    rw [hq] at h
    obtain ⟨ho, hn⟩ := hok x hq
    obtain ⟨i, n, a, b, k, v⟩ := x
    dsimp only at h ⊢
    cases i
    all_goals first | exact False.elim h | skip
    all_goals try dsimp only at h ⊢
    case aload_n j => exact zLr_m (fun x g => g he) h
    case aload j => exact zLr_m (fun x g => g he) h
    case iload_n j => exact zLi_m (fun x g => g he) h
    case iload j => exact zLi_m (fun x g => g he) h
    case iconst z => exact h he
    case bipush z => exact h he
    case sipush z => exact h he
    case ldc_w z => exact h he
    case ldc z => rcases k with _ | k <;> exact h he
    case istore_n j => exact zI1_m (fun x r g => g he) h
    case istore j => exact zI1_m (fun x r g => g he) h
    case astore_n j => exact zR1_m (fun x r g => g he) h
    case astore j => exact zR1_m (fun x r g => g he) h
    case iinc j z => exact zLi_m (fun x g => g he) h
    case iadd => exact zI2_m (fun y x r g => g he) h
    case isub => exact zI2_m (fun y x r g => g he) h
    case imul => exact zI2_m (fun y x r g => g he) h
    case iand => exact zI2_m (fun y x r g => g he) h
    case ior => exact zI2_m (fun y x r g => g he) h
    case ixor => exact zI2_m (fun y x r g => g he) h
    case ishl => exact zI2_m (fun y x r g => g he) h
    case ishr => exact zI2_m (fun y x r g => g he) h
    case iushr => exact zI2_m (fun y x r g => g he) h
    case idiv => exact zI2_m (fun y x r g => ⟨g.1, g.2 he⟩) h
    case irem => exact zI2_m (fun y x r g => ⟨g.1, g.2 he⟩) h
    case i2b => exact zI1_m (fun x r g => g he) h
    case i2l => exact zI1_m (fun x r g => g he) h
    case lcmp => exact zL2_m (fun y x r g => g he) h
    case dup => exact zV1_m (fun x r g => ⟨g.1, g.2 he⟩) h
    case pop => exact zV1_m (fun x r g => ⟨g.1, g.2 he⟩) h
    case dup2 => exact zV2_m (fun x y r g => ⟨g.1, g.2 he⟩) h
    case goto o => exact zJ_m (fun t g => g he) h
    case ifnonnull o => exact zR1_m (fun x r g => zJ_m (fun t g => g he) g) h
    case ifCond q o => exact zI1_m (fun x r g => zJ_m (fun t g => zC1_m (fun g => g he) (fun g => g he) g) g) h
    case if_icmp q o => exact zI2_m (fun y x r g => zJ_m (fun t g => zC2_m (fun g => g he) (fun g => g he) g) g) h
    case tableswitch o lo hi os => exact zI1_m (fun x r g => ⟨g.1, fun e => zJ_m (fun t g => g he) (g.2.1 e), zSw_m (fun t g => g he) os.toList lo g.2.2⟩) h
    case getfield idx =>
      refine zR1_m (fun x r g => ⟨g.1, ?_⟩) h
      have g2 := g.2
      cases hf : (zFk a)[b]? with
      | none => rw [hf] at g2; exact g2.elim
      | some o =>
        rw [hf] at g2
        cases o with
        | none => exact g2 he
        | some o => exact g2 he
    case putfield idx =>
      refine zIR_m (fun y x r g => ⟨g.1, ?_⟩) h
      have g2 := g.2
      have e2 : zUp u x b y 142 = r0 := by rw [zUp142 g.1 (by simp)]; exact he
      cases hf : (zFk a)[b]? with
      | none => rw [hf] at g2; exact g2.elim
      | some o =>
        rw [hf] at g2
        cases o with
        | some o => exact g2.elim
        | none =>
          rcases k with _ | k
          · exact g2 e2
          · exact ⟨g2.1, g2.2 e2⟩
    case iaload => exact zIR_m (fun y x r g => ⟨g.1, g.2 he⟩) h
    case baload => exact zIR_m (fun y x r g => ⟨g.1, g.2 he⟩) h
    case laload => exact zIR_m (fun y x r g => ⟨g.1, g.2 he⟩) h
    case aaload => exact zIR_m (fun y x r g => ⟨g.1, g.2 he⟩) h
    case iastore => exact zIIR_m (fun w y x r g => ⟨g.1, g.2 (by obtain ⟨n0, h1, -⟩ := g.1; rw [zUp142 h1 (by simp)]; exact he)⟩) h
    case bastore => exact zIIR_m (fun w y x r g => ⟨g.1, g.2 (by obtain ⟨n0, h1, -⟩ := g.1; rw [zUp142 h1 (by simp)]; exact he)⟩) h
    case lastore => exact absurd hn (by simp [yNl])
    case arraylength => exact zR1_m (fun x r g => by obtain ⟨t, n0, g1, g2⟩ := g; exact ⟨t, n0, g1, g2 he⟩) h
    case ireturn =>
      refine zI1_m (fun x r g => ⟨g.1, g.2.1, ?_⟩) h
      have g2 := g.2.2
      split at g2
      · exact And.intro g2 he
      · exact ⟨g2.1, g2.2, he⟩
      · exact g2.elim
    case return_ => exact ⟨h.1, h.2.1, h.2.2.1, h.2.2.2, he⟩
    case new idx => exact absurd h.1 (by decide)
    case invokevirtual idx =>
      by_cases hk50 : k = 50
      · subst hk50
        exact zR1_m (fun x r g => ⟨g.1, g.2.1, g.2.2 he⟩) h
      · by_cases hk51 : k = 51
        · subst hk51
          exact zIR_m (fun y x r g => ⟨g.1, g.2.1, g.2.2.1, g.2.2.2 he⟩) h
        · have hok2 := ho
          simp only [zOkI, Bool.and_eq_true, beq_iff_eq] at hok2
          obtain ⟨rfl, hok3⟩ := hok2
          have hok4 : ((((own, idx, a) ∈ zMls ∧ b = zNa a) ∧ k = zRc a) ∧ k < 12) ∧ zOo a ≠ 13 := by simpa using hok3
          split at h
          · exact absurd rfl hk50
          · exact absurd rfl hk51
          · refine zPop_m (fun as st1 g => zR1_m (fun x r g => ⟨g.1, g.2.1, g.2.2.elim (fun g => Or.inl ?_) (fun q => absurd q.1 (by decide))⟩) g) b st [] h
            exact hC _ _ _ _ _ (zMls_in hok4.1.1.1.1).2 hok4.2 (fun v w g e => g (e.trans he)) g
    case invokestatic idx =>
      rcases k with _ | _ | _ | k
      · obtain ⟨rfl, ⟨⟨hin, hb3⟩, hk⟩, hn2⟩ : n = 3 ∧ (((own, idx, a) ∈ zMls ∧ b = zNa a) ∧ zRc a = 99) ∧ zOo a ≠ 13 := by simpa [zOkI] using ho
        refine zPop_m (fun as r g => ⟨g.1, g.2.elim (fun g => Or.inl ?_) (fun q => absurd q.1 (by decide))⟩) b st [] h
        exact hC _ _ _ _ _ (zMls_in hin).2 hn2 (fun v w g e => g (e.trans he)) g
      · exact zI2_m (fun y x r g => ⟨g.1, g.2 he⟩) h
      · exact zI2_m (fun y x r g => ⟨g.1, g.2 he⟩) h
      · rcases k with _ | _ | _ | k
        · exact zCpy_m (fun n dp x sp x0 r g => ⟨g.1, g.2.1, g.2.2 (by obtain ⟨n0, n1, -, h1, -⟩ := g.2.1; rw [zRow_ne u _ (Ne.symm (ySh142 h1 (by simp)))]; exact he)⟩) h
        · exact zCpy_m (fun n dp x sp x0 r g => ⟨g.1, g.2.1, g.2.2 (by obtain ⟨n0, n1, -, h1, -⟩ := g.2.1; rw [zRow_ne u _ (Ne.symm (ySh142 h1 (by simp)))]; exact he)⟩) h
        · exact h.elim
        · exact zCpy_m (fun n dp x sp x0 r g => ⟨g.1, g.2.1, g.2.2 (by obtain ⟨n0, n1, -, h1, -⟩ := g.2.1; rw [zRow_ne u _ (Ne.symm (ySh142 h1 (by simp)))]; exact he)⟩) h
theorem zCall_keep : ∀ (d : Nat) {y : Nat} {as : List Value} {u : zM} {Q Q2 : Option Value → zM → Prop}, y < 363 → zOo y ≠ 13 → (∀ v w, Q v w → w 142 = u 142 → Q2 v w) → zCall d false y as u Q → zCall d false y as u Q2
  | 0, _, _, _, _, _, _, _, _, h => h.elim
  | d + 1, y, as, u, Q, Q2, hy, hn, hQ, ⟨h1, h2, h3⟩ => by
    refine zCall_m (d + 1) false y as u (fun v w => Q v w ∧ w 142 = u 142) Q2 (fun v w g => hQ v w g.1 g.2) ⟨h1, h2, fun P hP => ?_⟩
    have hnl : ∀ pc x, zLk (zCode y) pc = some x → zOkI (zOo y) (zMx y) x = true ∧ yNl x = true := fun pc x q => by
      refine ⟨(zkOf hy q).2, ?_⟩
      have g := List.all_eq_true.mp yNl_ok _ (zMt_in hy)
      simp only [Bool.or_eq_true, beq_iff_eq] at g
      rcases g with g | g
      · exact absurd g hn
      · exact List.all_eq_true.mp g _ (zLk_mem q)
    exact h3 (fun pc ls st u2 => u2 142 = u 142 → P pc ls st u2) ⟨fun pc ls st u2 hs he => hP.1 _ _ _ _ (zStep_keep (fun y as u Q Q2 a b c e => zCall_keep d a b c e) (fun x q => hnl pc x q) hs he), fun pc ls ls0 st u2 hsub g he => hP.2 _ _ _ _ _ hsub (g he)⟩ rfl
