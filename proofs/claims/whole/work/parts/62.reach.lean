theorem s_reach {d k0 : Nat} {R : Nat → Nat → Nat} {a1 a2 a3 : Int32} {u : zM} {Q : Option Value → zM → Prop} (hk : zShapes[k0]? = some (.inl 5)) (hR : ∀ x y, R x y ≤ 9) (hu : ∀ x y, x < 12 → y < 12 → u (k0 + 1) (x * 12 + y) = nI (R x y))
    (h : Q (some (.int (rcX (rcE R a1 a2 a3) (¬ a1 = 0)))) u) : zCall (d + 3) false 57 [.ref k0, .int a1, .int a2, .int a3] u Q := by
  obtain ⟨E, hE⟩ : ∃ E, E = rcE R a1 a2 a3 := ⟨_, rfl⟩
  rw [← hE] at h
  have main : ∀ rc0 lf0 : Int32, (∀ t, t < 32 → tb rc0 t = true → t < 12 ∧ rcR E (¬ a1 = 0) t) → (∀ t, t < 32 → tb lf0 t = tb rc0 t) → (¬ a1 = 0 → tb rc0 0 = true) →
      zRun (d + 2) false zcX5_reach 1 Q 18 [(0, .ref k0), (1, .int a1), (2, .int a2), (3, .int a3), (4, .int rc0), (5, .int lf0), (6, .int 0)] [] u := by
    intro rc0 lf0 g1 g2 g3
    refine zFor (σ := Int32 × Int32) (Pr := fun i x => zRun (d + 2) false zcX5_reach 1 Q 18 [(0, .ref k0), (1, .int a1), (2, .int a2), (3, .int a3), (4, .int x.1), (5, .int x.2), (6, .int (nI i))] [] u)
      (fun i x => (∀ t, t < 32 → tb x.1 t = true → t < 12 ∧ rcR E (¬ a1 = 0) t) ∧ (∀ t, t < 32 → tb x.2 t = true → tb x.1 t = true) ∧ (¬ a1 = 0 → tb x.1 0 = true) ∧ (∀ c e, c < 12 → e < 12 → tb x.1 c = true → tb x.2 c = false → E c e → tb x.1 e = true) ∧ i ≤ zct (fun c => tb x.1 c && !tb x.2 c) 12) 12 (fun x hx => ?_) (fun i x hi hx ih => ?_) (rc0, lf0) ⟨g1, fun t ht q => (g2 t ht).symm.trans q, g3, fun c e hc he q1 q2 => by rw [g2 c (by omega), q1] at q2; exact absurd q2 (by decide), Nat.zero_le _⟩
    · obtain ⟨i1, i2, i3, i4, i5⟩ := hx
      refine tX5_reach_18 hk ⟨fun _ => ?_, fun q => absurd (by decide) q⟩
      rw [rcX_is (x := x.1) (E := E) (src := ¬ a1 = 0) (fun t ht => ⟨i1 t ht, fun q => q.2 (fun c => tb x.1 c = true) i3 (fun c e hc he q1 q2 => i4 c e hc he q1 (by
        have := zct_full 12 i5 c hc
        simp only [Bool.and_eq_true, Bool.not_eq_true'] at this
        exact this.2) q2)⟩)]
      exact h
    · obtain ⟨i1, i2, i3, i4, i5⟩ := hx
      obtain ⟨rc, lf⟩ := x
      dsimp only at i1 i2 i3 i4 i5
      have done : (∀ t, t < 12 → tb lf t = false) → Q (some (.int rc)) u := fun q0 => by
        rw [rcX_is (x := rc) (E := E) (src := ¬ a1 = 0) (fun t ht => ⟨i1 t ht, fun q => q.2 (fun c => tb rc c = true) i3 (fun c e hc he q1 q2 => i4 c e hc he q1 (q0 c hc) q2)⟩)]
        exact h
      refine tX5_reach_18 hk ⟨fun q => absurd q (by rw [nI_lit, nI_leI (by omega) (by omega)]; omega), fun _ => ⟨fun q => done (fun t ht => by dsimp only at q; rw [q]; exact tb_0 t), fun q => ?_⟩⟩
      refine s_lowest (fun l hl l1 l2 => ⟨_, rfl, ?_⟩) (fun l2 => absurd (tb_ext (fun t ht => ?_)) q)
      rotate_left
      · by_cases e : t < 12
        · exact (l2 t e).trans (tb_0 t).symm
        · refine (Bool.eq_false_iff.mpr (fun z => e (i1 t ht (i2 t ht z)).1)).trans (tb_0 t).symm
      · have hlb : ∀ t, t < 32 → tb (lf &&& (((1 : Int32) <<< (nI l &&& 31)) ^^^ (-1))) t = (tb lf t && !decide (t = l)) := fun t ht => by
          rw [tb_and, tb_not _ ht, show tb ((1 : Int32) <<< (nI l &&& 31)) t = decide (t = l) from tb_bit32 l (by omega) t ht]
        refine zFor (σ := Int32 × Int32) (Pr := fun j x => zRun (d + 2) false zcX5_reach 1 Q 51 [(0, .ref k0), (1, .int a1), (2, .int a2), (3, .int a3), (4, .int x.1), (5, .int x.2), (6, .int (nI i)), (7, .int (nI l)), (8, .int (nI j))] [] u)
          (fun j x => (∀ t, t < 32 → tb x.1 t = true → t < 12 ∧ rcR E (¬ a1 = 0) t) ∧ (∀ t, t < 32 → tb x.2 t = true → tb x.1 t = true) ∧ (¬ a1 = 0 → tb x.1 0 = true) ∧ (∀ c e, c < 12 → e < 12 → tb x.1 c = true → tb x.2 c = false → E c e → (c ≠ l ∨ e < j) → tb x.1 e = true) ∧ i + 1 ≤ zct (fun c => tb x.1 c && !tb x.2 c) 12 ∧ tb x.1 l = true ∧ tb x.2 l = false) 12 (fun x hx => ?_) (fun j x hj hx ihj => ?_) (rc, lf &&& (((1 : Int32) <<< (nI l &&& 31)) ^^^ (-1))) ⟨i1, fun t ht z => i2 t ht (by dsimp only at z; rw [hlb t ht, Bool.and_eq_true] at z; exact z.1), i3, fun c e hc he z1 z2 z3 z4 => ?_, ?_, i2 l (by omega) l1, by dsimp only; rw [hlb l (by omega)]; simp⟩
        · obtain ⟨j1, j2, j3, j4, j5, j6, j7⟩ := hx
          refine tX5_reach_51 hk ⟨fun _ => ?_, fun q => absurd (by decide) q⟩
          rw [nI_1 i]
          exact ih x ⟨j1, j2, j3, fun c e hc he z1 z2 z3 => j4 c e hc he z1 z2 z3 (Or.inr he), j5⟩
        · obtain ⟨j1, j2, j3, j4, j5, j6, j7⟩ := hx
          obtain ⟨rc, lf⟩ := x
          dsimp only at j1 j2 j3 j4 j5 j6 j7
          have hS : ¬ (E l j ∧ tb rc j = false) → zRun (d + 2) false zcX5_reach 1 Q 51 [(0, .ref k0), (1, .int a1), (2, .int a2), (3, .int a3), (4, .int rc), (5, .int lf), (6, .int (nI i)), (7, .int (nI l)), (8, .int (nI (j + 1)))] [] u := fun z => ihj (rc, lf) ⟨j1, j2, j3, fun c e hc he z1 z2 z3 z4 => by
            by_cases y : c = l ∧ e = j
            · obtain ⟨rfl, rfl⟩ := y
              by_cases y2 : tb rc e = true
              · exact y2
              · exact absurd ⟨z3, Bool.eq_false_iff.mpr y2⟩ z
            · exact j4 c e hc he z1 z2 z3 (by omega), j5, j6, j7⟩
          have hb : ∀ (y : Int32) (t : Nat), t < 32 → tb (y ||| ((1 : Int32) <<< (nI j &&& 31))) t = (tb y t || decide (t = j)) := fun y t ht => by
            rw [tb_or, show tb ((1 : Int32) <<< (nI j &&& 31)) t = decide (t = j) from tb_bit32 j (by omega) t ht]
          have hA : E l j → tb rc j = false → zRun (d + 2) false zcX5_reach 1 Q 51 [(0, .ref k0), (1, .int a1), (2, .int a2), (3, .int a3), (4, .int (rc ||| ((1 : Int32) <<< (nI j &&& 31)))), (5, .int (lf ||| ((1 : Int32) <<< (nI j &&& 31)))), (6, .int (nI i)), (7, .int (nI l)), (8, .int (nI (j + 1)))] [] u := fun z zj => by
            have hlj : l ≠ j := fun y => by subst y; rw [j6] at zj; cases zj
            refine ihj (rc ||| ((1 : Int32) <<< (nI j &&& 31)), lf ||| ((1 : Int32) <<< (nI j &&& 31))) ⟨fun t ht y => ?_, fun t ht y => ?_, fun y => ?_, fun c e hc he z1 z2 z3 z4 => ?_, ?_, ?_, ?_⟩
            · dsimp only at y
              rw [hb _ t ht, Bool.or_eq_true, decide_eq_true_eq] at y
              rcases y with y | rfl
              · exact j1 t ht y
              · exact ⟨hj, rcR_step hl hj (j1 l (by omega) j6).2 z⟩
            · dsimp only at y ⊢
              rw [hb _ t ht, Bool.or_eq_true] at y ⊢
              exact y.imp (j2 t ht) id
            · dsimp only
              rw [hb _ 0 (by omega), j3 y]; rfl
            · dsimp only at z1 z2 ⊢
              rw [hb _ c (by omega), Bool.or_eq_true, decide_eq_true_eq] at z1
              rw [hb _ c (by omega), Bool.or_eq_false_iff, decide_eq_false_iff_not] at z2
              rw [hb _ e (by omega), Bool.or_eq_true, decide_eq_true_eq]
              by_cases y : c = l ∧ e = j
              · exact Or.inr y.2
              · exact Or.inl (j4 c e hc he (z1.resolve_right z2.2) z2.1 z3 (by omega))
            · refine Nat.le_trans j5 (zct_mono 12 (fun v hv y => ?_))
              dsimp only at y ⊢
              rw [hb _ v (by omega), hb _ v (by omega)]
              rw [Bool.and_eq_true, Bool.not_eq_true'] at y
              have e : decide (v = j) = false := by rw [decide_eq_false_iff_not]; rintro rfl; rw [y.1] at zj; cases zj
              rw [y.1, y.2, e]; rfl
            · dsimp only
              rw [hb _ l (by omega), j6]; rfl
            · dsimp only
              rw [hb _ l (by omega), j7]
              simpa using hlj
          have ek : (nI l * 12) + nI j = nI (l * 12 + j) := by rw [nI_lit, nI_mul, nI_add]
          have hE2 : E l j ↔ 0 < R l j ∧ ¬ nI j = a1 ∧ ¬ (nI l = a2 ∧ nI j = a3) ∧ ¬ (nI l = a3 ∧ nI j = a2) := by rw [hE]; rfl
          have hr9 := hR l j
          have hle : (nI (R l j) ≤ 0) ↔ ¬ 0 < R l j := by rw [nI_lit, nI_leI (by omega) (by omega)]; omega
          have hv1 : vp_in (nI l) 12 := vp_in_nI hl (by decide)
          have hv2 : vp_in (nI j) 12 := vp_in_nI hj (by decide)
          have h12 : ¬ (12 : Int32) ≤ nI j := by rw [nI_lit, nI_leI (by omega) (by omega)]; omega
          refine tX5_reach_51 hk ⟨fun q => absurd q h12, fun _ => ?_⟩
          dsimp only
          rw [ek, nI_clamp (n := l * 12 + j) (by omega), hu l j hl hj, nI_1 j, hle, tb_sh0 rc (by omega)]
          revert hS hA
          rw [hE2]
          generalize zRun (d + 2) false zcX5_reach 1 Q 51 [(0, .ref k0), (1, .int a1), (2, .int a2), (3, .int a3), (4, .int rc), (5, .int lf), (6, .int (nI i)), (7, .int (nI l)), (8, .int (nI (j + 1)))] [] u = A
          generalize zRun (d + 2) false zcX5_reach 1 Q 51 [(0, .ref k0), (1, .int a1), (2, .int a2), (3, .int a3), (4, .int (rc ||| ((1 : Int32) <<< (nI j &&& 31)))), (5, .int (lf ||| ((1 : Int32) <<< (nI j &&& 31)))), (6, .int (nI i)), (7, .int (nI l)), (8, .int (nI (j + 1)))] [] u = B
          intro hS hA
          have hX : ¬ ((nI l = a2 ∧ nI j = a3) ∨ (nI l = a3 ∧ nI j = a2)) → vp_in (nI l) 12 ∧ vp_in (nI j) 12 ∧ ((¬ 0 < R l j → A) ∧ (¬ ¬ 0 < R l j → ((nI j = a1 → A) ∧ (¬ nI j = a1 → ((¬ tb rc j = false → A) ∧ (tb rc j = false → B)))))) := fun g => ⟨hv1, hv2, fun q => hS (fun z => q z.1.1), fun q => ⟨fun z => hS (fun y => y.1.2.1 z), fun z => ⟨fun y => hS (fun x => y x.2), fun y => hA ⟨Decidable.not_not.mp q, z, fun x => g (Or.inl x), fun x => g (Or.inr x)⟩ y⟩⟩⟩
          have hY : ((nI l = a2 ∧ nI j = a3) ∨ (nI l = a3 ∧ nI j = a2)) → vp_in (nI l) 12 ∧ vp_in (nI j) 12 ∧ ((¬ 0 < R l j → A) ∧ (¬ ¬ 0 < R l j → ((nI j = a1 → A) ∧ (¬ nI j = a1 → A)))) := fun g => by
            have a : A := hS (fun y => g.elim y.1.2.2.1 y.1.2.2.2)
            exact ⟨hv1, hv2, fun _ => a, fun _ => ⟨fun _ => a, fun _ => a⟩⟩
          clear hS hA
          exact ⟨fun n1 => ⟨fun n2 => hX (fun g => g.elim (fun z => n1 z.1) (fun z => n2 z.1)), fun y2 => ⟨fun n3 => hX (fun g => g.elim (fun z => n1 z.1) (fun z => n3 z.2)), fun y3 => hY (Or.inr ⟨y2, y3⟩)⟩⟩, fun y1 => ⟨fun y4 => hY (Or.inl ⟨y1, y4⟩), fun n4 => ⟨fun n2 => hX (fun g => g.elim (fun z => n4 z.2) (fun z => n2 z.1)), fun y2 => ⟨fun n3 => hX (fun g => g.elim (fun z => n4 z.2) (fun z => n3 z.2)), fun y3 => hY (Or.inr ⟨y2, y3⟩)⟩⟩⟩⟩
        · dsimp only at z1 z2 z4
          rw [hlb c (by omega)] at z2
          by_cases y : c = l
          · exact absurd z4 (by omega)
          · rw [decide_eq_false y, Bool.not_false, Bool.and_true] at z2
            exact i4 c e hc he z1 z2 z3
        · refine Nat.le_trans (Nat.succ_le_succ i5) (zct_lt 12 (fun v hv y => ?_) ⟨l, hl, ?_, ?_⟩)
          · dsimp only at y ⊢
            rw [Bool.and_eq_true, Bool.not_eq_true'] at y
            rw [hlb v (by omega), y.1, y.2]; rfl
          · try dsimp only
            rw [hlb l (by omega), i2 l (by omega) l1]; simp
          · try dsimp only
            rw [l1]; simp
  refine tX5_reach hk ⟨fun q => main 1 1 (fun t ht z => ?_) (fun _ _ => rfl) (fun _ => by decide), fun q => main 0 0 (fun t ht z => ?_) (fun _ _ => rfl) (fun z => absurd q z)⟩
  · rw [tb_one t ht, decide_eq_true_eq] at z
    subst z
    exact ⟨by decide, rcR_src q⟩
  · rw [tb_0] at z; cases z
