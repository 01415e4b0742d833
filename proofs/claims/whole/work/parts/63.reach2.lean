theorem s_reached {d : Nat} {R : Nat → Nat → Nat} {a1 a2 a3 : Int32} {u : zM} {Q : Option Value → zM → Prop} (hR : ∀ x y, R x y ≤ 9) (hu : ∀ x y, x < 12 → y < 12 → u 129 (11 + 12 * x + y) = nI (R x y))
    (h : Q (some (.int (rcX (rcE R a1 a2 a3) (¬ a1 = 0)))) u) : zCall (d + 2) false 284 [.ref 128, .int a1, .int a2, .int a3] u Q := by
  obtain ⟨E, hE⟩ : ∃ E, E = rcE R a1 a2 a3 := ⟨_, rfl⟩
  rw [← hE] at h
  have main : ∀ s0 : Int32, (∀ t, t < 32 → tb s0 t = true → t < 12 ∧ rcR E (¬ a1 = 0) t) → (¬ a1 = 0 → tb s0 0 = true) → ((∀ t, t < 12 → rcR E (¬ a1 = 0) t → tb s0 t = true) ∨ 1 ≤ zct (fun c => tb s0 c) 12) →
      zRun (d + 1) false zcX12_reached 1 Q 14 [(0, .ref 128), (1, .int a1), (2, .int a2), (3, .int a3), (4, .int s0), (5, .int 0)] [] u := by
    intro s0 g1 g2 g3
    refine zFor (σ := Int32) (Pr := fun i x => zRun (d + 1) false zcX12_reached 1 Q 14 [(0, .ref 128), (1, .int a1), (2, .int a2), (3, .int a3), (4, .int x), (5, .int (nI i))] [] u)
      (fun i x => (∀ t, t < 32 → tb x t = true → t < 12 ∧ rcR E (¬ a1 = 0) t) ∧ (¬ a1 = 0 → tb x 0 = true) ∧ ((∀ t, t < 12 → rcR E (¬ a1 = 0) t → tb x t = true) ∨ i + 1 ≤ zct (fun c => tb x c) 12)) 12 (fun x hx => ?_) (fun i x hi hx ih => ?_) s0 ⟨g1, g2, g3⟩
    · refine tX12_reached_14 ⟨fun _ => ?_, fun q => absurd (by decide) q⟩
      obtain ⟨i1, i2, i3⟩ := hx
      rw [rcX_is (x := x) (E := E) (src := ¬ a1 = 0) (fun t ht => ⟨i1 t ht, fun q => i3.elim (fun z => z t q.1 q.2) (fun z => absurd (zct_le (fun c => tb x c) 12) (by omega))⟩)]
      exact h
    · obtain ⟨i1, i2, i3⟩ := hx
      have h12 : ¬ (12 : Int32) ≤ nI i := by rw [nI_lit, nI_leI (by omega) (by omega)]; omega
      refine tX12_reached_14 ⟨fun q => absurd q h12, fun _ => ?_⟩
      refine zFor (σ := Int32) (Pr := fun c y => zRun (d + 1) false zcX12_reached 1 Q 24 [(0, .ref 128), (1, .int a1), (2, .int a2), (3, .int a3), (4, .int y), (5, .int (nI i)), (6, .int (nI c))] [] u)
        (fun c y => (∀ t, t < 32 → tb y t = true → t < 12 ∧ rcR E (¬ a1 = 0) t) ∧ (∀ t, t < 32 → tb x t = true → tb y t = true) ∧ (∀ e f, e < c → f < 12 → tb x e = true → E e f → tb y f = true)) 12 (fun y hy => ?_) (fun c y hc hy ihc => ?_) x ⟨i1, fun _ _ z => z, fun e f he => absurd he (Nat.not_lt_zero _)⟩
      · obtain ⟨j1, j2, j3⟩ := hy
        refine tX12_reached_24 ⟨fun _ => ?_, fun q => absurd (by decide) q⟩
        rw [nI_1 i]
        refine ih y ⟨j1, fun z => j2 0 (by decide) (i2 z), ?_⟩
        rcases i3 with i3 | i3
        · exact Or.inl (fun t ht z => j2 t (by omega) (i3 t ht z))
        · by_cases q : ∃ v, v < 12 ∧ tb y v = true ∧ ¬ tb x v = true
          · exact Or.inr (Nat.le_trans (Nat.succ_le_succ i3) (zct_lt 12 (fun v hv z => j2 v (by omega) z) q))
          · refine Or.inl (fun t ht z => z (fun v => tb y v = true) (fun z0 => j2 0 (by decide) (i2 z0)) (fun e f he hf z1 z2 => j3 e f he hf ?_ z2))
            by_cases q2 : tb x e = true
            · exact q2
            · exact absurd ⟨e, he, z1, q2⟩ q
      · obtain ⟨j1, j2, j3⟩ := hy
        have h12c : ¬ (12 : Int32) ≤ nI c := by rw [nI_lit, nI_leI (by omega) (by omega)]; omega
        refine tX12_reached_24 ⟨fun q => absurd q h12c, fun _ => ?_⟩
        refine zFor (σ := Int32) (Pr := fun e y => zRun (d + 1) false zcX12_reached 1 Q 34 [(0, .ref 128), (1, .int a1), (2, .int a2), (3, .int a3), (4, .int y), (5, .int (nI i)), (6, .int (nI c)), (7, .int (nI e))] [] u)
          (fun j y => (∀ t, t < 32 → tb y t = true → t < 12 ∧ rcR E (¬ a1 = 0) t) ∧ (∀ t, t < 32 → tb x t = true → tb y t = true) ∧ (∀ e f, e < c → f < 12 → tb x e = true → E e f → tb y f = true) ∧ (∀ f, f < j → tb x c = true → E c f → tb y f = true)) 12 (fun y hy => ?_) (fun j y hj hy ihj => ?_) y ⟨j1, j2, j3, fun f hf => absurd hf (Nat.not_lt_zero _)⟩
        · obtain ⟨k1, k2, k3, k4⟩ := hy
          refine tX12_reached_34 ⟨fun _ => ?_, fun q => absurd (by decide) q⟩
          rw [nI_1 c]
          exact ihc y ⟨k1, k2, fun e f he hf z1 z2 => by
            by_cases q : e = c
            · subst q; exact k4 f hf z1 z2
            · exact k3 e f (by omega) hf z1 z2⟩
        · obtain ⟨k1, k2, k3, k4⟩ := hy
          have hb : ∀ (y : Int32) (t : Nat), t < 32 → tb (y ||| ((1 : Int32) <<< (nI j &&& 31))) t = (tb y t || decide (t = j)) := fun y t ht => by
            rw [tb_or, show tb ((1 : Int32) <<< (nI j &&& 31)) t = decide (t = j) from tb_bit32 j (by omega) t ht]
          have hS : ¬ (E c j ∧ tb y c = true) → zRun (d + 1) false zcX12_reached 1 Q 34 [(0, .ref 128), (1, .int a1), (2, .int a2), (3, .int a3), (4, .int y), (5, .int (nI i)), (6, .int (nI c)), (7, .int (nI (j + 1)))] [] u := fun z => ihj y ⟨k1, k2, k3, fun f hf z1 z2 => by
            by_cases q : f = j
            · subst q; exact absurd ⟨z2, k2 c (by omega) z1⟩ z
            · exact k4 f (by omega) z1 z2⟩
          have hA : E c j → tb y c = true → zRun (d + 1) false zcX12_reached 1 Q 34 [(0, .ref 128), (1, .int a1), (2, .int a2), (3, .int a3), (4, .int (y ||| ((1 : Int32) <<< (nI j &&& 31)))), (5, .int (nI i)), (6, .int (nI c)), (7, .int (nI (j + 1)))] [] u := fun z zc => by
            have up : ∀ t, t < 32 → tb y t = true → tb (y ||| ((1 : Int32) <<< (nI j &&& 31))) t = true := fun t ht q => by rw [hb _ t ht, q]; rfl
            refine ihj (y ||| ((1 : Int32) <<< (nI j &&& 31))) ⟨fun t ht q => ?_, fun t ht q => up t ht (k2 t ht q), fun e f he hf z1 z2 => up f (by omega) (k3 e f he hf z1 z2), fun f hf z1 z2 => ?_⟩
            · rw [hb _ t ht, Bool.or_eq_true, decide_eq_true_eq] at q
              rcases q with q | rfl
              · exact k1 t ht q
              · exact ⟨hj, rcR_step hc hj (k1 c (by omega) zc).2 z⟩
            · by_cases q : f = j
              · subst q; rw [hb _ f (by omega)]; simp
              · exact up f (by omega) (k4 f (by omega) z1 z2)
          have ek : (11 + (12 * nI c)) + nI j = nI (11 + 12 * c + j) := by rw [nI_lit, nI_lit, nI_mul, nI_add, nI_add]
          have hE2 : E c j ↔ 0 < R c j ∧ ¬ nI j = a1 ∧ ¬ (nI c = a2 ∧ nI j = a3) ∧ ¬ (nI c = a3 ∧ nI j = a2) := by rw [hE]; rfl
          have hr9 := hR c j
          have hle : (nI (R c j) ≤ 0) ↔ ¬ 0 < R c j := by rw [nI_lit, nI_leI (by omega) (by omega)]; omega
          have hv : vp_in (nI (11 + 12 * c + j)) 2173 := vp_in_nI (by omega) (by decide)
          have h12j : ¬ (12 : Int32) ≤ nI j := by rw [nI_lit, nI_leI (by omega) (by omega)]; omega
          refine tX12_reached_34 ⟨fun q => absurd q h12j, fun _ => ?_⟩
          rw [ek, nI_clamp (n := 11 + 12 * c + j) (by omega), hu c j hc hj, nI_1 j, hle, tb_sh1 y (by omega)]
          revert hS hA
          rw [hE2]
          generalize zRun (d + 1) false zcX12_reached 1 Q 34 [(0, .ref 128), (1, .int a1), (2, .int a2), (3, .int a3), (4, .int y), (5, .int (nI i)), (6, .int (nI c)), (7, .int (nI (j + 1)))] [] u = A
          generalize zRun (d + 1) false zcX12_reached 1 Q 34 [(0, .ref 128), (1, .int a1), (2, .int a2), (3, .int a3), (4, .int (y ||| ((1 : Int32) <<< (nI j &&& 31)))), (5, .int (nI i)), (6, .int (nI c)), (7, .int (nI (j + 1)))] [] u = B
          intro hS hA
          have hX : ¬ nI j = a1 → ¬ ((nI c = a2 ∧ nI j = a3) ∨ (nI c = a3 ∧ nI j = a2)) → ((¬ tb y c = true → A) ∧ (tb y c = true → (vp_in (nI (11 + 12 * c + j)) 2173 ∧ ((¬ 0 < R c j → A) ∧ (¬ ¬ 0 < R c j → B))))) := fun n g => ⟨fun q => hS (fun z => q z.2), fun q => ⟨hv, fun z => hS (fun x => z x.1.1), fun z => hA ⟨Decidable.not_not.mp z, n, fun x => g (Or.inl x), fun x => g (Or.inr x)⟩ q⟩⟩
          have hY : (nI j = a1 ∨ (nI c = a2 ∧ nI j = a3) ∨ (nI c = a3 ∧ nI j = a2)) → ((¬ tb y c = true → A) ∧ (tb y c = true → A)) := fun g => by
            have a : A := hS (fun z => g.elim z.1.2.1 (fun g => g.elim z.1.2.2.1 z.1.2.2.2))
            exact ⟨fun _ => a, fun _ => a⟩
          clear hS hA
          exact ⟨fun y0 => hY (Or.inl y0), fun n0 => ⟨fun n1 => ⟨fun n2 => hX n0 (fun g => g.elim (fun z => n1 z.1) (fun z => n2 z.1)), fun y2 => ⟨fun n3 => hX n0 (fun g => g.elim (fun z => n1 z.1) (fun z => n3 z.2)), fun y3 => hY (Or.inr (Or.inr ⟨y2, y3⟩))⟩⟩, fun y1 => ⟨fun y4 => hY (Or.inr (Or.inl ⟨y1, y4⟩)), fun n4 => ⟨fun n2 => hX n0 (fun g => g.elim (fun z => n4 z.2) (fun z => n2 z.1)), fun y2 => ⟨fun n3 => hX n0 (fun g => g.elim (fun z => n4 z.2) (fun z => n3 z.2)), fun y3 => hY (Or.inr (Or.inr ⟨y2, y3⟩))⟩⟩⟩⟩⟩
  refine tX12_reached ⟨fun q => main 1 (fun t ht z => ?_) (fun _ => by decide) (Or.inr (by decide +kernel)), fun q => main 0 (fun t ht z => ?_) (fun z => absurd q z) (Or.inl (fun t ht z => ?_))⟩
  · rw [tb_one t ht, decide_eq_true_eq] at z
    subst z
    exact ⟨by decide, rcR_src q⟩
  · rw [tb_0] at z; cases z
  · exact absurd (z (fun _ => False) (fun y => y q) (fun _ _ _ _ y _ => y)) id
