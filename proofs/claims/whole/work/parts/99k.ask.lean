def gqV (G : Nat → Nat) (T s : Nat) : Nat := if G s < T - G s then T - G s else G s
def bqV (g : Nat → Nat) : Nat → Nat × Nat
  | 0 => (0, g 0)
  | i + 1 => if g (i + 1) < (bqV g i).2 then (i + 1, g (i + 1)) else bqV g i
def bV (G : Nat → Nat) (T n : Nat) : Int32 := if T < 2 ∨ n = 0 then -1 else nI (bqV (gqV G T) (n - 1)).1
theorem bq_le {g : Nat → Nat} : ∀ i, (∀ s, s ≤ i → g s ≤ 201) → (bqV g i).1 ≤ i ∧ (bqV g i).2 ≤ 201
  | 0, h => ⟨Nat.le_refl _, h 0 (Nat.le_refl _)⟩
  | i + 1, h => by
    have ih := bq_le (g := g) i (fun s hs => h s (by omega))
    have := h (i + 1) (Nat.le_refl _)
    show (if g (i + 1) < (bqV g i).2 then (i + 1, g (i + 1)) else bqV g i).1 ≤ i + 1 ∧ (if g (i + 1) < (bqV g i).2 then (i + 1, g (i + 1)) else bqV g i).2 ≤ 201
    split
    · exact ⟨Nat.le_refl _, this⟩
    · exact ⟨by omega, ih.2⟩
theorem nI_m1 {k : Nat} (hk : k < 2 ^ 31) : ¬ nI k = -1 := fun z => absurd (show nI k < 0 by rw [z]; decide) (nI_pos hk)
theorem gq_if {G : Nat → Nat} {T s : Nat} (hT : T ≤ 201) (hG : G s ≤ T) : (if nI (G s) < nI (T - G s) then nI (T - G s) else nI (G s)) = nI (gqV G T s) := by
  unfold gqV
  by_cases q : G s < T - G s
  · rw [if_pos q, if_pos (by rw [nI_ltI (by omega) (by omega)]; exact q)]
  · rw [if_neg q, if_neg (by rw [nI_ltI (by omega) (by omega)]; exact q)]
theorem gq_le {G : Nat → Nat} {T s : Nat} (hT : T ≤ 201) (hG : G s ≤ T) : gqV G T s ≤ 201 := by unfold gqV; split <;> omega
theorem s_best {d n T : Nat} {G : Nat → Nat} {a1 : Int32} {u : zM} {Q : Option Value → zM → Prop} (hT : u 125 3 = nI T) (hT2 : T ≤ 201) (hG : ∀ s, s < 8 → u 126 s = nI (G s) ∧ G s ≤ T) (h8 : n ≤ 8) (e1 : a1 = nI n) (h : Q (some (.int (bV G T n))) u) : zCall (d + 1) false 106 [.ref 125, .int a1] u Q := by
  subst e1
  have g : ∀ s, s < 8 → (if u 126 s < (u 125 3 - u 126 s) then (u 125 3 - u 126 s) else u 126 s) = nI (gqV G T s) := fun s hs => by
    rw [hT, (hG s hs).1, nI_sub (hG s hs).2]
    exact gq_if hT2 (hG s hs).2
  refine tX10_bestStep (k0 := 125) rfl ?_
  by_cases q : T < 2 ∨ n = 0
  · unfold bV at h
    rw [if_pos q] at h
    refine tX10_bestStep_7 (k0 := 125) rfl ⟨fun _ => h, fun z => ⟨fun _ => h, fun _ => ⟨fun _ => h, fun z2 => ?_⟩⟩⟩
    rw [nI_lit, nI_leI (by omega) (by omega)] at z
    rw [hT, nI_lit, nI_ltI (by omega) (by omega)] at z2
    omega
  · have t2 : ¬ u 125 3 < 2 := by rw [hT, nI_lit, nI_ltI (by omega) (by omega)]; omega
    have n0 : 0 < n := by omega
    refine tX10_bestStep_7 (k0 := 125) rfl (br_f (by rw [nI_lit, nI_leI (by omega) (by omega)]; omega) (br_f (by decide) (br_f t2 ⟨by decide, by decide, fun _ => ?_, fun z => absurd rfl z⟩)))
    rw [show (125 + 1 : Nat) = 126 from rfl, show (0 : Int32).toNatClampNeg = 0 from rfl, g 0 (by decide)]
    refine zFor (σ := Nat × Nat) (Pr := fun i x => zRun d false zcX10_bestStep 1 Q 7 [(0, .ref 125), (1, .int (nI n)), (2, .int (nI x.1)), (3, .int (nI x.2)), (4, .int (nI (i + 1)))] [] u) (fun i x => x = bqV (gqV G T) i) (n - 1) (fun x hx => ?_) (fun i x hi hx ih => ?_) (0, gqV G T 0) rfl
    · refine tX10_bestStep_7 (k0 := 125) rfl (br_t (by rw [nI_leI (by omega) (by omega)]; omega) ?_)
      unfold bV at h
      rw [if_neg q] at h
      rw [hx]; exact h
    · have le := bq_le (g := gqV G T) i (fun s hs => gq_le hT2 (hG s (by omega)).2)
      rw [← hx] at le
      have gl := gq_le (G := G) (T := T) (s := i + 1) hT2 (hG (i + 1) (by omega)).2
      have v : vp_in (nI (i + 1)) 8 := vp_in_nI (by omega) (by decide)
      refine tX10_bestStep_7 (k0 := 125) rfl (br_f (by rw [nI_leI (by omega) (by omega)]; omega) (br_f (by rw [nI_lit, nI_leI (by omega) (by omega)]; omega) (br_f t2 ⟨v, v, fun z => absurd z (nI_m1 (by omega)), fun _ => ?_⟩)))
      rw [show (125 + 1 : Nat) = 126 from rfl, nI_clamp (n := i + 1) (by omega), g (i + 1) (by omega), nI_1 (i + 1)]
      have l : bqV (gqV G T) (i + 1) = if gqV G T (i + 1) < (bqV (gqV G T) i).2 then (i + 1, gqV G T (i + 1)) else bqV (gqV G T) i := rfl
      rw [← hx] at l
      refine ⟨fun z => ih x ?_, fun z => ih (i + 1, gqV G T (i + 1)) ?_⟩
      · rw [nI_leI (by omega) (by omega)] at z
        rw [l, if_neg (by omega)]
      · rw [nI_leI (by omega) (by omega)] at z
        rw [l, if_pos (by omega)]
theorem zct_and {F p : Nat → Bool} : ∀ i, zct (fun c => F c && p c) i + zct (fun c => F c && !p c) i = zct F i
  | 0 => rfl
  | i + 1 => by
    have ih := zct_and (F := F) (p := p) i
    show (zct (fun c => F c && p c) i + (if (F i && p i) = true then 1 else 0)) + (zct (fun c => F c && !p c) i + (if (F i && !p i) = true then 1 else 0)) = zct F i + (if F i = true then 1 else 0)
    rw [← ih]
    cases F i <;> cases p i <;> simp <;> omega
/-- the count of one step by the reference -/
theorem ask_in {n L K s : Nat} {B : Nat → Nat} {W : Nat → Int32} {b1 v2 : Int32} {z : zM} {Q : Option Value → zM → Prop} (h8 : n ≤ 8) (hs : s < n) (h4 : L ≤ 400) (ok : hOk B n L = true) (i3 : z 128 12 = nI L) (i5 : ∀ i, i < L → B i < 256 ∧ z 135 i = (nI (B i)).toInt8.toInt32) (i6 : ∀ i, i < 201 → z 139 i = gvV W K n i)
    (h : zRun 59 false zcX12_ask 1 Q 54 [(0, .ref 128), (1, .int b1), (2, .int v2), (3, .int (nI s)), (4, .int (nI (zct (fun c => fr B (gvV W K n c) (L / 2) && tb (gvV W K n c) s) 201))), (5, .int (nI (zct (fun c => fr B (gvV W K n c) (L / 2) && !tb (gvV W K n c) s) 201))), (6, .int (nI 201))] [] z) : zRun 59 false zcX12_ask 1 Q 54 [(0, .ref 128), (1, .int b1), (2, .int v2), (3, .int (nI s)), (4, .int 0), (5, .int 0), (6, .int 0)] [] z := by
  refine zFor (σ := Int32 × Int32) (Pr := fun c x => zRun 59 false zcX12_ask 1 Q 54 [(0, .ref 128), (1, .int b1), (2, .int v2), (3, .int (nI s)), (4, .int x.1), (5, .int x.2), (6, .int (nI c))] [] z) (fun c x => x = (nI (zct (fun c => fr B (gvV W K n c) (L / 2) && tb (gvV W K n c) s) c), nI (zct (fun c => fr B (gvV W K n c) (L / 2) && !tb (gvV W K n c) s) c))) 201 (fun x hx => ?_) (fun c x hc hx ih => ?_) (0, 0) rfl
  · rw [hx]; exact h
  · have hx1 : x.1 = nI (zct (fun c => fr B (gvV W K n c) (L / 2) && tb (gvV W K n c) s) c) := by rw [hx]
    have hx2 : x.2 = nI (zct (fun c => fr B (gvV W K n c) (L / 2) && !tb (gvV W K n c) s) c) := by rw [hx]
    have vc : vp_in (nI c) 201 := vp_in_nI (by omega) (by decide)
    have fit : ∀ {Q2 : Option Value → zM → Prop}, Q2 (some (.int (i01 (fr B (gvV W K n c) (L / 2))))) z → zCall 59 false 298 [.ref 128, .int (nI c)] z Q2 := fun hq => s_fitsR (n := n) (L := L) (c := c) (B := B) rfl hc (i6 c hc) i3 h4 i5 h8 ok hq
    have l1 : zct (fun c => fr B (gvV W K n c) (L / 2) && tb (gvV W K n c) s) (c + 1) = zct (fun c => fr B (gvV W K n c) (L / 2) && tb (gvV W K n c) s) c + (if (fr B (gvV W K n c) (L / 2) && tb (gvV W K n c) s) = true then 1 else 0) := rfl
    have l2 : zct (fun c => fr B (gvV W K n c) (L / 2) && !tb (gvV W K n c) s) (c + 1) = zct (fun c => fr B (gvV W K n c) (L / 2) && !tb (gvV W K n c) s) c + (if (fr B (gvV W K n c) (L / 2) && !tb (gvV W K n c) s) = true then 1 else 0) := rfl
    have bit := tb_sh1 (gvV W K n c) (j := s) (by omega)
    refine tX12_ask_54 (br_f (by rw [nI_lit, nI_ltI (by omega) (by omega)]; omega) ?_)
    refine fit ⟨_, rfl, ?_⟩
    rw [nI_clamp (n := c) (by omega), nI_1 c]
    dsimp only
    rw [i6 c hc]
    cases q : fr B (gvV W K n c) (L / 2)
    · refine ⟨fun _ => fit ⟨_, rfl, ?_⟩, fun y => absurd rfl y⟩
      rw [q]
      refine ⟨fun _ => ih (x.1 + 0, x.2 + 0) ?_, fun y => absurd rfl y⟩
      rw [l1, l2, q, hx1, hx2, Int32.add_zero, Int32.add_zero]
      rfl
    · refine ⟨fun y => absurd y (by decide), fun _ => ⟨vc, fun b => fit ⟨_, rfl, ?_⟩, fun b => fit ⟨_, rfl, ?_⟩⟩⟩
      · rw [q]
        have tf : tb (gvV W K n c) s = false := by
          cases t : tb (gvV W K n c) s
          · rfl
          · exact absurd (bit.mpr t) b
        refine ⟨fun y => absurd y (by decide), fun _ => ⟨vc, fun _ => ih (x.1 + 0, x.2 + 1) ?_, fun y => absurd y b⟩⟩
        rw [l1, l2, q, tf, hx1, hx2, Int32.add_zero, nI_1]
        rfl
      · rw [q]
        have tf : tb (gvV W K n c) s = true := bit.mp b
        refine ⟨fun y => absurd y (by decide), fun _ => ⟨vc, fun y => absurd b y, fun _ => ih (x.1 + 1, x.2 + 0) ?_⟩⟩
        rw [l1, l2, q, tf, hx1, hx2, Int32.add_zero, nI_1]
        rfl
