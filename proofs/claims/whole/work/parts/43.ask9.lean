def dsum (f : Nat → Nat) : Nat → Nat
  | 0 => 0
  | n + 1 => dsum f n + f n
theorem dsum_step (A : Nat → Nat → Bool) (n : Nat) : ∀ m, m ≤ n → dsum (fun s => zct (fun j => A s (s + 1 + j)) (n + 1 - (s + 1))) m = dsum (fun s => zct (fun j => A s (s + 1 + j)) (n - (s + 1))) m + zct (fun s => A s n) m
  | 0, _ => rfl
  | m + 1, h => by
    unfold dsum
    rw [dsum_step A n m (by omega)]
    have e : n + 1 - (m + 1) = (n - (m + 1)) + 1 := by omega
    have e2 : m + 1 + (n - (m + 1)) = n := by omega
    have e3 : zct (fun j => A m (m + 1 + j)) (n + 1 - (m + 1)) = zct (fun j => A m (m + 1 + j)) (n - (m + 1)) + if A m n then 1 else 0 := by
      rw [e]
      conv => lhs; unfold zct
      show zct (fun j => A m (m + 1 + j)) (n - (m + 1)) + (if A m (m + 1 + (n - (m + 1))) = true then 1 else 0) = _
      rw [e2]
    rw [e3]
    have e4 : zct (fun s => A s n) (m + 1) = zct (fun s => A s n) m + if A m n then 1 else 0 := rfl
    rw [e4]
    omega
theorem dsum_tri (A : Nat → Nat → Bool) (hA : ∀ a b, A a b = A b a) : ∀ n, dsum (fun s => zct (fun j => A s (s + 1 + j)) (n - (s + 1))) n = dsum (fun s => zct (fun o => A s o) s) n
  | 0 => rfl
  | n + 1 => by
    have l : dsum (fun s => zct (fun j => A s (s + 1 + j)) (n + 1 - (s + 1))) (n + 1) = dsum (fun s => zct (fun j => A s (s + 1 + j)) (n + 1 - (s + 1))) n + zct (fun j => A n (n + 1 + j)) (n + 1 - (n + 1)) := rfl
    have r : dsum (fun s => zct (fun o => A s o) s) (n + 1) = dsum (fun s => zct (fun o => A s o) s) n + zct (fun o => A n o) n := rfl
    have z : zct (fun j => A n (n + 1 + j)) (n + 1 - (n + 1)) = 0 := by rw [Nat.sub_self]; rfl
    have s : (fun s => A s n) = (fun o => A n o) := funext fun s => hA s n
    rw [l, r, z, dsum_step A n n (Nat.le_refl _), dsum_tri A hA n, s]; rfl
def zTw (W : Nat → Int32) (s o : Nat) : Bool := decide (W (163 + 9 * s) = W (163 + 9 * o)) && decide (W (163 + 9 * s + 1) = W (163 + 9 * o + 1))
theorem zTw_sym (W : Nat → Int32) (s o : Nat) : zTw W s o = zTw W o s := by
  unfold zTw
  congr 1 <;> exact decide_eq_decide.mpr ⟨Eq.symm, Eq.symm⟩
theorem m_twins {n : Nat} {u : zM} (hC : zCore u n) : zCall 60 false 318 [.ref 128] u fun v2 w2 => v2 = some (.int (nI (dsum (fun s => zct (fun o => zTw (u 129) s o) s) n))) ∧ zSame u w2 := by
  have h8 := hC.1.1.1
  have hn := hC.1.1.2
  refine tX12_twins ?_
  obtain ⟨m1, e1⟩ : ∃ m1, m1 = zUp u 128 0 0 := ⟨_, rfl⟩
  have e2 : m1 129 = u 129 := by rw [e1]; exact zUp_k _ _ (by decide)
  have fin : zSame u m1 := by rw [e1]; exact zSame.m _ (by decide)
  have hn1 : m1 129 0 = nI n := by rw [e2]; exact hn
  rw [← e1, ← e2]
  refine zFor (σ := Nat) (Pr := fun i x => zRun 59 false zcX12_twins 1 _ 9 [(0, .ref 128), (1, .int (nI x)), (2, .int (nI i))] [] m1) (fun i x => x = dsum (fun s => zct (fun o => zTw (m1 129) s o) s) i) n (fun x hx => ?_) (fun i x hi hx ih => ?_) 0 rfl
  · refine tX12_twins_9 ⟨fun _ => ⟨by rw [hx], fin⟩, fun q => absurd ?_ q⟩
    rw [hn1]; exact Int32.le_refl _
  · refine tX12_twins_9 ?_
    rw [hn1]
    refine ⟨fun q => absurd q (by rw [nI_leI (by omega) (by omega)]; omega), fun _ => ?_⟩
    refine zFor (σ := Nat) (Pr := fun j y => zRun 59 false zcX12_twins 1 _ 19 [(0, .ref 128), (1, .int (nI y)), (2, .int (nI i)), (3, .int (nI j))] [] m1) (fun j y => y = x + zct (fun o => zTw (m1 129) i o) j) i (fun y hy => ?_) (fun j y hj hy ih2 => ?_) x rfl
    · refine tX12_twins_19 ⟨fun _ => ?_, fun q => absurd (Int32.le_refl _) q⟩
      rw [nI_1 i]
      exact ih y (by rw [hy, hx]; rfl)
    · have a0 : (163 + (9 * nI i)) + 0 = nI (163 + 9 * i) := by rw [nI_lit, nI_lit, nI_mul, nI_add]; exact Int32.add_zero _
      have b0 : (163 + (9 * nI j)) + 0 = nI (163 + 9 * j) := by rw [nI_lit, nI_lit, nI_mul, nI_add]; exact Int32.add_zero _
      have a1 : (163 + (9 * nI i)) + 1 = nI (163 + 9 * i + 1) := by rw [nI_lit, nI_lit, nI_lit, nI_mul, nI_add, nI_add]
      have b1 : (163 + (9 * nI j)) + 1 = nI (163 + 9 * j + 1) := by rw [nI_lit, nI_lit, nI_lit, nI_mul, nI_add, nI_add]
      have no : ¬ zTw (m1 129) i j = true → zRun 59 false zcX12_twins 1 (fun v2 w2 => v2 = some (.int (nI (dsum (fun s => zct (fun o => zTw (m1 129) s o) s) n))) ∧ zSame u w2) 19 [(0, .ref 128), (1, .int (nI y)), (2, .int (nI i)), (3, .int (nI (j + 1)))] [] m1 := fun q => by
        refine ih2 y ?_
        rw [hy]; conv => rhs; unfold zct
        rw [if_neg q]; rfl
      have e0 : nI y + 0 = nI y := Int32.add_zero _
      refine tX12_twins_19 ?_
      rw [a0, b0, a1, b1, e0, nI_1 j, nI_1 y, nI_clamp (n := 163 + 9 * i) (by omega), nI_clamp (n := 163 + 9 * j) (by omega), nI_clamp (n := 163 + 9 * i + 1) (by omega), nI_clamp (n := 163 + 9 * j + 1) (by omega)]
      refine ⟨fun q => absurd q (by rw [nI_leI (by omega) (by omega)]; omega), fun _ => ⟨vp_in_nI (by omega) (by decide), vp_in_nI (by omega) (by decide), fun q => no ?_, fun q => ⟨vp_in_nI (by omega) (by decide), vp_in_nI (by omega) (by decide), fun r => no ?_, fun r => ih2 (y + 1) ?_⟩⟩⟩
      · unfold zTw; simp [q]
      · unfold zTw; simp [r]
      · rw [hy]; conv => rhs; unfold zct
        rw [if_pos (by unfold zTw; simp [q, r])]; rfl
theorem op_twins : zAsk 155 318 [] := by
  intro u n hC
  have h8 := hC.1.1.1
  have hn := hC.1.1.2
  have hu : u 4 3 = nI n := hC.2.2.1.1.1.trans hn
  have hv0 : ∀ s, s < 8 → u 5 s = u 129 (163 + 9 * s) := fun s hs => by
    have := hC.2.2.1.2.1 s 0 hs (by decide)
    rwa [Nat.zero_mul, Nat.zero_add, Nat.add_zero] at this
  have hv1 : ∀ s, s < 8 → u 5 (8 + s) = u 129 (163 + 9 * s + 1) := fun s hs => by
    have := hC.2.2.1.2.1 s 1 hs (by decide)
    rwa [Nat.one_mul] at this
  refine tX11_twins ?_
  refine zFor (σ := Nat) (Pr := fun i x => zRun 59 false zcX11_twins 1 _ 4 [(0, .ref 0), (1, .int (nI x)), (2, .int (nI i))] [] u) (fun i x => x = dsum (fun s => zct (fun j => zTw (u 129) s (s + 1 + j)) (n - (s + 1))) i) n (fun x hx => ?_) (fun i x hi hx ih => ?_) 0 rfl
  · refine tX11_twins_4 ⟨fun _ => ⟨zSame.rf u, ?_⟩, fun q => absurd ?_ q⟩
    · rw [hx, dsum_tri _ (zTw_sym _)]; exact m_twins hC
    · rw [hu]; exact Int32.le_refl _
  · refine tX11_twins_4 ?_
    rw [hu, nI_1]
    refine ⟨fun q => absurd q (by rw [nI_leI (by omega) (by omega)]; omega), fun _ => ?_⟩
    refine zFor (σ := Nat) (Pr := fun j y => zRun 59 false zcX11_twins 1 _ 22 [(0, .ref 0), (1, .int (nI y)), (2, .int (nI i)), (3, .int (nI (i + 1 + j)))] [] u) (fun j y => y = x + zct (fun j => zTw (u 129) i (i + 1 + j)) j) (n - (i + 1)) (fun y hy => ?_) (fun j y hj hy ih2 => ?_) x rfl
    · refine tX11_twins_22 ⟨fun _ => ?_, fun q => absurd ?_ q⟩
      · rw [nI_1 i]
        exact ih y (by rw [hy, hx]; rfl)
      · rw [hu, nI_leI (by omega) (by omega)]; omega
    · have a0 : ((0 : Int32) * 8) + nI i = nI i := by rw [Int32.zero_mul, Int32.zero_add]
      have b0 : ((0 : Int32) * 8) + nI (i + 1 + j) = nI (i + 1 + j) := by rw [Int32.zero_mul, Int32.zero_add]
      have a1 : ((1 : Int32) * 8) + nI i = nI (8 + i) := by rw [Int32.one_mul, nI_lit, nI_add]
      have b1 : ((1 : Int32) * 8) + nI (i + 1 + j) = nI (8 + (i + 1 + j)) := by rw [Int32.one_mul, nI_lit, nI_add]
      have hno : ¬ zTw (u 129) i (i + 1 + j) = true → y = x + zct (fun j => zTw (u 129) i (i + 1 + j)) (j + 1) := fun q => by
        rw [hy]; conv => rhs; unfold zct
        rw [if_neg q]; rfl
      refine tX11_twins_22 ?_
      rw [hu, a0, b0, a1, b1, nI_1 y, nI_1 (i + 1 + j), nI_clamp (n := i) (by omega), nI_clamp (n := i + 1 + j) (by omega), nI_clamp (n := 8 + i) (by omega), nI_clamp (n := 8 + (i + 1 + j)) (by omega), hv0 i (by omega), hv0 (i + 1 + j) (by omega), hv1 i (by omega), hv1 (i + 1 + j) (by omega)]
      refine ⟨fun q => absurd q (by rw [nI_leI (by omega) (by omega)]; omega), fun _ => ⟨vp_in_nI (by omega) (by decide), vp_in_nI (by omega) (by decide), fun q => ih2 y (hno ?_), fun q => ⟨vp_in_nI (by omega) (by decide), vp_in_nI (by omega) (by decide), fun r => ih2 y (hno ?_), fun r => ih2 (y + 1) ?_⟩⟩⟩
      · unfold zTw; simp [q]
      · unfold zTw; simp [r]
      · rw [hy]; conv => rhs; unfold zct
        rw [if_pos (by unfold zTw; simp [q, r])]; rfl
