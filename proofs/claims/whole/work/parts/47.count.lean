theorem zct_split (p : Nat → Bool) (a : Nat) : ∀ b, zct p (a + b) = zct p a + zct (fun j => p (a + j)) b
  | 0 => rfl
  | b + 1 => by
    have e : zct p (a + (b + 1)) = zct p (a + b) + if p (a + b) then 1 else 0 := rfl
    have f : zct (fun j => p (a + j)) (b + 1) = zct (fun j => p (a + j)) b + if p (a + b) then 1 else 0 := rfl
    rw [e, f, zct_split p a b]; omega
theorem zct_congr {p q : Nat → Bool} : ∀ n, (∀ s, s < n → p s = q s) → zct p n = zct q n
  | 0, _ => rfl
  | n + 1, h => by
    have e : zct p (n + 1) = zct p n + if p n then 1 else 0 := rfl
    have f : zct q (n + 1) = zct q n + if q n then 1 else 0 := rfl
    rw [e, f, zct_congr n (fun s hs => h s (by omega)), h n (by omega)]
theorem dsum_add {f g h : Nat → Nat} : ∀ n, (∀ s, s < n → f s = g s + h s) → dsum f n = dsum g n + dsum h n
  | 0, _ => rfl
  | n + 1, e => by
    unfold dsum
    rw [dsum_add n (fun s hs => e s (by omega)), e n (by omega)]; omega
theorem zct_rows (A : Nat → Nat → Bool) (p : Nat → Bool) (h : ∀ a b, a < 12 → b < 12 → p (a * 12 + b) = A a b) : ∀ k, k ≤ 12 → zct p (12 * k) = dsum (fun a => zct (A a) 12) k
  | 0, _ => rfl
  | k + 1, hk => by
    rw [show 12 * (k + 1) = 12 * k + 12 from rfl, zct_split, zct_rows A p h k (by omega)]
    have e : zct (fun j => p (12 * k + j)) 12 = zct (A k) 12 := zct_congr 12 (fun s hs => by
      have := h k s (by omega) hs
      rw [show 12 * k + s = k * 12 + s by omega]
      exact this)
    rw [e]; rfl
theorem dsum_full (A : Nat → Nat → Bool) (hA : ∀ a b, A a b = A b a) (h0 : ∀ a, a < 12 → A a a = false) : dsum (fun a => zct (A a) 12) 12 = 2 * dsum (fun s => zct (fun o => A s o) s) 12 := by
  have e := dsum_add (f := fun a => zct (A a) 12) (g := fun s => zct (fun o => A s o) s) (h := fun s => zct (fun j => A s (s + 1 + j)) (12 - (s + 1))) 12 (fun s hs => by
    have f := zct_split (A s) (s + 1) (12 - (s + 1))
    rw [show s + 1 + (12 - (s + 1)) = 12 by omega] at f
    have g : zct (A s) (s + 1) = zct (A s) s + if A s s then 1 else 0 := rfl
    rw [h0 s hs] at g
    simp only [Bool.false_eq_true, if_false] at g
    show zct (A s) 12 = zct (A s) s + _
    rw [f, g]; rfl)
  rw [e, dsum_tri A hA 12]; omega
def zRo (W : Nat → Int32) (a b : Nat) : Bool := decide (0 < rdN W a b)
theorem zRo_sym {W : Nat → Int32} {n : Nat} (h : zRg W n) (a b : Nat) : zRo W a b = zRo W b a := by unfold zRo; rw [zRd_sym h]
theorem zRo_0 {W : Nat → Int32} {n : Nat} (h : zRg W n) (a : Nat) (ha : a < 12) : zRo W a a = false := by
  have := h.2.2.2.2.2.2.2.2.2.2.2.1 a ha
  unfold zRo rdN
  rw [if_pos ⟨ha, ha⟩, this]; decide
theorem zRo_iff {W : Nat → Int32} {n a b : Nat} (h : zRg W n) (ha : a < 12) (hb : b < 12) : W (11 + 12 * a + b) ≤ 0 ↔ ¬ zRo W a b = true := by
  have := zRd_le h a b
  rw [zRd_eq h ha hb, nI_lit, nI_leI (by omega) (by omega)]
  unfold zRo
  simp only [decide_eq_true_eq]
  omega
theorem s_roads {d n : Nat} {u : zM} {Q : Option Value → zM → Prop} (hC : zCore u n) (h : Q (some (.int (nI (dsum (fun s => zct (fun o => zRo (u 129) s o) s) 12)))) u) : zCall (d + 1) false 54 [.ref 9] u Q := by
  refine tX5_roads rfl ?_
  refine zFor (σ := Nat) (Pr := fun i x => zRun d false zcX5_roads 1 Q 4 [(0, .ref 9), (1, .int (nI x)), (2, .int (nI i))] [] u) (fun i x => x = zct (fun i => zRo (u 129) (i / 12) (i % 12)) i ∧ x ≤ i) 144 (fun x hx => ?_) (fun i x hi hx ih => ?_) 0 ⟨rfl, Nat.le_refl _⟩
  · refine tX5_roads_4 rfl ⟨fun _ => ?_, fun q => absurd (by decide) q⟩
    have e := zct_rows (zRo (u 129)) (fun i => zRo (u 129) (i / 12) (i % 12)) (fun a b ha hb => by
      show zRo (u 129) ((a * 12 + b) / 12) ((a * 12 + b) % 12) = _
      rw [show (a * 12 + b) / 12 = a by omega, show (a * 12 + b) % 12 = b by omega]) 12 (Nat.le_refl _)
    rw [dsum_full _ (zRo_sym hC.1) (zRo_0 hC.1)] at e
    have e2 : x = 2 * dsum (fun s => zct (fun o => zRo (u 129) s o) s) 12 := hx.1.trans e
    have e3 : nI x / 2 = nI (dsum (fun s => zct (fun o => zRo (u 129) s o) s) 12) := by
      rw [nI_lit, nI_div (by omega) (by omega)]; congr 1; omega
    rw [e3]; exact h
  · have v : u 10 i = u 129 (11 + 12 * (i / 12) + i % 12) := by
      have := hC.2.2.2.1 (i / 12) (i % 12) (by omega) (by omega)
      rw [show i / 12 * 12 + i % 12 = i by omega] at this
      exact this
    have k := zRo_iff hC.1 (a := i / 12) (b := i % 12) (by omega) (by omega)
    have e0 : nI x + 0 = nI x := Int32.add_zero _
    have st : zct (fun i => zRo (u 129) (i / 12) (i % 12)) (i + 1) = zct (fun i => zRo (u 129) (i / 12) (i % 12)) i + if zRo (u 129) (i / 12) (i % 12) then 1 else 0 := rfl
    refine tX5_roads_4 rfl ?_
    rw [e0, nI_1 i, nI_1 x, nI_clamp (by omega), v]
    refine ⟨fun q => absurd q (by rw [nI_lit, nI_leI (by omega) (by omega)]; omega), fun _ => ⟨vp_in_nI hi (by decide), fun q => ih x ⟨?_, by omega⟩, fun q => ih (x + 1) ⟨?_, by omega⟩⟩⟩
    · rw [st, if_neg (k.mp q), hx.1]; rfl
    · rw [st, if_pos (Decidable.byContradiction fun r => q (k.mpr r)), hx.1]
theorem m_count {n : Nat} {a : Int32} {u : zM} {Q : Option Value → zM → Prop} (hC : zCore u n) (h : ∀ m1, m1 = zUp u 128 0 0 → zRun 59 false zcX12_count 1 Q 9 [(0, .ref 128), (1, .int a), (2, .int (nI (dsum (fun s => zct (fun o => zRo (u 129) s o) s) 12))), (3, .int (nI 12))] [] m1) : zCall 60 false 325 [.ref 128, .int a] u Q := by
  refine tX12_count ?_
  obtain ⟨m1, e1⟩ : ∃ m1, m1 = zUp u 128 0 0 := ⟨_, rfl⟩
  have e2 : m1 129 = u 129 := by rw [e1]; exact zUp_k _ _ (by decide)
  have hR : zRg (m1 129) n := by rw [e2]; exact hC.1
  have h' := h m1 e1
  rw [← e1]
  rw [← e2] at h'
  refine zFor (σ := Nat) (Pr := fun i x => zRun 59 false zcX12_count 1 Q 9 [(0, .ref 128), (1, .int a), (2, .int (nI x)), (3, .int (nI i))] [] m1) (fun i x => x = dsum (fun s => zct (fun o => zRo (m1 129) s o) s) i) 12 (fun x hx => by rw [hx]; exact h') (fun i x hi hx ih => ?_) 0 rfl
  refine tX12_count_9 ⟨fun q => absurd q (by rw [nI_lit, nI_leI (by omega) (by omega)]; omega), fun _ => ?_⟩
  refine zFor (σ := Nat) (Pr := fun j y => zRun 59 false zcX12_count 1 Q 18 [(0, .ref 128), (1, .int a), (2, .int (nI y)), (3, .int (nI i)), (4, .int (nI j))] [] m1) (fun j y => y = x + zct (fun o => zRo (m1 129) i o) j) i (fun y hy => ?_) (fun j y hj hy ih2 => ?_) x rfl
  · refine tX12_count_18 ⟨fun _ => ?_, fun q => absurd (Int32.le_refl _) q⟩
    rw [nI_1 i]
    exact ih y (by rw [hy, hx]; rfl)
  · have a0 : (11 + (12 * nI i)) + nI j = nI (11 + 12 * i + j) := by rw [nI_lit, nI_lit, nI_mul, nI_add, nI_add]
    have k := zRo_iff hR (a := i) (b := j) hi (by omega)
    have e0 : nI y + 0 = nI y := Int32.add_zero _
    have st : zct (fun o => zRo (m1 129) i o) (j + 1) = zct (fun o => zRo (m1 129) i o) j + if zRo (m1 129) i j then 1 else 0 := rfl
    refine tX12_count_18 ?_
    rw [e0, a0, nI_1 j, nI_1 y, nI_clamp (by omega)]
    refine ⟨fun q => absurd q (by rw [nI_leI (by omega) (by omega)]; omega), fun _ => ⟨vp_in_nI (by omega) (by decide), fun q => ih2 y ?_, fun q => ih2 (y + 1) ?_⟩⟩
    · rw [st, if_neg (k.mp q), hy]; rfl
    · rw [st, if_pos (Decidable.byContradiction fun r => q (k.mpr r)), hy]; rfl
