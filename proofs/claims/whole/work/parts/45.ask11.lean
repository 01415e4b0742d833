theorem s_fill {d k0 n0 : Nat} {a1 : Int32} {u : zM} {Q : Option Value → zM → Prop} (hk0 : zShapes[k0]? = some (.inr (0, n0))) (hn0 : n0 < 100000) (h : ∀ w : zM, (∀ c, c ≠ k0 → w c = u c) → (∀ s, s < n0 → w k0 s = a1) → Q none w) : zCall (d + 1) false 328 [.ref k0, .int a1] u Q := by
  refine tJ7_fill_53178 hk0 ?_
  refine zFor (σ := zM) (Pr := fun i w => zRun d false zcJ7_fill_53178 0 Q 5 [(0, .ref k0), (1, .int a1), (2, .int (nI i)), (3, .int (nI n0))] [] w) (fun i w => (∀ c, c ≠ k0 → w c = u c) ∧ ∀ s, s < i → w k0 s = a1) n0 (fun w hw => ?_) (fun i w hi hw ih => ?_) u ⟨fun _ _ => rfl, fun s hs => absurd hs (Nat.not_lt_zero _)⟩
  · exact tJ7_fill_53178_5 hk0 ⟨fun _ => h w hw.1 hw.2, fun q => absurd (Int32.le_refl _) q⟩
  · refine tJ7_fill_53178_5 hk0 ⟨fun q => absurd q (by rw [nI_leI (by omega) (by omega)]; omega), fun _ => ⟨vp_in_nI hi (by omega), ?_⟩⟩
    rw [nI_1 i, nI_clamp (by omega)]
    refine ih _ ⟨fun c hc => (zUp_k _ _ hc).trans (hw.1 c hc), fun s hs => ?_⟩
    by_cases e : s = i
    · rw [e]; exact zUp_at _ _ _ _
    · rw [zUp_j _ _ e]; exact hw.2 s (by omega)
def guB (f : Nat → Int32) : Nat → Nat
  | 0 => 0
  | k + 1 => if f (guB f k) < f (k + 1) then k + 1 else guB f k
theorem guB_le (f : Nat → Int32) : ∀ k, guB f k ≤ k
  | 0 => Nat.le_refl _
  | k + 1 => by
    have := guB_le f k
    unfold guB
    split <;> omega
theorem guB_eq {f g : Nat → Int32} : ∀ k, (∀ s, s ≤ k → f s = g s) → guB f k = guB g k
  | 0, _ => rfl
  | k + 1, h => by
    unfold guB
    rw [guB_eq k (fun s hs => h s (by omega)), h (k + 1) (Nat.le_refl _), h (guB g k) (by have := guB_le g k; omega)]
def guC (W : Nat → Int32) (n : Nat) : Nat → Nat → Int32
  | 0 => fun _ => 0
  | i + 1 => upd (guC W n i) (guB (fun s => W (163 + 9 * s + 6) - 2 * guC W n i s) (n - 1)) (guC W n i (guB (fun s => W (163 + 9 * s + 6) - 2 * guC W n i s) (n - 1)) + 1)
theorem s_mostOwed {d n : Nat} {f : Nat → Int32} {u : zM} {Q : Option Value → zM → Prop} (hu : u 4 3 = nI n) (h8 : n ≤ 8) (h0 : 0 < n) (hf : ∀ s, s < n → u 5 (48 + s) - 2 * u 127 s = f s) (h : Q (some (.int (nI (guB f (n - 1))))) u) : zCall (d + 2) false 177 [.ref 0] u Q := by
  refine tX11_mostOwed ?_
  refine zFor (σ := Int32 × Int32) (Pr := fun i x => zRun (d + 1) false zcX11_mostOwed 1 Q 6 [(0, .ref 0), (1, .int x.1), (2, .int x.2), (3, .int (nI i))] [] u) (fun i x => (i = 0 ∧ x = (-1, 0)) ∨ ∃ k, i = k + 1 ∧ x = (nI (guB f k), f (guB f k))) n (fun x hx => ?_) (fun i x hi hx ih => ?_) (-1, 0) (Or.inl ⟨rfl, rfl⟩)
  · refine tX11_mostOwed_6 ⟨fun _ => ?_, fun q => absurd ?_ q⟩
    · rcases hx with ⟨e, _⟩ | ⟨k, e, ex⟩
      · omega
      · rw [ex]; have : n - 1 = k := by omega
        rw [← this]; exact h
    · rw [hu]; exact Int32.le_refl _
  · have a0 : ((6 : Int32) * 8) + nI i = nI (48 + i) := by rw [show ((6 : Int32) * 8) = nI 48 from rfl, nI_add]
    refine tX11_mostOwed_6 ?_
    rw [hu, a0, nI_clamp (n := 48 + i) (by omega), nI_clamp (n := i) (by omega), hf i hi, nI_1 i]
    refine ⟨fun q => absurd q (by rw [nI_leI (by omega) (by omega)]; omega), fun _ => ⟨fun q => absurd q (by rw [nI_lit, nI_leI (by omega) (by omega)]; omega), fun _ => ⟨vp_in_nI (by omega) (by decide), vp_in_nI (by omega) (by decide), fun q => ?_, fun q => ⟨fun r => ?_, fun r => ?_⟩⟩⟩⟩
    · rcases hx with ⟨e, _⟩ | ⟨k, e, ex⟩
      · subst e
        exact ih (nI 0, f 0) (Or.inr ⟨0, rfl, rfl⟩)
      · have := guB_le f k
        rw [ex] at q
        exact absurd q (nI_m1 (by omega))
    · rcases hx with ⟨e, ex⟩ | ⟨k, e, ex⟩
      · rw [ex] at q; exact absurd rfl q
      · refine ih x (Or.inr ⟨i, rfl, ?_⟩)
        rw [ex] at r ⊢
        subst e
        conv => rhs; unfold guB
        rw [if_neg (Int32.not_lt.mpr r)]
    · rcases hx with ⟨e, ex⟩ | ⟨k, e, ex⟩
      · rw [ex] at q; exact absurd rfl q
      · refine ih (nI i, f i) (Or.inr ⟨i, rfl, ?_⟩)
        rw [ex] at r
        subst e
        conv => rhs; unfold guB
        rw [if_pos (Int32.not_le.mp r)]
theorem m_gutter {n j c : Nat} {u : zM} (hC : zCore u n) (hj : j < n) (hc : c ≤ 99) (o : Int32) : zCall 60 false 307 [.ref 128, .int (nI j), .int (nI c)] (zUp u 142 0 o) fun v2 w2 => v2 = some (.int (guC (u 129) n c j)) ∧ w2 128 0 = 0 ∧ zSame u w2 := by
  have h8 := hC.1.1.1
  have hn := hC.1.1.2
  refine tX12_gutter (fun m1 e1 => ?_)
  have e2 : m1 129 = u 129 := by rw [e1, zUp_k _ _ (by decide), zUp_k _ _ (by decide)]
  have e4 : nI n - 1 = nI (n - 1) := nI_sub (b := 1) (by omega)
  have f1 : m1 128 0 = 0 := by rw [e1]; exact zUp_at _ _ _ _
  have f2 : zSame u m1 := by rw [e1]; exact (zSame.o o).tr (zSame.m _ (by decide))
  have fin : ∀ w : zM, (∀ k, k ≠ 141 → w k = m1 k) → w 128 0 = 0 ∧ zSame u w := fun w h => ⟨by rw [h 128 (by decide)]; exact f1, f2.tr (zSame.row (k := 141) rfl (by decide) (by decide) h)⟩
  rw [e2, hn, e4]
  refine ⟨fun q => absurd q (nI_pos (by omega)), fun _ => ⟨fun q => absurd q (by rw [nI_ltI (by omega) (by omega)]; omega), fun _ => ⟨fun q => absurd q (nI_pos (by omega)), fun _ => ⟨fun q => absurd q (by rw [nI_lit, nI_ltI (by omega) (by omega)]; omega), fun _ => ?_⟩⟩⟩⟩
  refine zFor (σ := zM) (Pr := fun i w => zRun 59 false zcX12_gutter 1 _ 45 [(0, .ref 128), (1, .int (nI j)), (2, .int (nI c)), (3, .int (nI i))] [] w) (fun i w => (∀ k, k ≠ 141 → w k = m1 k) ∧ ∀ s, s < i → w 141 s = 0) 8 (fun w hw => ?_) (fun i w hi hw ih => ?_) m1 ⟨fun _ _ => rfl, fun s hs => absurd hs (Nat.not_lt_zero _)⟩
  · refine tX12_gutter_45 ⟨fun _ => ?_, fun q => absurd (by decide) q⟩
    refine zFor (σ := zM) (Pr := fun i w => zRun 59 false zcX12_gutter 1 _ 66 [(0, .ref 128), (1, .int (nI j)), (2, .int (nI c)), (3, .int (nI i))] [] w) (fun i w => (∀ k, k ≠ 141 → w k = m1 k) ∧ ∀ s, s < 8 → w 141 s = guC (u 129) n i s) c (fun w hw => ?_) (fun i w hi hw ih => ?_) w hw
    · refine tX12_gutter_66 ⟨fun _ => ⟨vp_in_nI (by omega) (by decide), ?_⟩, fun q => absurd (Int32.le_refl _) q⟩
      rw [nI_clamp (by omega), hw.2 j (by omega)]
      exact ⟨rfl, fin w hw.1⟩
    · refine tX12_gutter_66 ⟨fun q => absurd q (by rw [nI_leI (by omega) (by omega)]; omega), fun _ => ?_⟩
      have w9 : w 129 = u 129 := (hw.1 129 (by decide)).trans e2
      obtain ⟨f, hf⟩ : ∃ f : Nat → Int32, f = fun s => u 129 (163 + 9 * s + 6) - 2 * guC (u 129) n i s := ⟨_, rfl⟩
      refine zFor (σ := Unit) (Pr := fun k _ => zRun 59 false zcX12_gutter 1 _ 77 [(0, .ref 128), (1, .int (nI j)), (2, .int (nI c)), (3, .int (nI i)), (4, .int (nI (guB f k))), (5, .int (nI (k + 1)))] [] w) (fun _ _ => True) (n - 1) (fun _ _ => ?_) (fun k _ hk _ ih2 => ?_) () trivial
      · have gl := guB_le f (n - 1)
        refine tX12_gutter_77 ⟨fun _ => ⟨vp_in_nI (by omega) (by decide), vp_in_nI (by omega) (by decide), ?_⟩, fun q => absurd ?_ q⟩
        · rw [nI_1 i, nI_clamp (by omega)]
          refine ih _ ⟨fun k hk => (zUp_k _ _ hk).trans (hw.1 k hk), fun s hs => ?_⟩
          have e : guC (u 129) n (i + 1) = upd (guC (u 129) n i) (guB f (n - 1)) (guC (u 129) n i (guB f (n - 1)) + 1) := by rw [hf]; rfl
          rw [e, hw.2 _ (by omega)]
          by_cases q : s = guB f (n - 1)
          · rw [q, zUp_at, upd_at]
          · rw [zUp_j _ _ q, upd_ne _ _ q]; exact hw.2 s hs
        · rw [w9, hn, nI_leI (by omega) (by omega)]; omega
      · have gl := guB_le f k
        have a0 : (163 + (9 * nI (k + 1))) + 6 = nI (163 + 9 * (k + 1) + 6) := by rw [nI_lit, nI_lit, nI_lit, nI_mul, nI_add, nI_add]
        have b0 : (163 + (9 * nI (guB f k))) + 6 = nI (163 + 9 * guB f k + 6) := by rw [nI_lit, nI_lit, nI_lit, nI_mul, nI_add, nI_add]
        have v1 : u 129 (163 + 9 * (k + 1) + 6) - 2 * guC (u 129) n i (k + 1) = f (k + 1) := by rw [hf]
        have v2 : u 129 (163 + 9 * guB f k + 6) - 2 * guC (u 129) n i (guB f k) = f (guB f k) := by rw [hf]
        refine tX12_gutter_77 ?_
        rw [w9, hn, a0, b0, nI_1 (k + 1), nI_clamp (n := 163 + 9 * (k + 1) + 6) (by omega), nI_clamp (n := 163 + 9 * guB f k + 6) (by omega), nI_clamp (n := k + 1) (by omega), nI_clamp (n := guB f k) (by omega), hw.2 (k + 1) (by omega), hw.2 (guB f k) (by omega), v1, v2]
        refine ⟨fun q => absurd q (by rw [nI_leI (by omega) (by omega)]; omega), fun _ => ⟨vp_in_nI (by omega) (by decide), vp_in_nI (by omega) (by decide), vp_in_nI (by omega) (by decide), vp_in_nI (by omega) (by decide), fun q => ?_, fun q => ?_⟩⟩
        · have := ih2 () trivial
          unfold guB at this
          rw [if_neg (Int32.not_lt.mpr q)] at this
          exact this
        · have := ih2 () trivial
          unfold guB at this
          rw [if_pos (Int32.not_le.mp q)] at this
          exact this
  · refine tX12_gutter_45 ⟨fun q => absurd q (by rw [nI_lit, nI_leI (by omega) (by omega)]; omega), fun _ => ⟨vp_in_nI (by omega) (by decide), ?_⟩⟩
    rw [nI_1 i, nI_clamp (by omega)]
    refine ih _ ⟨fun k hk => (zUp_k _ _ hk).trans (hw.1 k hk), fun s hs => ?_⟩
    by_cases e : s = i
    · rw [e]; exact zUp_at _ _ _ _
    · rw [zUp_j _ _ e]; exact hw.2 s (by omega)
