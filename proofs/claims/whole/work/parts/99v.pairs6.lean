theorem full_bit : ∀ n, n < 9 → ∀ t, t < n → (2 ^ n - 1).testBit t = true := by decide +kernel
theorem op_neighbour (a : Int32) : zOkT 144 306 [.int a] [(2, 1)] := by
  intro u ⟨n, hI⟩
  have hR := hI.1.1
  have h8 := hR.1.1
  have p2 := p2_le h8
  have pp := Nat.two_pow_pos n
  have hu : u 4 3 = nI n := hI.1.2.2.1.1.1.trans hR.1.2
  rcases i_cases a n (by omega) with ⟨t, ht, rfl⟩ | ha
  · have pos := nI_pos' (n := t) (by omega)
    have lt : nI t < u 4 3 := by rw [hu]; exact nI_lt ht (by omega)
    have fb := full_bit n (by omega) t ht
    obtain ⟨W, eW⟩ : ∃ W, W = u 129 := ⟨_, rfl⟩
    have U := hI.tu
    rw [← eW] at U hR
    refine Or.inl (tX11_neighbour ⟨pos, lt, ?_⟩)
    refine s_put U hI.2.2.2.2.2.2 (fun w f T => ⟨rfl, ?_⟩)
    have I2 : zInv w n := hI.c124 f (by rw [T 0 (by omega)]; rfl)
    have w9 : w 129 = W := by rw [f 129 (by decide), eW]
    have U2 : zTu w W n := U.congr3 (f 4 (by decide)) (f 5 (by decide)) (f 11 (by decide))
    refine s_partnerOf U2 T ht ⟨_, rfl, fun o => ?_⟩ fb
    have S : zSame w (zUp w 142 0 o) := zSame.o o
    have I3 := S.inv I2
    have w93 : (zUp w 142 0 o) 129 = W := by rw [zUp_k _ _ (by decide), w9]
    refine tX12_neighbour (fun m1 e1 => ?_)
    have m0 : m1 129 0 = nI n := by rw [e1, zUp_k _ _ (by decide), w93]; exact hR.1.2
    rw [m0]
    refine br_f (nI_pos (by omega)) (br_f (n_top h8 ht) ?_)
    rw [e1]
    refine s_laysPaired (lays_ru I3 w93 0) (fun w2 g T2 => ⟨rfl, ?_⟩)
    have R := lays_ru I3 w93 0
    have RU : zRu w2 W n := ⟨hR, by rw [g 129 (by decide)]; exact R.2.1, by rw [g 134 (by decide)]; exact R.2.2⟩
    exact r_partnerOf RU T2 ht ⟨_, rfl, rfl, by rw [g 128 (by decide), zUp_at], pairs_end I3 g⟩ fb
  · refine Or.inr (tTX11_neighbour (Or.inl ⟨by rw [hu]; exact ha, ?_⟩))
    refine tX12_neighbour (fun m1 e1 => ?_)
    have n0 : m1 129 0 = nI n := by rw [e1, zUp_k _ _ (by decide)]; exact hR.1.2
    rw [n0]
    exact ⟨fun _ => zThrI hI e1 (by simp), fun q => ⟨fun _ => zThrI hI e1 (by simp), fun q2 => absurd (i_top2 h8 ha q) q2⟩⟩
