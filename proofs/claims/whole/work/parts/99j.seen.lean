theorem seen_end {u w z : zM} {n : Nat} (hI : zInv u n) (f1 : ∀ c, (c < 19 ∨ 21 < c) → c ≠ 1 → c ≠ 125 → c ≠ 126 → w c = u c) (f2 : ∀ j, j ≠ 1 → w 1 j = u 1 j) (f3 : w 1 1 = 0)
    (g1 : ∀ c, c ≠ 128 → c ≠ 139 → c ≠ 142 → z c = w c) (g2 : ∀ j, j ≠ 0 → j ≠ 10 → j ≠ 11 → j ≠ 12 → (j < 19 ∨ 23 < j) → z 128 j = w 128 j) (g3 : z 128 10 = 0) : zIv z := by
  have w8 : w 128 = u 128 := f1 128 (by decide) (by decide) (by decide) (by decide)
  refine ⟨n, zInv_tape hI (fun c hc h2 h3 => ?_) ?_ ?_ ?_⟩
  · simp only [zCare, Bool.or_eq_true, Bool.and_eq_true, decide_eq_true_eq, beq_iff_eq] at hc
    rw [g1 c (by omega) (by omega) (by omega), f1 c (by omega) (by omega) (by omega) (by omega)]
  · rw [g2 6 (by decide) (by decide) (by decide) (by decide) (by decide), w8]
  · rw [g2 7 (by decide) (by decide) (by decide) (by decide) (by decide), w8]
  · have z1 : z 1 = w 1 := g1 1 (by decide) (by decide) (by decide)
    refine ⟨⟨0, by decide, by rw [z1, f3]; rfl, g3, fun i hi => absurd hi (Nat.not_lt_zero _)⟩, ?_⟩
    rw [z1, f2 2 (by decide), g2 15 (by decide) (by decide) (by decide) (by decide) (by decide), w8]
    exact hI.2.2.1.2
/-- the bytes of the TAPE -/
theorem zTp.bytes {u : zM} (h : zTp u) : ∃ (L : Nat) (B : Nat → Nat), L ≤ 400 ∧ u 1 1 = nI L ∧ u 128 10 = nI L ∧ (∀ i, i < L → B i < 256 ∧ u 2 i = nI (B i)) ∧ ∀ i, i < L → B i < 256 ∧ u 135 i = (nI (B i)).toInt8.toInt32 := by
  obtain ⟨⟨L, hL, t1, t2, t3⟩, t4⟩ := h
  refine ⟨L, fun i => (u 2 i).toNatClampNeg, hL, t1, t2, fun i hi => ?_, fun i hi => ?_⟩
  · obtain ⟨b, hb, e1, e2⟩ := t3 i hi
    dsimp only
    rw [e1, nI_clamp (n := b) (by omega)]
    exact ⟨hb, rfl⟩
  · obtain ⟨b, hb, e1, e2⟩ := t3 i hi
    dsimp only
    rw [e1, nI_clamp (n := b) (by omega)]
    exact ⟨hb, e2⟩
theorem fit_eq {W : Nat → Int32} {K n L : Nat} {B : Nat → Nat} (h8 : n ≤ 8) (ok : hOk B n L = true) (c : Nat) : fitV W K n (hY B (L / 2)) (hN B (L / 2)) c = fr B (gvV W K n c) (L / 2) := by
  have o := (Bool.and_eq_true_iff.mp ok).2
  have f := fr_ok (B := B) (g := gvV W K n c) (L / 2) (fun i hi => by have := hG_at hi o; omega)
  unfold fitV
  cases z : fr B (gvV W K n c) (L / 2)
  · rw [z] at f
    exact decide_eq_false (fun y => absurd (f.mpr y) (by decide))
  · rw [z] at f
    exact decide_eq_true (f.mp rfl)
/-- what both sides do before they count: the class -/
theorem d_heard {n L : Nat} {B : Nat → Nat} {u : zM} {Q : Int32 → zM → Prop} (hI : zInv u n) (hL : u 1 1 = nI L) (h4 : L ≤ 400) (hB : ∀ i, i < L → B i < 256 ∧ u 2 i = nI (B i))
    (h : ∀ w, (∀ c, (c < 19 ∨ 21 < c) → c ≠ 1 → c ≠ 125 → c ≠ 126 → w c = u c) → (∀ j, j ≠ 1 → w 1 j = u 1 j) → w 1 1 = 0 → (hOk B n L = true → w 125 1 = hY B (L / 2) ∧ w 125 2 = hN B (L / 2)) → Q (if hOk B n L = true then 1 else 0) w) : zCI 59 103 [.ref 125, .ref 1, .int (u 4 3)] u Q := by
  have hu : u 4 3 = nI n := hI.1.2.2.1.1.1.trans hI.1.1.1.2
  exact s_hear hL h4 hB hu hI.1.1.1.1 (fun w f1 f2 f3 f4 f5 => ⟨_, rfl, h w (fun c a b x y => f1 c x b) f3 f4 f5⟩)
theorem d_looked {n L K : Nat} {B : Nat → Nat} {u w1 : zM} {Q : zM → Prop} (hI : zInv u n) (hK : K ≤ 99) (hK5 : u 129 5 = nI K) (ok : hOk B n L = true) (f1 : ∀ c, (c < 19 ∨ 21 < c) → c ≠ 1 → c ≠ 125 → c ≠ 126 → w1 c = u c) (f2 : ∀ j, j ≠ 1 → w1 1 j = u 1 j) (f3 : w1 1 1 = 0) (f4 : w1 125 1 = hY B (L / 2) ∧ w1 125 2 = hN B (L / 2))
    (h : ∀ w, (∀ c, (c < 19 ∨ 21 < c) → c ≠ 1 → c ≠ 125 → c ≠ 126 → w c = u c) → (∀ j, j ≠ 1 → w 1 j = u 1 j) → w 1 1 = 0 → w 125 3 = nI (zct (fun c => fr B (gvV (u 129) K n c) (L / 2)) 201) → w 125 4 = loV (fun c => fr B (gvV (u 129) K n c) (L / 2)) 201 → (∀ s, s < 8 → w 126 s = nI (zct (fun c => fr B (gvV (u 129) K n c) (L / 2) && tb (gvV (u 129) K n c) s) 201)) → Q w) : zCV 59 104 [.ref 125, .ref 3] w1 Q := by
  have e9 : w1 129 = u 129 := f1 129 (by decide) (by decide) (by decide) (by decide)
  have eF : fitV (u 129) K n (hY B (L / 2)) (hN B (L / 2)) = fun c => fr B (gvV (u 129) K n c) (L / 2) := funext (fit_eq hI.1.1.1.1 ok)
  refine s_look (n := n) (K := K) (Y := hY B (L / 2)) (N := hN B (L / 2)) (by rw [e9]; exact hI.1.1) ?_ ?_ hK (by rw [e9]; exact hK5) f4.1 f4.2 (fun w g1 g2 g3 g4 => ⟨rfl, h w (fun c a b x y => (g1 c a x y).trans (f1 c a b x y)) (fun j hj => by rw [g1 1 (by decide) (by decide) (by decide)]; exact f2 j hj) (by rw [g1 1 (by decide) (by decide) (by decide)]; exact f3) ?_ ?_ (fun s hs => ?_)⟩)
  · rw [e9]; exact (zDyV.of hI.1.2.2.1).congr (fun c a b => f1 c (by omega) (by omega) (by omega) (by omega))
  · rw [e9]; exact hI.1.2.2.2.congr (f1 10 (by decide) (by decide) (by decide) (by decide)) (f1 11 (by decide) (by decide) (by decide) (by decide))
  · rw [g2, e9, eF]
  · rw [g3, e9, eF]
  · rw [g4 s hs, e9, eF]
/-- what both sides do before they count: the reference -/
theorem r_heard {n L : Nat} {B : Nat → Nat} {u w m4 : zM} {Q : Int32 → zM → Prop} (hI : zInv u n) (h4 : L ≤ 400) (hB : ∀ i, i < L → B i < 256 ∧ u 135 i = (nI (B i)).toInt8.toInt32) (f1 : ∀ c, (c < 19 ∨ 21 < c) → c ≠ 1 → c ≠ 125 → c ≠ 126 → w c = u c)
    (k1 : ∀ c, c ≠ 128 → c ≠ 142 → m4 c = w c) (k12 : m4 128 12 = nI L) (h : Q (if hOk B n L = true then 1 else 0) m4) : zCI 59 296 [.ref 128] m4 Q := by
  have e9 : m4 129 = u 129 := (k1 129 (by decide) (by decide)).trans (f1 129 (by decide) (by decide) (by decide) (by decide))
  have e35 : m4 135 = u 135 := (k1 135 (by decide) (by decide)).trans (f1 135 (by decide) (by decide) (by decide) (by decide))
  exact s_isSeen (n := n) (B := B) k12 h4 (by rw [e35]; exact hB) (by rw [e9]; exact hI.1.1.1.2) hI.1.1.1.1 ⟨_, rfl, h⟩
theorem r_laid {n L K : Nat} {B : Nat → Nat} {u w m4 : zM} {Q : zM → Prop} (hI : zInv u n) (hK : K ≤ 99) (hK5 : u 129 5 = nI K) (hB : ∀ i, i < L → B i < 256 ∧ u 135 i = (nI (B i)).toInt8.toInt32) (f1 : ∀ c, (c < 19 ∨ 21 < c) → c ≠ 1 → c ≠ 125 → c ≠ 126 → w c = u c) (f2 : ∀ j, j ≠ 1 → w 1 j = u 1 j) (f3 : w 1 1 = 0)
    (k1 : ∀ c, c ≠ 128 → c ≠ 142 → m4 c = w c) (k2 : ∀ j, j ≠ 0 → j ≠ 10 → j ≠ 11 → j ≠ 12 → m4 128 j = w 128 j) (k0 : m4 128 0 = 0) (k10 : m4 128 10 = 0) (k12 : m4 128 12 = nI L)
    (h : ∀ z, zIv z → z 128 0 = 0 → z 128 12 = nI L → z 129 = u 129 → (∀ i, i < L → B i < 256 ∧ z 135 i = (nI (B i)).toInt8.toInt32) → (∀ i, i < 201 → z 139 i = gvV (u 129) K n i) → Q z) : zCV 59 297 [.ref 128] m4 Q := by
  have cu : ∀ c, (c < 19 ∨ 21 < c) → c ≠ 1 → c ≠ 125 → c ≠ 126 → c ≠ 128 → c ≠ 142 → m4 c = u c := fun c a b x y p q => (k1 c p q).trans (f1 c a b x y)
  have e9 : m4 129 = u 129 := cu 129 (by decide) (by decide) (by decide) (by decide) (by decide) (by decide)
  refine s_laysGiven (n := n) (K := K) (by rw [e9]; exact hI.1.1) (by rw [e9, cu 134 (by decide) (by decide) (by decide) (by decide) (by decide) (by decide)]; exact hI.1.2.1) hK (by rw [e9]; exact hK5) (fun z g1 g2 g3 => ⟨rfl, ?_⟩)
  have z9 : z 129 = u 129 := (g1 129 (by decide) (by decide)).trans e9
  refine h z ?_ ?_ ?_ z9 ?_ ?_
  · exact seen_end hI f1 f2 f3 (fun c a b x => (g1 c a b).trans (k1 c a x)) (fun j a b x y v => (g2 j v).trans (k2 j a b x y)) (by rw [g2 10 (by decide)]; exact k10)
  · rw [g2 0 (by decide)]; exact k0
  · rw [g2 12 (by decide)]; exact k12
  · rw [g1 135 (by decide) (by decide), cu 135 (by decide) (by decide) (by decide) (by decide) (by decide) (by decide)]; exact hB
  · intro i hi
    rw [g3 i hi, e9]
theorem nI_dn (k : Nat) (h : k ≤ 200) : nI (200 - k) + -1 = nI (201 - (k + 1)) - 1 := by
  have e : 201 - (k + 1) = 200 - k := by omega
  rw [e]
  exact (Int32.sub_eq_add_neg _ _).symm
theorem op_seen (a : Int32) : zOkT 141 299 [.int a] [(1, 1)] := by
  intro u ⟨n, hI⟩
  have h8 := hI.1.1.1.1
  obtain ⟨K, hK, hK5⟩ := hI.1.1.2.2.2.2.2.1
  obtain ⟨L, B, h4, t1, t2, b1, b2⟩ := hI.2.2.1.bytes
  by_cases ok : hOk B n L = true
  · refine Or.inl (tX11_seen ?_)
    refine d_heard hI t1 h4 b1 (fun w1 f1 f2 f3 f4 => ?_)
    rw [if_pos ok]
    refine ⟨fun _ => ?_, fun z => absurd z (by decide)⟩
    refine d_looked hI hK hK5 ok f1 f2 f3 (f4 ok) (fun w g1 g2 g3 c3 c4 _ => ?_)
    obtain ⟨F, eF⟩ : ∃ F, F = fun c => fr B (gvV (u 129) K n c) (L / 2) := ⟨_, rfl⟩
    rw [← eF] at c3 c4
    have ref : ∀ o : Int32, zCall 60 false 299 [.ref 128, .int a] (zUp w 142 0 o) fun v2 z => v2 = some (.int (if a = 0 then nI (zct F 201) else loV F 201)) ∧ z 128 0 = 0 ∧ zIv z := by
      intro o
      refine tX12_seen (fun m1 e1 m2 e2 m3 e3 m4 e4 => ?_)
      have w10 : w 128 10 = nI L := by rw [g1 128 (by decide) (by decide) (by decide) (by decide)]; exact t2
      have k1 : ∀ c, c ≠ 128 → c ≠ 142 → m4 c = w c := fun c x y => by rw [e4, zUp_k _ _ x, e3, zUp_k _ _ x, e2, zUp_k _ _ x, e1, zUp_k _ _ x, zUp_k _ _ y]
      have k2 : ∀ j, j ≠ 0 → j ≠ 10 → j ≠ 11 → j ≠ 12 → m4 128 j = w 128 j := fun j x y p q => by rw [e4, zUp_j _ _ p, e3, zUp_j _ _ y, e2, zUp_j _ _ q, e1, zUp_j _ _ x, zUp_k _ _ (by decide)]
      have k0 : m4 128 0 = 0 := by rw [e4, zUp_j _ _ (by decide), e3, zUp_j _ _ (by decide), e2, zUp_j _ _ (by decide), e1, zUp_at]
      have k10 : m4 128 10 = 0 := by rw [e4, zUp_j _ _ (by decide), e3, zUp_at]
      have k12 : m4 128 12 = nI L := by rw [e4, zUp_j _ _ (by decide), e3, zUp_j _ _ (by decide), e2, zUp_at, e1, zUp_j _ _ (by decide), zUp_k _ _ (by decide)]; exact w10
      refine r_heard (B := B) (L := L) hI h4 b2 g1 k1 k12 ?_
      rw [if_pos ok]
      refine ⟨fun _ => ?_, fun z => absurd z (by decide)⟩
      refine r_laid (B := B) (L := L) hI hK hK5 b2 g1 g2 g3 k1 k2 k0 k10 k12 (fun z i1 i2 i3 i4 i5 i6 => ?_)
      refine zFor (σ := Int32 × Int32) (Pr := fun k x => zRun 59 false zcX12_seen 1 _ 39 [(0, .ref 128), (1, .int a), (2, .int x.1), (3, .int x.2), (4, .int (nI (201 - k) - 1))] [] z) (fun k x => x = (nI (tkV F k), lfV F k)) 201 (fun x hx => ?_) (fun k x hk hx ih => ?_) (0, -1) rfl
      · refine tX12_seen_39 (br_t (by decide) ?_)
        rw [hx]
        dsimp only
        rw [tk_all, lf_all]
        exact ⟨fun q => ⟨by rw [if_pos q], i2, i1⟩, fun q => ⟨by rw [if_neg q], i2, i1⟩⟩
      · have ek : nI (201 - k) - 1 = nI (200 - k) := by rw [nI_lit, nI_sub (by show 1 ≤ 201 - k; omega)]; congr 1; show 201 - k - 1 = 200 - k; omega
        have dn := nI_dn k (by omega)
        have le := tk_le (F := F) k
        rw [ek]
        refine tX12_seen_39 (br_f (nI_pos (by omega)) ?_)
        refine s_fitsR (n := n) (L := L) (c := 200 - k) (B := B) rfl (by omega) (i6 _ (by omega)) i3 h4 i5 h8 ok ⟨_, rfl, ?_⟩
        have eb : fr B (gvV (u 129) K n (200 - k)) (L / 2) = F (200 - k) := by rw [eF]
        rw [eb, dn]
        have l1 : tkV F (k + 1) = tkV F k + (if F (200 - k) then 1 else 0) := rfl
        have l2 : lfV F (k + 1) = if F (200 - k) = true then nI (200 - k) else lfV F k := rfl
        have hx1 : x.1 = nI (tkV F k) := by rw [hx]
        have hx2 : x.2 = lfV F k := by rw [hx]
        cases q : F (200 - k)
        · refine ⟨fun z => absurd rfl z, fun _ => ih (x.1, x.2) ?_⟩
          rw [l1, l2, q, hx1, hx2]
          rfl
        · refine ⟨fun _ => ih (x.1 + 1, nI (200 - k)) ?_, fun z => absurd z (by decide)⟩
          rw [l1, l2, q, hx1, nI_1]
          rfl
    exact ⟨fun q o => by have := ref o; rw [if_pos q, ← c3] at this; exact this, fun q o => by have := ref o; rw [if_neg q, ← c4] at this; exact this⟩
  · refine Or.inr (tTX11_seen ?_)
    refine d_heard hI t1 h4 b1 (fun w f1 f2 f3 f4 => ?_)
    rw [if_neg ok]
    refine ⟨fun z => absurd rfl z, fun _ => ?_⟩
    refine tX12_seen (fun m1 e1 m2 e2 m3 e3 m4 e4 => ?_)
    have w10 : w 128 10 = nI L := by rw [f1 128 (by decide) (by decide) (by decide) (by decide)]; exact t2
    have k1 : ∀ c, c ≠ 128 → m4 c = w c := fun c x => by rw [e4, zUp_k _ _ x, e3, zUp_k _ _ x, e2, zUp_k _ _ x, e1, zUp_k _ _ x]
    have k2 : ∀ j, j ≠ 0 → j ≠ 10 → j ≠ 11 → j ≠ 12 → m4 128 j = w 128 j := fun j x y p q => by rw [e4, zUp_j _ _ p, e3, zUp_j _ _ y, e2, zUp_j _ _ q, e1, zUp_j _ _ x]
    have k10 : m4 128 10 = 0 := by rw [e4, zUp_j _ _ (by decide), e3, zUp_at]
    have k12 : m4 128 12 = nI L := by rw [e4, zUp_j _ _ (by decide), e3, zUp_j _ _ (by decide), e2, zUp_at, e1, zUp_j _ _ (by decide)]; exact w10
    refine r_heard (B := B) (L := L) hI h4 b2 f1 (fun c a _ => k1 c a) k12 ?_
    rw [if_neg ok]
    refine ⟨fun z => absurd rfl z, fun _ => ⟨?_, 1, 1, rfl, by simp, zUp_at _ _ _ _⟩⟩
    exact seen_end hI f1 f2 f3 (fun c a _ _ => (zUp_k _ _ a).trans (k1 c a)) (fun j a b x y _ => (zUp_j _ _ a).trans (k2 j a b x y)) ((zUp_j _ _ (by decide)).trans k10)
