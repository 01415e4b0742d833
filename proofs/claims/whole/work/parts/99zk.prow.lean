/-! what a line of THE SUBURB that is right keeps -/
theorem zRg.num2 {W : Nat → Int32} {n j : Nat} {v : Int32} (h : zRg W n) (hj : j = 3 ∨ j = 4 ∨ j = 5 ∨ j = 6 ∨ j = 7 ∨ j = 8) (hv : ∃ t, t ≤ [0, 0, 0, 9999, 200, 99, 20, 100, 100].getD j 0 ∧ v = nI t) : zRg (upd W j v) n := by
  obtain ⟨g0, g1, g2, g3, g4, g5, g6, g7, g8, g9, ga, gb, gc, gd, ge, gf⟩ := h
  have e : ∀ k, k ≠ j → upd W j v k = W k := fun k a => upd_ne _ _ a
  have big : ∀ k, 9 ≤ k → upd W j v k = W k := fun k a => e k (by omega)
  have one : ∀ k b, [0, 0, 0, 9999, 200, 99, 20, 100, 100].getD k 0 = b → (∃ t, t ≤ b ∧ W k = nI t) → ∃ t, t ≤ b ∧ upd W j v k = nI t := by
    intro k b eb hk
    by_cases q : k = j
    · subst q; rw [upd_at, ← eb]; exact hv
    · rw [e k q]; exact hk
  refine ⟨by rw [e 0 (by omega)]; exact g0, by rw [e 1 (by omega)]; exact g1, by rw [e 2 (by omega)]; exact g2, one 3 _ rfl g3, one 4 _ rfl g4, one 5 _ rfl g5, one 6 _ rfl g6, one 7 _ rfl g7, one 8 _ rfl g8, fun a b ha hb => ?_, fun a b ha hb => ?_, fun a ha => ?_, fun p hp => ?_, fun p q hp hq => ?_, fun t w ht hx h7 => ?_, fun t ht => ?_⟩
  · rw [big _ (by omega)]; exact g9 a b ha hb
  · rw [big _ (by omega), big _ (by omega)]; exact ga a b ha hb
  · rw [big _ (by omega)]; exact gb a ha
  · rw [big _ (by omega)]; exact gc p hp
  · rw [big _ (by omega), big _ (by omega)]; exact gd p q hp hq
  · rw [big _ (by omega)]; exact ge t w ht hx h7
  · rw [big _ (by omega)]; exact gf t ht
theorem zRg.road {W : Nat → Int32} {n a b l : Nat} (h : zRg W n) (ha : a < 12) (hb : b < 12) (ne : a ≠ b) (hl : l ≤ 9) : zRg (rdW W a b (nI l)) n := by
  obtain ⟨g0, g1, g2, g3, g4, g5, g6, g7, g8, g9, ga, gb, gc, gd, ge, gf⟩ := h
  have lo : ∀ k, k < 11 → rdW W a b (nI l) k = W k := fun k x => by unfold rdW; rw [upd_ne _ _ (by omega), upd_ne _ _ (by omega)]
  have hi : ∀ k, 155 ≤ k → rdW W a b (nI l) k = W k := fun k x => by unfold rdW; rw [upd_ne _ _ (by omega), upd_ne _ _ (by omega)]
  have rd : ∀ p q, p < 12 → q < 12 → rdW W a b (nI l) (11 + 12 * p + q) = if (p = b ∧ q = a) ∨ (p = a ∧ q = b) then nI l else W (11 + 12 * p + q) := by
    intro p q hp hq
    unfold rdW
    by_cases z1 : p = b ∧ q = a
    · rw [if_pos (Or.inl z1), z1.1, z1.2, upd_at]
    · rw [upd_ne _ _ (by omega)]
      by_cases z2 : p = a ∧ q = b
      · rw [if_pos (Or.inr z2), z2.1, z2.2, upd_at]
      · rw [if_neg (by omega), upd_ne _ _ (by omega)]
  refine ⟨by rw [lo 0 (by omega)]; exact g0, by rw [lo 1 (by omega)]; exact g1, by rw [lo 2 (by omega)]; exact g2, by rw [lo 3 (by omega)]; exact g3, by rw [lo 4 (by omega)]; exact g4, by rw [lo 5 (by omega)]; exact g5, by rw [lo 6 (by omega)]; exact g6, by rw [lo 7 (by omega)]; exact g7, by rw [lo 8 (by omega)]; exact g8, fun p q hp hq => ?_, fun p q hp hq => ?_, fun p hp => ?_, fun p hp => ?_, fun p q hp hq => ?_, fun t w ht hx h7 => ?_, fun t ht => ?_⟩
  · rw [rd p q hp hq]
    split
    · exact ⟨l, hl, rfl⟩
    · exact g9 p q hp hq
  · rw [rd p q hp hq, rd q p hq hp]
    by_cases z : (p = b ∧ q = a) ∨ (p = a ∧ q = b)
    · rw [if_pos z, if_pos (by omega)]
    · rw [if_neg z, if_neg (by omega)]; exact ga p q hp hq
  · rw [rd p p hp hp, if_neg (by omega)]; exact gb p hp
  · rw [hi _ (by omega)]; exact gc p hp
  · have h8 := g0.1
    rw [hi _ (by omega), hi _ (by omega)]; exact gd p q hp hq
  · rw [hi _ (by omega)]; exact ge t w ht hx h7
  · rw [hi _ (by omega)]; exact gf t ht
/-- the values of a new STEP are in their bounds -/
def vOk (v : Nat → Int32) : Prop := (∀ w, w < 9 → w ≠ 7 → ∃ c, c ≤ zVb w ∧ v w = nI c) ∧ (v 7 = -1 ∨ ∃ c, c ≤ 6 ∧ v 7 = nI c)
theorem zRg.step {W : Nat → Int32} {n : Nat} {v : Nat → Int32} (h : zRg W n) (hn : n < 8) (hv : vOk v) : zRg (stW W n v) (n + 1) := by
  obtain ⟨g0, g1, g2, g3, g4, g5, g6, g7, g8, g9, ga, gb, gc, gd, ge, gf⟩ := h
  have lo : ∀ k, k ≠ 0 → k < 155 → stW W n v k = W k := fun k x y => by unfold stW; rw [if_neg x, if_neg (by omega), if_neg (by omega)]
  have pl : ∀ p, p < 8 → stW W n v (155 + p) = if p = n then nI n else W (155 + p) := fun p hp => by
    unfold stW
    rw [if_neg (by omega)]
    by_cases z : p = n
    · rw [if_pos (by omega), if_pos z]
    · rw [if_neg (by omega), if_neg (by omega), if_neg z]
  have vl : ∀ s w, s < 8 → w < 9 → stW W n v (163 + 9 * s + w) = if s = n then v w else W (163 + 9 * s + w) := fun s w hs hw => by
    unfold stW
    rw [if_neg (by omega), if_neg (by omega)]
    by_cases z : s = n
    · rw [if_pos (by omega), if_pos z, show 163 + 9 * s + w - (163 + 9 * n) = w by omega]
    · rw [if_neg (by omega), if_neg z]
  refine ⟨⟨by omega, by unfold stW; rw [if_pos rfl]⟩, by rw [lo 1 (by omega) (by omega)]; exact g1, by rw [lo 2 (by omega) (by omega)]; exact g2, by rw [lo 3 (by omega) (by omega)]; exact g3, by rw [lo 4 (by omega) (by omega)]; exact g4, by rw [lo 5 (by omega) (by omega)]; exact g5, by rw [lo 6 (by omega) (by omega)]; exact g6, by rw [lo 7 (by omega) (by omega)]; exact g7, by rw [lo 8 (by omega) (by omega)]; exact g8, fun p q hp hq => ?_, fun p q hp hq => ?_, fun p hp => ?_, fun p hp => ?_, fun p q hp hq => ?_, fun t w ht hx h7 => ?_, fun t ht => ?_⟩
  · rw [lo _ (by omega) (by omega)]; exact g9 p q hp hq
  · rw [lo _ (by omega) (by omega), lo _ (by omega) (by omega)]; exact ga p q hp hq
  · rw [lo _ (by omega) (by omega)]; exact gb p hp
  · rw [pl p (by omega)]
    split
    · exact ⟨n, by omega, rfl⟩
    · obtain ⟨s, hs, e⟩ := gc p (by omega)
      exact ⟨s, by omega, e⟩
  · rw [pl p (by omega), pl q (by omega)]
    by_cases z1 : p = n
    · by_cases z2 : q = n
      · intro _; omega
      · rw [if_pos z1, if_neg z2]
        obtain ⟨s, hs, e⟩ := gc q (by omega)
        rw [e, nI_eq (by omega) (by omega)]; intro y; omega
    · by_cases z2 : q = n
      · rw [if_neg z1, if_pos z2]
        obtain ⟨s, hs, e⟩ := gc p (by omega)
        rw [e, nI_eq (by omega) (by omega)]; intro y; omega
      · rw [if_neg z1, if_neg z2]; exact gd p q (by omega) (by omega)
  · rw [vl t w ht hx]
    split
    · exact hv.1 w hx h7
    · exact ge t w ht hx h7
  · rw [vl t 7 ht (by decide)]
    split
    · exact hv.2
    · exact gf t ht
theorem vOk.set {v : Nat → Int32} {w c : Nat} (h : vOk v) (hw : w ≠ 7) (hc : c ≤ zVb w) : vOk (upd v w (nI c)) := by
  refine ⟨fun x hx h7 => ?_, ?_⟩
  · by_cases q : x = w
    · subst q; rw [upd_at]; exact ⟨c, hc, rfl⟩
    · rw [upd_ne _ _ q]; exact h.1 x hx h7
  · rw [upd_ne _ _ (Ne.symm hw)]; exact h.2
theorem vO_ok {B : Nat → Nat} {L k hi w : Nat} {σ : Nat ⊕ Nat} {v : Nat → Int32} (h : vOk v) (hw : w ≠ 7) (hc : hi ≤ zVb w) : vOk (vO B L k hi w σ v) := by
  unfold vO
  split
  · exact h.set hw (Nat.le_trans (nvM_b (Nat.zero_le _) _).2 hc)
  · exact h
theorem v5_ok {B : Nat → Nat} {L : Nat} (σ : Nat ⊕ Nat) : vOk (v5 B L σ) := by
  have h0 : vOk (v0 (nI (nvM B L 0 11 1000 (p1 B L σ)))) := by
    have b := (nvM_b (B := B) (L := L) (lo := 0) (hi := 11) (ex := 1000) (by decide) (p1 B L σ)).2
    refine ⟨fun x hx h7 => ?_, Or.inl ?_⟩
    · unfold v0
      rw [upd_ne _ _ h7]
      by_cases q : x = 0
      · rw [q, upd_at]; exact ⟨_, b, rfl⟩
      · rw [upd_ne _ _ q]; exact ⟨0, Nat.zero_le _, rfl⟩
    · unfold v0; rw [upd_at]
  have h1 : vOk (v1 B L σ) := h0.set (by decide) (Nat.le_trans (nvM_b (Nat.zero_le _) _).2 (by decide))
  have h3 : vOk (vO B L 2012 9 3 (p4 B L σ) (vO B L 2011 3 1 (p3 B L σ) (v1 B L σ))) := vO_ok (vO_ok h1 (by decide) (by decide)) (by decide) (by decide)
  have h4 : vOk (v4 B L σ) := by
    unfold v4 vO
    split
    · refine ⟨fun x hx h7 => ?_, Or.inr ?_⟩
      · rw [upd_ne _ _ h7]; exact h3.1 x hx h7
      · rw [upd_at]; exact ⟨_, (nvM_b (Nat.zero_le _) _).2, rfl⟩
    · exact h3
  unfold v5
  split
  · exact h4.set (c := 1) (by decide) (by decide)
  · exact h4
/-- what a text of THE SUBURB doesn't touch -/
def sbK (W V : Nat → Int32) : Prop := ∀ k, k = 1 ∨ k = 2 ∨ k = 9 ∨ k = 10 ∨ 235 ≤ k → V k = W k
def sbR (W V : Nat → Int32) : Prop := sbK W V ∧ ∃ n, zRg V n
theorem plN_ok {B : Nat → Nat} {L k hi j n : Nat} {σ : Nat ⊕ Nat} {W : Nat → Int32} {r : (Nat ⊕ Nat) × (Nat → Int32)} (hj : j = 3 ∨ j = 4 ∨ j = 5 ∨ j = 6 ∨ j = 7 ∨ j = 8) (hh : hi ≤ [0, 0, 0, 9999, 200, 99, 20, 100, 100].getD j 0) (hW : zRg W n) (h : sbK W r.2 ∧ zRg r.2 n) : sbK W (plN B L k hi j σ W r).2 ∧ zRg (plN B L k hi j σ W r).2 n := by
  unfold plN
  split
  · exact ⟨fun k hk => upd_ne _ _ (by omega), hW.num2 hj ⟨_, Nat.le_trans (nvM_b (Nat.zero_le _) _).2 hh, rfl⟩⟩
  · exact h
theorem nxM_a {B : Nat → Nat} {L lo hi ex c : Nat} {σ : Nat ⊕ Nat} (h : nxM B L lo hi ex σ = .inr c) : ∃ a, σ = .inr a ∧ nuK B L lo hi ex a = true := by
  cases σ with
  | inl f => cases h
  | inr a =>
    refine ⟨a, rfl, ?_⟩
    cases q : nuK B L lo hi ex a
    · rw [nxM_f q] at h; cases h
    · rfl
theorem nxN_a {B : Nat → Nat} {L k c : Nat} {σ : Nat ⊕ Nat} (h : nxN B L k σ = .inr c) : ∃ a, σ = .inr a ∧ isW B L k a = true := by
  cases σ with
  | inl f => cases h
  | inr a =>
    refine ⟨a, rfl, ?_⟩
    cases q : isW B L k a
    · rw [nxN_f q] at h; cases h
    · rfl
/-- a line: what it keeps of the rows, also of a wrong one -/
theorem plL_0 {B : Nat → Nat} {L n : Nat} {σ : Nat ⊕ Nat} {W : Nat → Int32} (hW : W 0 = nI n) (hn : n ≤ 8) : ∃ m, m ≤ 8 ∧ (plL B L n σ W).2 0 = nI m := by
  unfold plL
  split
  · rename_i q
    exact ⟨n + 1, by omega, by show stW W n (v5 B L σ) 0 = _; unfold stW; rw [if_pos rfl]⟩
  · refine ⟨n, hn, ?_⟩
    split
    · show rdW W _ _ _ 0 = _
      unfold rdW
      rw [upd_ne _ _ (by omega), upd_ne _ _ (by omega)]; exact hW
    · have one : ∀ k hi j r, j ≠ 0 → r.2 0 = nI n → (plN B L k hi j σ W r).2 0 = nI n := by
        intro k hi j r hj hr
        unfold plN
        split
        · show upd W j _ 0 = _
          rw [upd_ne _ _ (Ne.symm hj)]; exact hW
        · exact hr
      unfold plC
      exact one _ _ _ _ (by decide) (one _ _ _ _ (by decide) (one _ _ _ _ (by decide) (one _ _ _ _ (by decide) (one _ _ _ _ (by decide) (one _ _ _ _ (by decide) hW)))))
theorem plL_ok {B : Nat → Nat} {L n c : Nat} {σ : Nat ⊕ Nat} {W : Nat → Int32} (hW : zRg W n) (h : (plL B L n σ W).1 = .inr c) : sbR W (plL B L n σ W).2 := by
  have h8 := hW.1.1
  by_cases q : sIs B L 2001 σ = true ∧ n < 8
  · have e : plL B L n σ W = (p7 B L σ, stW W n (v5 B L σ)) := by unfold plL; rw [if_pos q]
    rw [e]
    refine ⟨fun k hk => ?_, n + 1, hW.step q.2 (v5_ok σ)⟩
    show stW W n _ k = W k
    unfold stW
    rw [if_neg (by omega), if_neg (by omega), if_neg (by omega)]
  · by_cases q2 : sIs B L 2002 σ = true
    · have e : plL B L n σ W = rdL B L (nxW B L 2002 σ) W := by unfold plL; rw [if_neg q, if_pos q2]
      rw [e] at h ⊢
      obtain ⟨τ, ht⟩ : ∃ τ, τ = nxW B L 2002 σ := ⟨_, rfl⟩
      rw [← ht] at h ⊢
      have h : rd4 B L τ = .inr c := h
      have h4 := h
      unfold rd4 at h4
      obtain ⟨c3, h3, k3⟩ := nxM_a h4
      have h3' := h3
      unfold rd3 at h3'
      obtain ⟨c2, h2, -⟩ := nxN_a h3'
      have h2' := h2
      unfold rd2 at h2'
      obtain ⟨c1, h1, k1⟩ := nxM_a h2'
      have kk := of_decide_eq_true k1
      have b1 := nvM_b (B := B) (L := L) (lo := 0) (hi := 11) (ex := 1000) (by decide) τ
      have b2 := nvM_b (B := B) (L := L) (lo := 0) (hi := 11) (ex := rdA B L τ) (by decide) (rd1 B L τ)
      have b3 := nvM_b (B := B) (L := L) (lo := 1) (hi := 9) (ex := 1000) (by decide) (rd3 B L τ)
      have eB : rdB B L τ = nuV B L c1 := by unfold rdB; rw [h1, nvM_t k1]
      have a11 : rdA B L τ ≤ 11 := b1.2
      have b11 : rdB B L τ ≤ 11 := b2.2
      refine ⟨fun k hk => ?_, n, hW.road (by omega) (by omega) (by rw [eB]; exact Ne.symm kk.2.2.2.2.2) b3.2⟩
      show rdW W (rdA B L τ) (rdB B L τ) _ k = W k
      unfold rdW
      rw [upd_ne _ _ (by omega), upd_ne _ _ (by omega)]
    · have e : plL B L n σ W = plC B L σ W := by unfold plL; rw [if_neg q, if_neg q2]
      rw [e]
      have g : sbK W (plC B L σ W).2 ∧ zRg (plC B L σ W).2 n := by
        unfold plC
        exact plN_ok (by decide) (by decide) hW (plN_ok (by decide) (by decide) hW (plN_ok (by decide) (by decide) hW (plN_ok (by decide) (by decide) hW (plN_ok (by decide) (by decide) hW (plN_ok (by decide) (by decide) hW ⟨fun _ _ => rfl, hW⟩)))))
      exact ⟨g.1, n, g.2⟩
def sbS (B : Nat → Nat) (L : Nat) (s : (Nat ⊕ Nat) × (Nat → Int32)) : (Nat ⊕ Nat) × (Nat → Int32) := plL B L (s.2 0).toNatClampNeg s.1 s.2
theorem endS_a {L c : Nat} {σ : Nat ⊕ Nat} (h : endS L σ = .inr c) : σ = .inr c := by
  cases σ with
  | inl f => cases h
  | inr a =>
    have h : (if a = L then Sum.inr a else Sum.inl a : Nat ⊕ Nat) = .inr c := h
    split at h
    · exact h
    · cases h
theorem nxW_a {B : Nat → Nat} {L k c : Nat} {σ : Nat ⊕ Nat} (h : nxW B L k σ = .inr c) : ∃ a, σ = .inr a := by
  cases σ with
  | inl f => cases h
  | inr a => exact ⟨a, rfl⟩
/-- a text that is right keeps what each right line keeps -/
theorem rdAll_ok {α : Type} {step : (Nat ⊕ Nat) × α → (Nat ⊕ Nat) × α} {B : Nat → Nat} {L : Nat} {I : α → Prop} (hs : ∀ a x c, I x → (step (.inr a, x)).1 = .inr c → I (step (.inr a, x)).2) : ∀ r a x c, I x → (rdAll step B L r (.inr a, x)).1 = .inr c → I (rdAll step B L r (.inr a, x)).2
  | 0, a, x, c, hI, h => by cases h
  | r + 1, a, x, c, hI, h => by
    have e : rdAll step B L (r + 1) (.inr a, x) = if sIs B L 2000 (step (.inr a, x)).1 = true then rdAll step B L r (nxW B L 2000 (step (.inr a, x)).1, (step (.inr a, x)).2) else (endS L (step (.inr a, x)).1, (step (.inr a, x)).2) := rfl
    rw [e] at h ⊢
    cases z : (step (.inr a, x)).1 with
    | inl f =>
      rw [z] at h
      cases h
    | inr b =>
      have hI2 := hs a x b hI z
      rw [z] at h
      by_cases q : sIs B L 2000 (.inr b) = true
      · rw [if_pos q, nxW_t q] at h ⊢
        exact rdAll_ok hs r _ _ c hI2 h
      · rw [if_neg q]
        exact hI2
