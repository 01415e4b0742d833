/-! an ATOM, of the reference -/
theorem r_tag {d L dp a : Nat} {B : Nat → Nat} {e : lpE} {u0 u : zM} {K : Int32 → zM → Prop} (hF : rcF u0 u) (hP : rcP u B L dp a e) (he : e.1 < 400)
    (h1 : ∀ w c k, rcF u0 w → (c = 8 ∧ k = 2014 ∨ c = 9 ∧ k = 2025) → isW B L k a = true → rcP w B L dp (nxB B L a) (emE e c 0) → K 1 w)
    (h0 : ∀ w, rcF u0 w → isW B L 2014 a = false → isW B L 2025 a = false → rcP w B L dp a e → K 0 w) : zCI (d + 4) 222 [.ref 128] u K := by
  have le := hP.1.le
  refine tX12_readTag ?_
  refine r_letters hP.1 (fun w1 f1 l1 => ⟨rfl, ?_⟩)
  have w17 : w1 128 17 = nI e.1 := (f1.2 17 (by decide) (by decide)).trans hP.2.1.1
  have c1 : rfC w1 e := hP.2.1.f f1
  have F1 := hF.tr f1.c
  have k1 : zLtw 2014 = true := by decide +kernel
  have k2 : zLtw 2025 = true := by decide +kernel
  have w14 : w1 128 14 = nI dp := (f1.2 14 (by decide) (by decide)).trans hP.2.2
  refine r_isWord (d := d + 2) k1 l1 ⟨_, rfl, ?_⟩
  cases q1 : isW B L 2014 a
  · refine ⟨fun _ => ?_, fun z => absurd rfl z⟩
    refine r_isWord (d := d + 2) k2 l1 ⟨_, rfl, ?_⟩
    cases q2 : isW B L 2025 a
    · refine ⟨fun _ => ⟨_, rfl, ?_⟩, fun z => absurd rfl z⟩
      rw [l1.2.1]
      have f2 : rkF w1 (zUp w1 128 11 (nI a)) := ⟨fun c x => zUp_k _ _ x, fun j x _ => zUp_j _ _ x⟩
      obtain ⟨⟨h4, hp, u12, u11, hB⟩, u13, -⟩ := l1
      refine h0 _ (F1.tr f2.c) q1 q2 ⟨⟨a, ⟨h4, le.1, (zUp_j _ _ (by decide)).trans u12, zUp_at _ _ _ _, by rw [zUp_k _ _ (by decide)]; exact hB⟩, le.2.1⟩, c1.f f2, (zUp_j _ _ (by decide)).trans w14⟩
    · refine ⟨fun z => absurd z (by decide), fun _ => ?_⟩
      exact r_em (e := e) (x1 := 9) (x2 := 0) (A := fun w => ∃ y, some (Value.int 1) = some (.int y) ∧ K y w) w17 he (fun w3 f3 f8 _ hc => ⟨_, rfl, h1 w3 9 2025 (F1.tr f3) (Or.inr ⟨rfl, rfl⟩) q2 ⟨rk_em (l1.nx k2 q2) f3 f8, hc 9 0 c1 rfl rfl, (f8 14 (by decide)).trans w14⟩⟩)
  · refine ⟨fun z => absurd z (by decide), fun _ => ?_⟩
    exact r_em (e := e) (x1 := 8) (x2 := 0) (A := fun w => ∃ y, some (Value.int 1) = some (.int y) ∧ K y w) w17 he (fun w3 f3 f8 _ hc => ⟨_, rfl, h1 w3 8 2014 (F1.tr f3) (Or.inl ⟨rfl, rfl⟩) q1 ⟨rk_em (l1.nx k1 q1) f3 f8, hc 8 0 c1 rfl rfl, (f8 14 (by decide)).trans w14⟩⟩)
theorem rv_sum7 {B : Nat → Nat} {L dp D : Nat} (hD : 7 ≤ D) : rvI D 221 B L dp (lpSum B L) := rv_sum hD (lpPart_g B L) (rv_part (by omega))
theorem rcP.dp {u : zM} {B : Nat → Nat} {L dp a q : Nat} {e : lpE} (h : rcP u B L dp a e) : rcP (zUp u 128 14 (nI q)) B L q a e :=
  ⟨h.1.congr (zUp_j _ _ (by decide)) (zUp_j _ _ (by decide)) (zUp_k _ _ (by decide)), by
    obtain ⟨-, g, -⟩ := h
    unfold rfC
    rw [zUp_j _ _ (by decide), zUp_k _ _ (by decide)]
    exact g, zUp_at _ _ _ _⟩
theorem rcF.dp {u w : zM} (h : rcF u w) (v : Int32) : rcF u (zUp w 128 14 v) := ⟨fun c a b => (zUp_k _ _ a).trans (h.1 c a b), fun j a b c d => (zUp_j _ _ c).trans (h.2.1 j a b c d), fun k a => (zUp_kj _ _ (by decide)).trans (h.2.2 k a)⟩
set_option maxHeartbeats 2000000 in
theorem rv_end {d L dp a : Nat} {B : Nat → Nat} {e : lpE} {u0 u : zM} {K : Int32 → zM → Prop} (hF : rcF u0 u) (hP : rcP u B L dp a e) (he : e.1 < a)
    (h0 : ∀ w g, rcF u0 w → lpEnd B L a e = .inl g → w 128 13 = nI g → K 0 w) (h1 : ∀ w a2 e2, rcF u0 w → lpEnd B L a e = .inr (a2, e2) → rcP w B L dp a2 e2 → K 1 w) :
    (zCI (d + 7) 222 [.ref 128] u fun x6 w5 => ((x6 = 0 → (zCI (d + 7) 221 [.ref 128] w5 fun x8 w7 => ((¬ x8 = 0 → (zCI (d + 7) 208 [.ref 128, .int 60] w7 fun x10 w9 => ((¬ x10 = 0 → (zCI (d + 7) 221 [.ref 128] w9 fun x12 w11 => ((¬ x12 = 0 → ((x10 = 0 → (vp_in (1373 + (2 * (w11 128 17))) 2173 ∧ (∀ m13 : zM, m13 = zUp w11 129 ((1373 + (2 * (w11 128 17))).toNatClampNeg) 13 → (vp_in ((1373 + (2 * (m13 128 17))) + 1) 2173 ∧ (∀ m14 : zM, m14 = zUp m13 129 (((1373 + (2 * (m13 128 17))) + 1).toNatClampNeg) 0 → (∃ y, some (Value.int 1) = some (.int y) ∧ K y (zUp m14 128 17 ((m14 128 17) + 1)))))))) ∧ (¬ x10 = 0 → (vp_in (1373 + (2 * (w11 128 17))) 2173 ∧ (∀ m15 : zM, m15 = zUp w11 129 ((1373 + (2 * (w11 128 17))).toNatClampNeg) 12 → (vp_in ((1373 + (2 * (m15 128 17))) + 1) 2173 ∧ (∀ m16 : zM, m16 = zUp m15 129 (((1373 + (2 * (m15 128 17))) + 1).toNatClampNeg) 0 → (∃ y, some (Value.int 1) = some (.int y) ∧ K y (zUp m16 128 17 ((m16 128 17) + 1)))))))))) ∧ (x12 = 0 → (∃ y, some (Value.int 0) = some (.int y) ∧ K y w11))))) ∧ (x10 = 0 → (zCI (d + 7) 208 [.ref 128, .int 62] w9 fun x20 w19 => ((x20 = 0 → (∃ y, some (Value.int 0) = some (.int y) ∧ K y w19)) ∧ (¬ x20 = 0 → (zCI (d + 7) 221 [.ref 128] w19 fun x22 w21 => ((¬ x22 = 0 → ((x10 = 0 → (vp_in (1373 + (2 * (w21 128 17))) 2173 ∧ (∀ m23 : zM, m23 = zUp w21 129 ((1373 + (2 * (w21 128 17))).toNatClampNeg) 13 → (vp_in ((1373 + (2 * (m23 128 17))) + 1) 2173 ∧ (∀ m24 : zM, m24 = zUp m23 129 (((1373 + (2 * (m23 128 17))) + 1).toNatClampNeg) 0 → (∃ y, some (Value.int 1) = some (.int y) ∧ K y (zUp m24 128 17 ((m24 128 17) + 1)))))))) ∧ (¬ x10 = 0 → (vp_in (1373 + (2 * (w21 128 17))) 2173 ∧ (∀ m25 : zM, m25 = zUp w21 129 ((1373 + (2 * (w21 128 17))).toNatClampNeg) 12 → (vp_in ((1373 + (2 * (m25 128 17))) + 1) 2173 ∧ (∀ m26 : zM, m26 = zUp m25 129 (((1373 + (2 * (m25 128 17))) + 1).toNatClampNeg) 0 → (∃ y, some (Value.int 1) = some (.int y) ∧ K y (zUp m26 128 17 ((m26 128 17) + 1)))))))))) ∧ (x22 = 0 → (∃ y, some (Value.int 0) = some (.int y) ∧ K y w21))))))))))) ∧ (x8 = 0 → (∃ y, some (Value.int 0) = some (.int y) ∧ K y w7))))) ∧ (¬ x6 = 0 → (∃ y, some (Value.int 1) = some (.int y) ∧ K y w5)))) := by
  have le := hP.1.le
  have ep : lpEnd B L a e = lpWd B L 2014 8 a e (lpWd B L 2025 9 a e (lpCmp B L a e)) := rfl
  rw [ep] at h0 h1
  refine r_tag (d := d + 3) hF hP (by omega) (fun w c k f1 ck q1 p1 => ⟨fun z => absurd z (by decide), fun _ => ⟨_, rfl, ?_⟩⟩) (fun w1 F1 q1 q2 P1 => ⟨fun _ => ?_, fun z => absurd rfl z⟩)
  · rcases ck with ⟨rfl, rfl⟩ | ⟨rfl, rfl⟩
    · rw [lpWd_t q1] at h1
      exact h1 w _ _ f1 rfl p1
    · have no : isW B L 2014 a = false := isW_dis ⟨by decide, by decide⟩ ⟨by decide, by decide⟩ (by decide) q1
      rw [lpWd_f no, lpWd_t q1] at h1
      exact h1 w _ _ f1 rfl p1
  · rw [lpWd_f q1, lpWd_f q2] at h0 h1
    have ec : lpCmp B L a e = bdR (lpSum B L a e) (fun a2 e2 => if isW B L 2026 a2 = true then bdR (lpSum B L (nxB B L a2) e2) (fun a3 e3 => .inr (a3, emE e3 12 0)) else if isW B L 2027 a2 = true then bdR (lpSum B L (nxB B L a2) e2) (fun a3 e3 => .inr (a3, emE e3 13 0)) else .inl a2) := rfl
    rw [ec] at h0 h1
    refine rv_sum7 (D := d + 7) (by omega) u0 w1 a e _ F1 P1 he (fun w g f2 e2 b2 => ⟨fun z => absurd rfl z, fun _ => ⟨_, rfl, h0 w g f2 (by rw [e2]; rfl) b2⟩⟩) (fun w2 a2 e2 F2 g2 P2 => ⟨fun _ => ?_, fun z => absurd z (by decide)⟩)
    rw [g2] at h0 h1
    have g : lpG B L 2 false a e a2 e2 := lpSum_g B L _ _ _ _ le.1 g2
    have s1 := g.1
    have s3 := g.2.2.2.1
    have le2 := P2.1.le
    have n0 := nxB_le (B := B) le2.1
    -- the second sum and its code
    have fin : ∀ (c k : Nat) (w : zM) (M : Int32 → zM → Prop), zStr k → isW B L k a2 = true → rcF u0 w → rcP w B L dp (nxB B L a2) e2 → (∀ w g, rcF u0 w → bdR (lpSum B L (nxB B L a2) e2) (fun a3 e3 => .inr (a3, emE e3 c 0)) = .inl g → w 128 13 = nI g → M 0 w) → (∀ w a3 e3, rcF u0 w → lpSum B L (nxB B L a2) e2 = .inr (a3, e3) → e3.1 < 400 → w 128 17 = nI e3.1 → (∀ w2, rcF w w2 → (∀ j, j ≠ 17 → w2 128 j = w 128 j) → (∀ c2 v2, rfC w e3 → (nI c : Int32) = nI c2 → (0 : Int32) = nI v2 → rfC w2 (emE e3 c2 v2)) → rcF u0 w2 ∧ rcP w2 B L dp a3 (emE e3 c 0)) → M 1 w) → zCI (d + 7) 221 [.ref 128] w M := by
      intro c k w M hk q F P m0 m1
      have n1 := nxB_lt (B := B) (isW_lt hk le2.1 q).2
      refine rv_sum7 (D := d + 7) (by omega) u0 w _ e2 _ F P (by omega) (fun w g f3 e3 b3 => m0 w g f3 (by rw [e3]; rfl) b3) (fun w3 a3 e3 F3 g3 P3 => m1 w3 a3 e3 F3 g3 ?_ P3.2.1.1 (fun w2 f2 f8 hc => ⟨F3.tr f2, rk_em P3.1 f2 f8, hc c 0 P3.2.1 rfl rfl, (f8 14 (by decide)).trans P3.2.2⟩))
      have g4 : lpG B L 2 false (nxB B L a2) e2 a3 e3 := lpSum_g B L _ _ _ _ n0.2 g3
      have y1 := g4.2.1
      have y2 := g4.2.2.2.1
      omega
    refine r_sign (d := d + 3) (k := 2026) (c := 60) rfl (by decide +kernel) (by decide +kernel) (by decide) (by decide +kernel) P2.1 (fun w3 f3 b3 t3 => ⟨_, rfl, ?_⟩)
    have F3 := F2.tr f3.c
    have h0 : ∀ w g, rcF u0 w → (if isW B L 2026 a2 = true then bdR (lpSum B L (nxB B L a2) e2) (fun a3 e3 => .inr (a3, emE e3 12 0)) else if isW B L 2027 a2 = true then bdR (lpSum B L (nxB B L a2) e2) (fun a3 e3 => .inr (a3, emE e3 13 0)) else .inl a2 : lpR) = .inl g → w 128 13 = nI g → K 0 w := h0
    have h1 : ∀ w a4 e4, rcF u0 w → (if isW B L 2026 a2 = true then bdR (lpSum B L (nxB B L a2) e2) (fun a3 e3 => .inr (a3, emE e3 12 0)) else if isW B L 2027 a2 = true then bdR (lpSum B L (nxB B L a2) e2) (fun a3 e3 => .inr (a3, emE e3 13 0)) else .inl a2 : lpR) = .inr (a4, e4) → rcP w B L dp a4 e4 → K 1 w := h1
    cases q3 : isW B L 2026 a2
    · rw [q3, if_neg (by decide)] at h0 h1 t3
      refine ⟨fun z => absurd rfl z, fun _ => ?_⟩
      refine r_sign (d := d + 3) (k := 2027) (c := 62) rfl (by decide +kernel) (by decide +kernel) (by decide) (by decide +kernel) t3 (fun w4 f4 b4 t4 => ⟨_, rfl, ?_⟩)
      have F4 := F3.tr f4.c
      cases q4 : isW B L 2027 a2
      · rw [q4, if_neg (by decide)] at h0
        exact ⟨fun _ => ⟨_, rfl, h0 w4 a2 F4 rfl b4⟩, fun z => absurd rfl z⟩
      · rw [q4, if_pos rfl] at h0 h1 t4
        refine ⟨fun z => absurd z (by decide), fun _ => ?_⟩
        refine fin 13 2027 w4 _ ⟨by decide, by decide⟩ q4 F4 ((P2.f f3 t3).f f4 t4) (fun w g f5 e5 b5 => ⟨fun z => absurd rfl z, fun _ => ⟨_, rfl, h0 w g f5 e5 b5⟩⟩) (fun w5 a3 e3 F5 g5 l5 w17 k5 => ⟨fun _ => ⟨fun _ => ?_, fun z => absurd rfl z⟩, fun z => absurd z (by decide)⟩)
        refine r_em (e := e3) (x1 := 13) (x2 := 0) (A := fun w => ∃ y, some (Value.int 1) = some (.int y) ∧ K y w) w17 l5 (fun w6 f6 f8 _ hc => ⟨_, rfl, ?_⟩)
        obtain ⟨F6, P6⟩ := k5 w6 f6 f8 hc
        exact h1 w6 a3 _ F6 (by rw [g5]; rfl) P6
    · rw [q3, if_pos rfl] at h0 h1 t3
      refine ⟨fun _ => ?_, fun z => absurd z (by decide)⟩
      refine fin 12 2026 w3 _ ⟨by decide, by decide⟩ q3 F3 (P2.f f3 t3) (fun w g f5 e5 b5 => ⟨fun z => absurd rfl z, fun _ => ⟨_, rfl, h0 w g f5 e5 b5⟩⟩) (fun w5 a3 e3 F5 g5 l5 w17 k5 => ⟨fun _ => ⟨fun z => absurd z (by decide), fun _ => ?_⟩, fun z => absurd z (by decide)⟩)
      refine r_em (e := e3) (x1 := 12) (x2 := 0) (A := fun w => ∃ y, some (Value.int 1) = some (.int y) ∧ K y w) w17 l5 (fun w6 f6 f8 _ hc => ⟨_, rfl, ?_⟩)
      obtain ⟨F6, P6⟩ := k5 w6 f6 f8 hc
      exact h1 w6 a3 _ F6 (by rw [g5]; rfl) P6
set_option maxHeartbeats 2000000 in
theorem rv_atom {B : Nat → Nat} {L : Nat} : ∀ k, k ≤ 6 → ∀ D, 8 + 3 * k ≤ D → rvI D 223 B L (6 - k) (lpAt B L k) := by
  intro k
  induction k with
  | zero =>
    intro hk D hD
    obtain ⟨d, rfl⟩ : ∃ d, D = d + 8 := ⟨D - 8, by omega⟩
    intro u0 u a e K hF hP he h0 h1
    have le := hP.1.le
    have ea : lpAt B L 0 a e = if isW B L 2022 a = true then .inl a else if isW B L 2023 a = true then .inl a else lpEnd B L a e := rfl
    rw [ea] at h0 h1
    refine tX12_readAtom ?_
    refine r_sign (d := d + 3) (k := 2023) (c := 40) rfl (by decide +kernel) (by decide +kernel) (by decide) (by decide +kernel) hP.1 (fun w1 f1 b1 t1 => ⟨_, rfl, ?_⟩)
    have F1 := hF.tr f1.c
    have w14 : w1 128 14 = 6 := (f1.2 14 (by decide) (by decide)).trans hP.2.2
    cases q1 : isW B L 2023 a
    · rw [q1, if_neg (by decide)] at t1
      have P1 := hP.f f1 t1
      refine ⟨fun _ => ?_, fun z => absurd rfl z⟩
      refine r_passes (d := d + 3) (k := 2022) (by decide +kernel) t1 (fun w2 f2 b2 t2 => ⟨_, rfl, ?_⟩)
      have F2 := F1.tr f2.c
      have v14 : w2 128 14 = 6 := (f2.2 14 (by decide) (by decide)).trans w14
      cases q2 : isW B L 2022 a
      · rw [q2, if_neg (by decide)] at t2
        rw [q1, q2, if_neg (by decide), if_neg (by decide)] at h0 h1
        have P2 := P1.f f2 t2
        refine ⟨fun _ => ?_, fun z => absurd rfl z⟩
        exact rv_end F2 P2 he h0 h1
      · rw [q2, if_pos rfl] at h0
        exact ⟨fun z => absurd z (by decide), fun _ => ⟨fun z => absurd v14 z, fun _ => ⟨_, rfl, h0 w2 a F2 rfl b2⟩⟩⟩
    · have q2 : isW B L 2022 a = false := isW_dis ⟨by decide, by decide⟩ ⟨by decide, by decide⟩ (by decide) q1
      rw [q1, q2, if_neg (by decide), if_pos rfl] at h0
      exact ⟨fun z => absurd z (by decide), fun _ => ⟨fun z => absurd w14 z, fun _ => ⟨_, rfl, h0 w1 a F1 rfl b1⟩⟩⟩
  | succ k ih =>
    intro hk D hD
    obtain ⟨d, rfl⟩ : ∃ d, D = d + 8 := ⟨D - 8, by omega⟩
    have ihA : ∀ D, 8 + 3 * k ≤ D → rvI D 223 B L (6 - k) (lpAt B L k) := fun D hD => ih (by omega) D hD
    have ihL : ∀ D, 9 + 3 * k ≤ D → rvI D 224 B L (6 - k) (lpAll B L k) := fun D hD => rv_all (by omega) (lpAt_g B L k) (ihA (D - 1) (by omega))
    have ihY : rvI (d + 7) 225 B L (6 - k) (lpAny B L k) := rv_any (by omega) (lpAll_g B L k) (ihL (d + 7 - 1) (by omega))
    intro u0 u a e K hF hP he h0 h1
    have le := hP.1.le
    have n0 := nxB_le (B := B) le.1
    have ea : lpAt B L (k + 1) a e = if isW B L 2022 a = true then bdR (lpAt B L k (nxB B L a) e) (fun a2 e2 => .inr (a2, emE e2 14 0)) else if isW B L 2023 a = true then bdR (lpAny B L k (nxB B L a) e) (fun a2 e2 => if isW B L 2024 a2 = true then .inr (nxB B L a2, e2) else .inl a2) else lpEnd B L a e := rfl
    rw [ea] at h0 h1
    have n6 : ¬ nI (6 - (k + 1)) = 6 := nI_ne (b := 6) (by omega) (by decide) (by omega)
    have up : nI (6 - (k + 1)) + 1 = nI (6 - k) := by rw [nI_1]; congr 1; omega
    have dn : nI (6 - k) - 1 = nI (6 - (k + 1)) := by rw [nI_lit, nI_sub (by show 1 ≤ 6 - k; omega)]; congr 1
    refine tX12_readAtom ?_
    refine r_sign (d := d + 3) (k := 2023) (c := 40) rfl (by decide +kernel) (by decide +kernel) (by decide) (by decide +kernel) hP.1 (fun w1 f1 b1 t1 => ⟨_, rfl, ?_⟩)
    have F1 := hF.tr f1.c
    have w14 : w1 128 14 = nI (6 - (k + 1)) := (f1.2 14 (by decide) (by decide)).trans hP.2.2
    have P1 := hP.f f1 t1
    cases q1 : isW B L 2023 a
    · rw [q1, if_neg (by decide)] at t1 P1
      refine ⟨fun _ => ?_, fun z => absurd rfl z⟩
      refine r_passes (d := d + 3) (k := 2022) (by decide +kernel) t1 (fun w2 f2 b2 t2 => ⟨_, rfl, ?_⟩)
      have F2 := F1.tr f2.c
      have P2 := P1.f f2 t2
      have v14 : w2 128 14 = nI (6 - (k + 1)) := (f2.2 14 (by decide) (by decide)).trans w14
      cases q2 : isW B L 2022 a
      · rw [q2, if_neg (by decide)] at P2
        rw [q1, q2, if_neg (by decide), if_neg (by decide)] at h0 h1
        refine ⟨fun _ => ?_, fun z => absurd rfl z⟩
        exact rv_end F2 P2 he h0 h1
      · rw [q2, if_pos rfl] at h0 h1 P2
        have n1 := nxB_lt (B := B) (isW_lt ⟨by decide, by decide⟩ le.1 q2).2
        refine ⟨fun z => absurd z (by decide), fun _ => ⟨fun _ => fun m33 e33 => ?_, fun z => absurd (v14.symm.trans z) n6⟩⟩
        rw [v14, up] at e33
        have P3 : rcP m33 B L (6 - k) (nxB B L a) e := by rw [e33]; exact P2.dp
        have F3 : rcF u0 m33 := by rw [e33]; exact F2.dp _
        refine ihA (d + 7) (by omega) u0 m33 _ e _ F3 P3 (by omega) (fun w g f4 e4 b4 => ⟨fun z => absurd rfl z, fun _ => ⟨_, rfl, h0 w g f4 (by rw [e4]; rfl) b4⟩⟩) (fun w4 a2 e2 F4 g4 P4 => ⟨fun _ => fun m36 e36 => ?_, fun z => absurd z (by decide)⟩)
        rw [P4.2.2, dn] at e36
        have P5 : rcP m36 B L (6 - (k + 1)) a2 e2 := by rw [e36]; exact P4.dp
        have F5 : rcF u0 m36 := by rw [e36]; exact F4.dp _
        have g : lpG B L (2 * k + 3) true (nxB B L a) e a2 e2 := lpAt_g B L k _ _ _ _ n0.2 g4
        have y1 := g.2.1
        have y2 := g.2.2.2.1
        refine r_em (e := e2) (x1 := 14) (x2 := 0) (A := fun w => ∃ y, some (Value.int 1) = some (.int y) ∧ K y w) P5.2.1.1 (by omega) (fun w6 f6 f8 _ hc => ⟨_, rfl, h1 w6 a2 _ (F5.tr f6) (by rw [g4]; rfl) ⟨rk_em P5.1 f6 f8, hc 14 0 P5.2.1 rfl rfl, (f8 14 (by decide)).trans P5.2.2⟩⟩)
    · have q2 : isW B L 2022 a = false := isW_dis ⟨by decide, by decide⟩ ⟨by decide, by decide⟩ (by decide) q1
      rw [q1, if_pos rfl] at P1
      rw [q1, q2, if_neg (by decide), if_pos rfl] at h0 h1
      have n1 := nxB_lt (B := B) (isW_lt ⟨by decide, by decide⟩ le.1 q1).2
      refine ⟨fun z => absurd z (by decide), fun _ => ⟨fun _ => fun m42 e42 => ?_, fun z => absurd (w14.symm.trans z) n6⟩⟩
      rw [w14, up] at e42
      have P3 : rcP m42 B L (6 - k) (nxB B L a) e := by rw [e42]; exact P1.dp
      have F3 : rcF u0 m42 := by rw [e42]; exact F1.dp _
      refine ihY u0 m42 _ e _ F3 P3 (by omega) (fun w g f4 e4 b4 => ⟨fun z => absurd rfl z, fun _ => ⟨_, rfl, h0 w g f4 (by rw [e4]; rfl) b4⟩⟩) (fun w4 a2 e2 F4 g4 P4 => ⟨fun _ => fun m45 e45 => ?_, fun z => absurd z (by decide)⟩)
      rw [P4.2.2, dn] at e45
      have P5 : rcP m45 B L (6 - (k + 1)) a2 e2 := by rw [e45]; exact P4.dp
      have F5 : rcF u0 m45 := by rw [e45]; exact F4.dp _
      rw [g4] at h0 h1
      have h0 : ∀ w g, rcF u0 w → (if isW B L 2024 a2 = true then .inr (nxB B L a2, e2) else .inl a2 : lpR) = .inl g → w 128 13 = nI g → K 0 w := h0
      have h1 : ∀ w a4 e4, rcF u0 w → (if isW B L 2024 a2 = true then .inr (nxB B L a2, e2) else .inl a2 : lpR) = .inr (a4, e4) → rcP w B L (6 - (k + 1)) a4 e4 → K 1 w := h1
      refine r_sign (d := d + 3) (k := 2024) (c := 41) rfl (by decide +kernel) (by decide +kernel) (by decide) (by decide +kernel) P5.1 (fun w6 f6 b6 t6 => ⟨_, rfl, ?_⟩)
      have F6 := F5.tr f6.c
      have P6 := P5.f f6 t6
      cases q3 : isW B L 2024 a2
      · rw [q3, if_neg (by decide)] at h0
        exact ⟨Or.inl rfl, ⟨_, rfl, h0 w6 a2 F6 rfl b6⟩⟩
      · rw [q3, if_pos rfl] at h1 P6
        exact ⟨Or.inr rfl, ⟨_, rfl, h1 w6 _ _ F6 rfl P6⟩⟩
theorem rv_any6 {B : Nat → Nat} {L D : Nat} (hD : 28 ≤ D) : rvI D 225 B L 0 (lpAny B L 6) :=
  rv_any (by omega) (lpAll_g B L 6) (rv_all (by omega) (lpAt_g B L 6) (rv_atom 6 (by decide) (D - 1 - 1) (by omega)))
