/-! a line of THE LAW, of the class -/
def dvN (w : zM) (x : lpL) : Prop := w 31 6 = nI x.1 ∧ ∀ l, l < x.1 → w 32 l = nI (x.2.2.1 l + 9) ∧ w 33 l = nI (x.2.2.2.1 l) ∧ w 34 l = nI (x.2.2.2.2.1 l) ∧ w 35 l = nI (x.2.2.2.2.2 l)
def dlF (u w : zM) : Prop := (∀ c, c ≠ 1 → (c < 31 ∨ 36 < c) → w c = u c) ∧ ∀ j, j ≠ 2 → j ≠ 3 → j ≠ 4 → w 1 j = u 1 j
theorem dlF.rf (u : zM) : dlF u u := ⟨fun _ _ _ => rfl, fun _ _ _ _ => rfl⟩
theorem dlF.tr {u v w : zM} (h1 : dlF u v) (h2 : dlF v w) : dlF u w := ⟨fun c a b => (h2.1 c a b).trans (h1.1 c a b), fun j a b c => (h2.2 j a b c).trans (h1.2 j a b c)⟩
theorem dvF.l {u w : zM} (h : dvF u w) : dlF u w := ⟨fun c a b => h.1 c a (by omega) (by omega), h.2.1⟩
theorem vp_in_12 {x : Int32} (h1 : ¬ x < 0) (h2 : ¬ (12 : Int32) ≤ x) : vp_in x 12 := by
  rcases i_cases x 12 (by decide) with ⟨j, hj, rfl⟩ | h
  · exact vp_in_nI hj (by decide)
  · rcases h with h | h
    · exact absurd h h1
    · exact absurd h h2
theorem s_addLineD {d : Nat} {a1 a2 : Int32} {u : zM} {Q : Option Value → zM → Prop} (h : ∀ w, (∀ c, c ≠ 32 → c ≠ 33 → c ≠ 34 → w c = u c) → Q none w) : zCall (d + 1) false 28 [.ref 31, .int a1, .int a2] u Q := by
  refine tX2_beginLine (k0 := 31) rfl ⟨fun _ => h u (fun _ _ _ _ => rfl), fun z1 => ⟨fun _ => h u (fun _ _ _ _ => rfl), fun z2 => ⟨vp_in_12 z1 z2, fun m1 e1 => ?_⟩⟩⟩
  have q1 : m1 31 6 = u 31 6 := by rw [e1, zUp_kj _ _ (by decide)]
  refine ⟨by rw [q1]; exact vp_in_12 z1 z2, fun m2 e2 => ⟨by rw [e2, zUp_kj _ _ (by decide), q1]; exact vp_in_12 z1 z2, h _ (fun c a b d => ?_)⟩⟩
  rw [zUp_k _ _ d, e2, zUp_k _ _ b, e1, zUp_k _ _ a]
theorem s_addLineA {d n : Nat} {a1 a2 : Int32} {u : zM} {Q : Option Value → zM → Prop} (h6 : u 31 6 = nI n) (hn : n < 12) (h : ∀ w, (∀ c, c ≠ 32 → c ≠ 33 → c ≠ 34 → w c = u c) → w 32 = upd (u 32) n a1 → w 33 = upd (u 33) n a2 → w 34 = upd (u 34) n (u 31 7) → Q none w) : zCall (d + 1) false 28 [.ref 31, .int a1, .int a2] u Q := by
  refine tX2_beginLine (k0 := 31) rfl (br_f (by rw [h6]; exact nI_pos (by omega)) (br_f (by rw [h6, nI_lit, nI_leI (by omega) (by omega)]; show ¬ 12 ≤ n; omega) ⟨by rw [h6]; exact vp_in_nI hn (by decide), fun m1 e1 => ?_⟩))
  rw [h6, nI_clamp (n := n) (by omega)] at e1
  have q1 : m1 31 6 = nI n := by rw [e1, zUp_kj _ _ (by decide)]; exact h6
  rw [q1, nI_clamp (n := n) (by omega)]
  refine ⟨vp_in_nI hn (by decide), fun m2 e2 => ?_⟩
  have q2 : m2 31 6 = nI n := by rw [e2, zUp_kj _ _ (by decide)]; exact q1
  rw [q2, nI_clamp (n := n) (by omega)]
  refine ⟨vp_in_nI hn (by decide), h _ (fun c a b d => ?_) ?_ ?_ ?_⟩
  · rw [zUp_k _ _ d, e2, zUp_k _ _ b, e1, zUp_k _ _ a]
  · rw [zUp_k _ _ (by decide), e2, zUp_k _ _ (by decide), e1]; exact zUp_row _ _ _ _
  · rw [zUp_k _ _ (by decide), e2]
    refine (zUp_row _ _ _ _).trans ?_
    rw [e1, zUp_k _ _ (by decide)]
  · refine (zUp_row _ _ _ _).trans ?_
    rw [e2, zUp_k _ _ (by decide), zUp_kj _ _ (by decide), e1, zUp_k _ _ (by decide), zUp_kj _ _ (by decide)]
theorem s_endLineD {d : Nat} {u : zM} {Q : Option Value → zM → Prop} (h : ∀ w, (∀ c, c ≠ 31 → c ≠ 35 → w c = u c) → Q none w) : zCall (d + 1) false 29 [.ref 31] u Q := by
  refine tX2_endLine (k0 := 31) rfl ⟨fun _ => h u (fun _ _ _ => rfl), fun z1 => ⟨fun _ => h u (fun _ _ _ => rfl), fun z2 => ⟨vp_in_12 z1 z2, fun m1 e1 => h _ (fun c a b => ?_)⟩⟩⟩
  rw [zUp_k _ _ a, e1, zUp_k _ _ b]
theorem s_endLineA {d n : Nat} {u : zM} {Q : Option Value → zM → Prop} (h6 : u 31 6 = nI n) (hn : n < 12) (h : ∀ w, (∀ c, c ≠ 31 → c ≠ 35 → w c = u c) → (∀ j, j ≠ 6 → w 31 j = u 31 j) → w 31 6 = nI (n + 1) → w 35 = upd (u 35) n (u 31 7) → Q none w) : zCall (d + 1) false 29 [.ref 31] u Q := by
  refine tX2_endLine (k0 := 31) rfl (br_f (by rw [h6]; exact nI_pos (by omega)) (br_f (by rw [h6, nI_lit, nI_leI (by omega) (by omega)]; show ¬ 12 ≤ n; omega) ⟨by rw [h6]; exact vp_in_nI hn (by decide), fun m1 e1 => ?_⟩))
  rw [h6, nI_clamp (n := n) (by omega)] at e1
  have q1 : m1 31 6 + 1 = nI (n + 1) := by rw [e1, zUp_kj _ _ (by decide), h6, nI_1]
  rw [q1]
  refine h _ (fun c a b => ?_) (fun j a => ?_) (zUp_at _ _ _ _) ?_
  · rw [zUp_k _ _ a, e1, zUp_k _ _ b]
  · rw [zUp_j _ _ a, e1, zUp_kj _ _ (by decide)]
  · rw [zUp_k _ _ (by decide), e1]; exact zUp_row _ _ _ _
theorem dl_tail {d L : Nat} {B : Nat → Nat} {r : lpR} {u0 u : zM} {K : zM → Prop} (hd : 25 ≤ d) (hF : dvF u0 u) (hr : dvR u B L r) (hk : lpK r) (h : ∀ w, dvF u0 w → dvR w B L (bdR r (liF B L)) → zCV (d + 1) 29 [.ref 31] w fun w => K w) :
    zCI (d + 1) 81 [.ref 1, .ref 2019] u fun x14 w13 => ((x14 = 0 → (zCV (d + 1) 29 [.ref 31] w13 fun w15 => K w15)) ∧ (¬ x14 = 0 → (zCV (d + 1) 89 [.ref 1, .ref 31, .int 0] w13 fun w17 => (zCV (d + 1) 29 [.ref 31] w17 fun w19 => K w19)))) := by
  obtain ⟨d, rfl⟩ : ∃ q, d = q + 2 := ⟨d - 2, by omega⟩
  refine s_word (d := d) ⟨by decide, by decide⟩ hr.tk (fun w1 f1 t1 => ⟨_, rfl, ?_⟩)
  have F1 := hF.tr f1.d
  cases r with
  | inl x => exact ⟨fun _ => h w1 F1 t1, fun z => absurd rfl z⟩
  | inr s =>
    obtain ⟨a, e⟩ := s
    have le := hr.le
    have t1 : tkS w1 B L (nxW B L 2019 (.inr a)) := t1
    have e2 : sIs B L 2019 (prR (.inr (a, e))) = isW B L 2019 a := rfl
    have e3 : bdR (.inr (a, e)) (liF B L) = if isW B L 2019 a = true then lpAny B L 6 (nxB B L a) e else .inr (a, e) := rfl
    rw [e2]
    rw [e3] at h
    cases q : isW B L 2019 a
    · rw [nxW_no (σ := .inr a) q] at t1
      rw [q, if_neg (by decide)] at h
      exact ⟨fun _ => h w1 F1 ⟨t1, hr.2.f f1⟩, fun z => absurd rfl z⟩
    · rw [nxW_t q] at t1
      rw [q, if_pos rfl] at h
      refine ⟨fun z => absurd z (by decide), fun _ => ?_⟩
      have n1 := nxB_le (B := B) le.1
      exact dv_any6 (by omega) u0 w1 (.inr (nxB B L a, e)) _ F1 ⟨t1, hr.2.f f1⟩ (lpK_in _ _ (by have := hk a e rfl; omega)) (fun w2 f2 r2 => h w2 f2 r2)
/-- the number of a line and what follows: dead -/
theorem dl_numD {d L f : Nat} {B : Nat → Nat} {SC : Int32} {u0 u : zM} {K : zM → Prop} (hd : 25 ≤ d) (hF : dlF u0 u) (hr : tkS u B L (.inl f)) (h : ∀ w, dlF u0 w → tkS w B L (.inl f) → K w) :
    zCI (d + 1) 83 [.ref 1, .int 0, .int 100, .int (-1)] u fun x10 w9 => (zCV (d + 1) 28 [.ref 31, .int SC, .int x10] w9 fun w11 => (zCI (d + 1) 81 [.ref 1, .ref 2019] w11 fun x14 w13 => ((x14 = 0 → (zCV (d + 1) 29 [.ref 31] w13 fun w15 => K w15)) ∧ (¬ x14 = 0 → (zCV (d + 1) 89 [.ref 1, .ref 31, .int 0] w13 fun w17 => (zCV (d + 1) 29 [.ref 31] w17 fun w19 => K w19)))))) := by
  obtain ⟨q, rfl⟩ : ∃ q, d = q + 2 := ⟨d - 2, by omega⟩
  refine s_number (d := q) (lo := 0) (hi := 100) (ex := 1000) rfl rfl (by decide) (by decide) hxN hr (fun w1 f1 t1 => ⟨_, rfl, ?_⟩)
  have t1 : tkS w1 B L (.inl f) := t1
  refine s_addLineD (fun w2 f2 => ⟨rfl, ?_⟩)
  have t2 : dvR w2 B L (.inl f) := tkS.congr (σ := .inl f) (fun j _ => by rw [f2 1 (by decide) (by decide) (by decide)]) (f2 2 (by decide) (by decide) (by decide)) t1
  have F2 : dlF u0 w2 := hF.tr ⟨fun c a b => (f2 c (by omega) (by omega) (by omega)).trans (f1.1 c a), fun j a b c => by rw [f2 1 (by decide) (by decide) (by decide)]; exact f1.2 j a b c⟩
  refine dl_tail hd (dvF.rf w2) t2 (lpK_il f) (fun w3 f3 t3 => s_endLineD (fun w4 f4 => ⟨rfl, h w4 (F2.tr (f3.l.tr ⟨fun c a b => f4 c (by omega) (by omega), fun j _ _ _ => by rw [f4 1 (by decide) (by decide)]⟩)) ?_⟩))
  exact tkS.congr (σ := .inl f) (fun j _ => by rw [f4 1 (by decide) (by decide)]) (f4 2 (by decide) (by decide)) t3
theorem dl_numA {d L a kd : Nat} {B : Nat → Nat} {SC : Int32} {x : lpL} {u0 u : zM} {K : zM → Prop} (hd : 25 ≤ d) (hF : dlF u0 u) (hr : tkA u B L a) (hC : dvC u x.2.1) (hN : dvN u x) (hx : x.1 < 12) (he : x.2.1.1 < a + 1) (eS : SC = nI (kd + 9))
    (h : ∀ w, dlF u0 w → tkS w B L (lnK B L a x kd).1 → (∀ c, (lnK B L a x kd).1 = .inr c → dvN w (lnK B L a x kd).2 ∧ dvC w (lnK B L a x kd).2.2.1) → K w) :
    zCI (d + 1) 83 [.ref 1, .int 0, .int 100, .int (-1)] u fun x10 w9 => (zCV (d + 1) 28 [.ref 31, .int SC, .int x10] w9 fun w11 => (zCI (d + 1) 81 [.ref 1, .ref 2019] w11 fun x14 w13 => ((x14 = 0 → (zCV (d + 1) 29 [.ref 31] w13 fun w15 => K w15)) ∧ (¬ x14 = 0 → (zCV (d + 1) 89 [.ref 1, .ref 31, .int 0] w13 fun w17 => (zCV (d + 1) 29 [.ref 31] w17 fun w19 => K w19)))))) := by
  cases q : nuK B L 0 100 1000 a
  · have ek : lnK B L a x kd = (.inl a, x) := by unfold lnK; rw [q, if_neg (by decide)]
    rw [ek] at h
    obtain ⟨q2, rfl⟩ : ∃ q, d = q + 2 := ⟨d - 2, by omega⟩
    refine s_number (d := q2) (lo := 0) (hi := 100) (ex := 1000) (σ := .inr a) rfl rfl (by decide) (by decide) hxN hr (fun w1 f1 t1 => ⟨_, rfl, ?_⟩)
    rw [nxM_f q] at t1
    refine s_addLineD (fun w2 f2 => ⟨rfl, ?_⟩)
    have t2 : dvR w2 B L (.inl a) := tkS.congr (σ := .inl a) (fun j _ => by rw [f2 1 (by decide) (by decide) (by decide)]) (f2 2 (by decide) (by decide) (by decide)) t1
    have F2 : dlF u0 w2 := hF.tr ⟨fun c a b => (f2 c (by omega) (by omega) (by omega)).trans (f1.1 c a), fun j a b c => by rw [f2 1 (by decide) (by decide) (by decide)]; exact f1.2 j a b c⟩
    refine dl_tail hd (dvF.rf w2) t2 (lpK_il a) (fun w3 f3 t3 => s_endLineD (fun w4 f4 => ⟨rfl, h w4 (F2.tr (f3.l.tr ⟨fun c a b => f4 c (by omega) (by omega), fun j _ _ _ => by rw [f4 1 (by decide) (by decide)]⟩)) ?_ (fun c z => by cases z)⟩))
    exact tkS.congr (σ := .inl a) (fun j _ => by rw [f4 1 (by decide) (by decide)]) (f4 2 (by decide) (by decide)) t3
  · have ek : lnK B L a x kd = lnR x kd (nuV B L a) (liF B L (nxB B L a) x.2.1) := by unfold lnK; rw [q, if_pos rfl]
    rw [ek] at h
    have kk := of_decide_eq_true q
    have n1 := nxB_lt (B := B) kk.1
    obtain ⟨q2, rfl⟩ : ∃ q, d = q + 2 := ⟨d - 2, by omega⟩
    refine s_number (d := q2) (lo := 0) (hi := 100) (ex := 1000) (σ := .inr a) rfl rfl (by decide) (by decide) hxN hr (fun w1 f1 t1 => ⟨_, rfl, ?_⟩)
    rw [nxM_t q] at t1
    rw [nvM_t q]
    have t1 : tkA w1 B L (nxB B L a) := t1
    have N1 : dvN w1 x := by
      unfold dvN
      rw [f1.1 31 (by decide), f1.1 32 (by decide), f1.1 33 (by decide), f1.1 34 (by decide), f1.1 35 (by decide)]
      exact hN
    have C1 : dvC w1 x.2.1 := hC.f f1
    refine s_addLineA N1.1 hx (fun w2 f2 g2 g3 g4 => ⟨rfl, ?_⟩)
    have t2 : dvR w2 B L (.inr (nxB B L a, x.2.1)) := by
      refine ⟨tkS.congr (σ := .inr (nxB B L a)) (fun j _ => by rw [f2 1 (by decide) (by decide) (by decide)]) (f2 2 (by decide) (by decide) (by decide)) t1, ?_⟩
      unfold dvC
      rw [f2 31 (by decide) (by decide) (by decide), f2 36 (by decide) (by decide) (by decide)]
      exact C1
    have F2 : dlF u0 w2 := hF.tr ⟨fun c a b => (f2 c (by omega) (by omega) (by omega)).trans (f1.1 c a), fun j a b c => by rw [f2 1 (by decide) (by decide) (by decide)]; exact f1.2 j a b c⟩
    refine dl_tail hd (dvF.rf w2) t2 (lpK_in _ _ (by omega)) (fun w3 f3 t3 => ?_)
    have t3 : dvR w3 B L (liF B L (nxB B L a) x.2.1) := t3
    cases z : liF B L (nxB B L a) x.2.1 with
    | inl g =>
      rw [z] at h t3
      refine s_endLineD (fun w4 f4 => ⟨rfl, h w4 (F2.tr (f3.l.tr ⟨fun c a b => f4 c (by omega) (by omega), fun j _ _ _ => by rw [f4 1 (by decide) (by decide)]⟩)) ?_ (fun c z => by cases z)⟩)
      exact tkS.congr (σ := .inl g) (fun j _ => by rw [f4 1 (by decide) (by decide)]) (f4 2 (by decide) (by decide)) t3
    | inr s =>
      obtain ⟨a2, e2⟩ := s
      rw [z] at h t3
      have m6 : w3 31 6 = nI x.1 := by rw [f3.2.2 6 (by decide), f2 31 (by decide) (by decide) (by decide)]; exact N1.1
      refine s_endLineA m6 hx (fun w4 f4 f5 g6 g7 => ⟨rfl, h w4 (F2.tr (f3.l.tr ⟨fun c a b => f4 c (by omega) (by omega), fun j _ _ _ => by rw [f4 1 (by decide) (by decide)]⟩)) ?_ (fun c _ => ⟨⟨g6, fun l hl => ?_⟩, ?_⟩)⟩)
      · exact tkS.congr (σ := .inr a2) (fun j _ => by rw [f4 1 (by decide) (by decide)]) (f4 2 (by decide) (by decide)) t3.1
      · have hl : l < x.1 + 1 := hl
        show w4 32 l = nI (nUp x.2.2.1 x.1 kd l + 9) ∧ w4 33 l = nI (nUp x.2.2.2.1 x.1 (nuV B L a) l) ∧ w4 34 l = nI (nUp x.2.2.2.2.1 x.1 x.2.1.1 l) ∧ w4 35 l = nI (nUp x.2.2.2.2.2 x.1 e2.1 l)
        rw [f4 32 (by decide) (by decide), f4 33 (by decide) (by decide), f4 34 (by decide) (by decide), g7, f3.1 32 (by decide) (by decide) (by decide), f3.1 33 (by decide) (by decide) (by decide), f3.1 34 (by decide) (by decide) (by decide), f3.1 35 (by decide) (by decide) (by decide), g2, g3, g4, f2 35 (by decide) (by decide) (by decide), t3.2.1]
        by_cases y : l = x.1
        · subst y
          rw [nUp_at, nUp_at, nUp_at, nUp_at, upd_at, upd_at, upd_at, upd_at, eS]
          exact ⟨rfl, rfl, C1.1, rfl⟩
        · rw [nUp_ne _ _ y, nUp_ne _ _ y, nUp_ne _ _ y, nUp_ne _ _ y, upd_ne _ _ y, upd_ne _ _ y, upd_ne _ _ y, upd_ne _ _ y]
          exact N1.2 l (by omega)
      · obtain ⟨c1, c2, c3⟩ := t3.2
        refine ⟨(f5 7 (by decide)).trans c1, c2, fun i hi => ?_⟩
        rw [f4 36 (by decide) (by decide)]
        exact c3 i hi
