theorem s_push {d k0 t : Nat} {a1 : Int32} {u : zM} {Q : Option Value → zM → Prop} (hk : zShapes[k0]? = some (.inl 2)) (ht : u k0 8 = nI t) (h32 : t < 32) (h : Q none (zUp (zUp u (k0 + 6) t a1) k0 8 (nI (t + 1)))) : zCall (d + 1) false 35 [.ref k0, .int a1] u Q := by
  refine tX2_push hk ?_
  rw [ht, nI_clamp (by omega)]
  refine br_f (nI_pos (by omega)) (br_f (by rw [nI_lit, nI_leI (by omega) (by omega)]; omega) ⟨vp_in_nI h32 (by decide), fun m1 e1 => ?_⟩)
  have e : m1 k0 8 = nI t := by rw [e1, zUp_k _ _ (by omega)]; exact ht
  rw [e, nI_1, e1]
  exact h
theorem s_pop {d k0 t : Nat} {u : zM} {Q : Option Value → zM → Prop} (hk : zShapes[k0]? = some (.inl 2)) (ht : u k0 8 = nI (t + 1)) (h32 : t < 32) (h : Q (some (.int (u (k0 + 6) t))) (zUp u k0 8 (nI t))) : zCall (d + 1) false 36 [.ref k0] u Q := by
  refine tX2_pop hk ?_
  rw [ht, nI_sub1]
  refine br_f (by rw [nI_lit, nI_ltI (by omega) (by omega)]; omega) (br_t (by rw [nI_lit, nI_leI (by omega) (by omega)]; omega) (fun m1 e1 => ?_))
  have e : m1 k0 8 = nI t := by rw [e1, zUp_at]
  rw [e, nI_clamp (by omega)]
  refine ⟨vp_in_nI h32 (by decide), ?_⟩
  rw [e1, zUp_k _ _ (by omega)]
  exact h
theorem s_joined {d c : Nat} {a0 a1 a2 : Int32} {u : zM} {Q : Option Value → zM → Prop} (h0 : a0 = lwD c 0) (hc : (c = 11) ∨ (c = 12 ∨ c = 13) ∨ ((c = 15 ∨ c = 16) ∧ (a1 = 0 ∨ a1 = 1) ∧ (a2 = 0 ∨ a2 = 1))) (h : Q (some (.int (lwO c a1 a2))) u) : zCall (d + 1) false 34 [.int a0, .int a1, .int a2] u Q := by
  subst h0
  refine tX2_joined ?_
  rcases hc with rfl | (rfl | rfl) | ⟨rfl | rfl, g1, g2⟩
  · have e : (lwD 11 0).toInt = -6 := by decide
    rw [e]
    exact ⟨fun _ => h, fun q => absurd q (by decide), fun q => absurd q (by decide), fun q => absurd q (by decide), fun q => absurd q (by decide), fun q => absurd q (by decide), trivial⟩
  · have e : (lwD 12 0).toInt = -4 := by decide
    rw [e]
    have h2 : Q (some (.int (if a1 < a2 then 1 else 0))) u := h
    exact ⟨fun q => absurd q (by decide), fun q => absurd q (by decide), fun _ => ⟨fun z => by rw [if_neg (Int32.not_lt.mpr z)] at h2; exact h2, fun z => by rw [if_pos (Int32.not_le.mp z)] at h2; exact h2⟩, fun q => absurd q (by decide), fun q => absurd q (by decide), fun q => absurd q (by decide), trivial⟩
  · have e : (lwD 13 0).toInt = -5 := by decide
    rw [e]
    have h2 : Q (some (.int (if a2 < a1 then 1 else 0))) u := h
    exact ⟨fun q => absurd q (by decide), fun _ => ⟨fun z => by rw [if_neg (Int32.not_lt.mpr z)] at h2; exact h2, fun z => by rw [if_pos (Int32.not_le.mp z)] at h2; exact h2⟩, fun q => absurd q (by decide), fun q => absurd q (by decide), fun q => absurd q (by decide), fun q => absurd q (by decide), trivial⟩
  · have e : (lwD 15 0).toInt = -2 := by decide
    rw [e]
    have h2 : Q (some (.int (if a1 + a2 = 2 then 1 else 0))) u := h
    rw [← (i_bin g1 g2).1] at h2
    exact ⟨fun q => absurd q (by decide), fun q => absurd q (by decide), fun q => absurd q (by decide), fun q => absurd q (by decide), fun _ => h2, fun q => absurd q (by decide), trivial⟩
  · have e : (lwD 16 0).toInt = -1 := by decide
    rw [e]
    have h2 : Q (some (.int (if 0 < a1 + a2 then 1 else 0))) u := h
    rw [← (i_bin g1 g2).2] at h2
    exact ⟨fun q => absurd q (by decide), fun q => absurd q (by decide), fun q => absurd q (by decide), fun q => absurd q (by decide), fun q => absurd q (by decide), fun _ => h2, trivial⟩
/-- the class's codes of a line are reckoned as the reference's -/
theorem s_applies {d n k0 k3 b e s S : Nat} {W : Nat → Int32} {a1 a2 a4 : Int32} {u : zM} {Q : Option Value → zM → Prop} (hk : zShapes[k0]? = some (.inl 2)) (hk3 : zShapes[k3]? = some (.inl 1)) (hkk : k3 + 1 < k0) (e1 : a1 = nI b) (e2 : a2 = nI e) (e4 : a4 = nI s) (hs : s < 8) (hR : zRg W n) (hS : S ≤ 400)
    (hC : ∀ i, i < S → lwC W i ≤ 16 ∧ u (k0 + 5) i = lwD (lwC W i) (lwV W i) ∧ lwV W i ≤ 999) (hbe : b ≤ e) (heS : e ≤ S) (p5 : e = b ∨ tyEv (lwC W) b (e - b) = some [true])
    (hday : u k3 10 = W 3) (hval : ∀ w, w < 9 → u (k3 + 1) (w * 8 + s) = W (163 + 9 * s + w))
    (h : ∀ w : zM, (∀ c, c ≠ k0 → c ≠ k0 + 6 → w c = u c) → (∀ j, j ≠ 8 → w k0 j = u k0 j) → Q (some (.int (if lwHold (lwF W s) (lwC W) (lwV W) b e = true then 1 else 0))) w) : zCall (d + 3) false 33 [.ref k0, .int a1, .int a2, .ref k3, .int a4] u Q := by
  subst e1; subst e2; subst e4
  refine t2X2_applies hk hk3 ?_
  refine zFor (σ := zM) (Pr := fun j w => zRun (d + 2) false zcX2_applies 2 Q 8 [(0, .ref k0), (1, .int (nI b)), (2, .int (nI e)), (3, .ref k3), (4, .int (nI s)), (5, .int (nI (b + j)))] [] w)
    (fun j w => (∀ c, c ≠ k0 → c ≠ k0 + 6 → w c = u c) ∧ (∀ j, j ≠ 8 → w k0 j = u k0 j) ∧ w k0 8 = nI (lwEv (lwF W s) (lwC W) (lwV W) b j).length ∧ zStk (w (k0 + 6)) (lwEv (lwF W s) (lwC W) (lwV W) b j)) (e - b) (fun w hw => ?_) (fun j w hj hw ih => ?_) (zUp u k0 8 0) ⟨fun c h1 _ => zUp_k _ _ h1, fun j h1 => zUp_j _ _ h1, zUp_at _ _ _ _, trivial⟩
  · obtain ⟨g1, g2, g3, g4⟩ := hw
    have h2 := h
    refine t2X2_applies_8 hk hk3 (br_f (nI_pos (by omega)) (br_t (by rw [nI_leI (by omega) (by omega)]; omega) ?_))
    unfold lwHold at h2
    rcases p5 with p5 | p5
    · have e0 : e - b = 0 := by omega
      rw [e0] at h2
      exact br_t (by rw [nI_leI (by omega) (by omega)]; omega) (h2 w g1 g2)
    · have tv := tyEv_v (lwF_01 hR hs) (V := lwV W) _ _ p5
      cases hx : lwEv (lwF W s) (lwC W) (lwV W) b (e - b) with
      | nil => rw [hx] at tv; exact tv.elim
      | cons x t =>
        rw [hx] at tv h2 g3 g4
        cases t with
        | cons y t => exact tv.2.elim
        | nil =>
          have x0 : w (k0 + 6) 0 = x := g4.1
          have hlt : b < e := by
            rcases Nat.lt_or_ge b e with q | q
            · exact q
            · rw [show e - b = 0 by omega] at hx; cases hx
          refine br_f (by rw [nI_leI (by omega) (by omega)]; omega) ?_
          refine s_pop (t := 0) hk g3 (by decide) ⟨_, rfl, ?_⟩
          rw [x0]
          have f1 : ∀ c, c ≠ k0 → c ≠ k0 + 6 → (zUp w k0 8 (nI 0)) c = u c := fun c c1 c2 => (zUp_k _ _ c1).trans (g1 c c1 c2)
          have f2 : ∀ j, j ≠ 8 → (zUp w k0 8 (nI 0)) k0 j = u k0 j := fun j c1 => (zUp_j _ _ c1).trans (g2 j c1)
          have h3 := h2 _ f1 f2
          have x01 := tv.1 rfl
          refine ⟨fun q => ?_, fun q => ?_⟩
          · rw [q] at h3; exact h3
          · have : x = 1 := x01.resolve_left q
            rw [this] at h3; exact h3
  · obtain ⟨g1, g2, g3, g4⟩ := hw
    rcases p5 with p5 | p5
    · omega
    · obtain ⟨l1, t1⟩ := tyEv_le (e - b - (j + 1)) (j + 1) [true] (by rw [show j + 1 + (e - b - (j + 1)) = e - b by omega]; exact p5)
      obtain ⟨m, t2, t3⟩ := tyEv_pre t1
      have tv := tyEv_v (lwF_01 hR hs) (V := lwV W) _ _ t2
      have tl := tyEv_len _ _ t2
      obtain ⟨q1, q2, q3⟩ := hC (b + j) (by omega)
      have ev : lwEv (lwF W s) (lwC W) (lwV W) b (j + 1) = lwSt (lwF W s) (lwC W (b + j)) (lwV W (b + j)) (lwEv (lwF W s) (lwC W) (lwV W) b j) := rfl
      rw [ev] at ih
      obtain ⟨st, hst0⟩ : ∃ st, st = lwEv (lwF W s) (lwC W) (lwV W) b j := ⟨_, rfl⟩
      rw [← hst0] at ih g3 g4 tv
      obtain ⟨c, hc⟩ : ∃ c, c = lwC W (b + j) := ⟨_, rfl⟩
      obtain ⟨v, hv⟩ : ∃ v, v = lwV W (b + j) := ⟨_, rfl⟩
      rw [← hc] at ih q1 q2 t3
      rw [← hv] at ih q2 q3
      have len := tyV_len _ _ tv
      have w5 : w (k0 + 5) (b + j) = lwD c v := by rw [g1 (k0 + 5) (by omega) (by omega)]; exact q2
      have wd : w k3 10 = W 3 := by rw [g1 k3 (by omega) (by omega)]; exact hday
      have wv : ∀ x, x < 9 → w (k3 + 1) (x * 8 + s) = W (163 + 9 * s + x) := fun x hx => by rw [g1 (k3 + 1) (by omega) (by omega)]; exact hval x hx
      refine t2X2_applies_8 hk hk3 (br_f (nI_pos (by omega)) (br_f (by rw [nI_leI (by omega) (by omega)]; omega) (br_f (by rw [nI_lit, nI_leI (by omega) (by omega)]; omega) ⟨vp_in_nI (by omega) (by decide), ?_⟩)))
      rw [nI_clamp (n := b + j) (by omega), w5, nI_1 (b + j), wd]
      -- what is put on the stack
      have push : ∀ z, m.length < 32 → lwSt (lwF W s) c v st = z :: st → zCV (d + 2) 35 [.ref k0, .int z] w fun w2 => zRun (d + 2) false zcX2_applies 2 Q 8 [(0, .ref k0), (1, .int (nI b)), (2, .int (nI e)), (3, .ref k3), (4, .int (nI s)), (5, .int (nI (b + j + 1)))] [] w2 := fun z h32 hz => by
        rw [hz] at ih
        refine s_push (t := st.length) hk g3 (by omega) ⟨rfl, ?_⟩
        refine ih _ ⟨fun c c1 c2 => (zUp_k _ _ c1).trans ((zUp_k _ _ c2).trans (g1 c c1 c2)), fun i hi => (zUp_j _ _ hi).trans ((zUp_kj _ _ (by omega)).trans (g2 i hi)), zUp_at _ _ _ _, ?_⟩
        rw [zUp_k _ _ (by omega), zUp_row]
        exact ⟨upd_at _ _ _, zStk_up st (Nat.le_refl _) g4⟩
      rcases tyS_cases t3 with ⟨c1, c2, c3⟩ | ⟨rfl, r, c2, c3⟩ | c4
      · have pu : ∀ z, lwF W s c v = z → zCV (d + 2) 35 [.ref k0, .int z] w fun w2 => zRun (d + 2) false zcX2_applies 2 Q 8 [(0, .ref k0), (1, .int (nI b)), (2, .int (nI e)), (3, .ref k3), (4, .int (nI s)), (5, .int (nI (b + j + 1)))] [] w2 := fun z hz => push z c2 (by rw [← hz]; exact if_pos c1)
        by_cases c0 : c = 10
        · subst c0
          have hD : lwD 10 v = nI v := rfl
          rw [hD]
          exact br_f (nI_pos (by omega)) (pu _ rfl)
        · have cs : c = 0 ∨ c = 1 ∨ c = 2 ∨ c = 3 ∨ c = 4 ∨ c = 5 ∨ c = 6 ∨ c = 7 ∨ c = 8 ∨ c = 9 := by omega
          rcases cs with rfl | rfl | rfl | rfl | rfl | rfl | rfl | rfl | rfl | rfl
          · have hD : lwD 0 v = -8 := rfl
            rw [hD]
            exact br_t (by decide) (br_t (by decide) ⟨fun q => absurd rfl q, fun _ => pu _ rfl⟩)
          · have hD : lwD 1 v = -10 := rfl
            have d3 : (-10 : Int32) - (-10) = nI 0 := by decide
            have ek : (nI 0 * 8) + nI s = nI (0 * 8 + s) := by rw [nI_lit, nI_mul, nI_add]
            rw [hD]
            refine br_t (by decide) (br_f (by decide) ?_)
            rw [d3, ek, nI_clamp (n := 0 * 8 + s) (by omega), wv 0 (by decide)]
            exact ⟨vp_in_nI (by decide) (by decide), vp_in_nI hs (by decide), pu _ rfl⟩
          · have hD : lwD 2 v = -11 := rfl
            have d3 : (-10 : Int32) - (-11) = nI 1 := by decide
            have ek : (nI 1 * 8) + nI s = nI (1 * 8 + s) := by rw [nI_lit, nI_mul, nI_add]
            rw [hD]
            refine br_t (by decide) (br_f (by decide) ?_)
            rw [d3, ek, nI_clamp (n := 1 * 8 + s) (by omega), wv 1 (by decide)]
            exact ⟨vp_in_nI (by decide) (by decide), vp_in_nI hs (by decide), pu _ rfl⟩
          · have hD : lwD 3 v = -12 := rfl
            have d3 : (-10 : Int32) - (-12) = nI 2 := by decide
            have ek : (nI 2 * 8) + nI s = nI (2 * 8 + s) := by rw [nI_lit, nI_mul, nI_add]
            rw [hD]
            refine br_t (by decide) (br_f (by decide) ?_)
            rw [d3, ek, nI_clamp (n := 2 * 8 + s) (by omega), wv 2 (by decide)]
            exact ⟨vp_in_nI (by decide) (by decide), vp_in_nI hs (by decide), pu _ rfl⟩
          · have hD : lwD 4 v = -13 := rfl
            have d3 : (-10 : Int32) - (-13) = nI 3 := by decide
            have ek : (nI 3 * 8) + nI s = nI (3 * 8 + s) := by rw [nI_lit, nI_mul, nI_add]
            rw [hD]
            refine br_t (by decide) (br_f (by decide) ?_)
            rw [d3, ek, nI_clamp (n := 3 * 8 + s) (by omega), wv 3 (by decide)]
            exact ⟨vp_in_nI (by decide) (by decide), vp_in_nI hs (by decide), pu _ rfl⟩
          · have hD : lwD 5 v = -14 := rfl
            have d3 : (-10 : Int32) - (-14) = nI 4 := by decide
            have ek : (nI 4 * 8) + nI s = nI (4 * 8 + s) := by rw [nI_lit, nI_mul, nI_add]
            rw [hD]
            refine br_t (by decide) (br_f (by decide) ?_)
            rw [d3, ek, nI_clamp (n := 4 * 8 + s) (by omega), wv 4 (by decide)]
            exact ⟨vp_in_nI (by decide) (by decide), vp_in_nI hs (by decide), pu _ rfl⟩
          · have hD : lwD 6 v = -16 := rfl
            have d3 : (-10 : Int32) - (-16) = nI 6 := by decide
            have ek : (nI 6 * 8) + nI s = nI (6 * 8 + s) := by rw [nI_lit, nI_mul, nI_add]
            rw [hD]
            refine br_t (by decide) (br_f (by decide) ?_)
            rw [d3, ek, nI_clamp (n := 6 * 8 + s) (by omega), wv 6 (by decide)]
            exact ⟨vp_in_nI (by decide) (by decide), vp_in_nI hs (by decide), pu _ rfl⟩
          · have hD : lwD 7 v = -9 := rfl
            rw [hD]
            exact br_t (by decide) (br_t (by decide) ⟨fun _ => ⟨fun q => absurd rfl q, fun _ => pu _ rfl⟩, fun q => absurd q (by decide)⟩)
          · have hD : lwD 8 v = -18 := rfl
            have d3 : (-10 : Int32) - (-18) = nI 8 := by decide
            have ek : (nI 8 * 8) + nI s = nI (8 * 8 + s) := by rw [nI_lit, nI_mul, nI_add]
            rw [hD]
            refine br_t (by decide) (br_f (by decide) ?_)
            rw [d3, ek, nI_clamp (n := 8 * 8 + s) (by omega), wv 8 (by decide)]
            exact ⟨vp_in_nI (by decide) (by decide), vp_in_nI hs (by decide), pu _ rfl⟩
          · have hD : lwD 9 v = -7 := rfl
            rw [hD]
            have ek : ((7 : Int32) * 8) + nI s = nI (7 * 8 + s) := by rw [nI_lit, nI_lit, nI_mul, nI_add]
            rw [ek, nI_clamp (n := 7 * 8 + s) (by omega), wv 7 (by decide)]
            refine br_t (by decide) (br_t (by decide) ⟨fun _ => ⟨fun _ => ⟨fun q => absurd rfl q, fun _ => ⟨vp_in_nI hs (by decide), fun q => pu _ ?_, fun q => pu _ ?_⟩⟩, fun q => absurd q (by decide)⟩, fun q => absurd q (by decide)⟩)
            · show (if W (163 + 9 * s + 7) = W 3 - W 3 / 7 * 7 then (1 : Int32) else 0) = 0
              rw [if_neg q]
            · show (if W (163 + 9 * s + 7) = W 3 - W 3 / 7 * 7 then (1 : Int32) else 0) = 1
              rw [if_pos q]
      · have hD : lwD 14 v = -3 := rfl
        rw [hD]
        subst c2
        cases st with
        | nil => exact tv.elim
        | cons a t =>
          have len2 : t.length = r.length := by simpa using len
          have tl2 : r.length + 1 ≤ 32 := by simpa using tl
          have es : lwSt (lwF W s) 14 v (a :: t) = (1 - a) :: t := rfl
          rw [es] at ih
          refine br_t (by decide) (br_t (by decide) ⟨fun _ => ⟨fun _ => ⟨fun _ => ⟨fun q => absurd rfl q, fun _ => ?_⟩, fun q => absurd q (by decide)⟩, fun q => absurd q (by decide)⟩, fun q => absurd q (by decide)⟩)
          refine s_pop (t := t.length) hk g3 (by omega) ⟨_, rfl, ?_⟩
          rw [g4.1]
          refine s_push (t := t.length) hk (zUp_at _ _ _ _) (by omega) ⟨rfl, ?_⟩
          refine ih _ ⟨fun c c1 c2 => (zUp_k _ _ c1).trans ((zUp_k _ _ c2).trans ((zUp_k _ _ c1).trans (g1 c c1 c2))), fun i hi => (zUp_j _ _ hi).trans ((zUp_kj _ _ (by omega)).trans ((zUp_j _ _ hi).trans (g2 i hi))), zUp_at _ _ _ _, ?_⟩
          rw [zUp_k _ _ (by omega), zUp_row, zUp_k _ _ (by omega)]
          exact ⟨upd_at _ _ _, zStk_up t (Nat.le_refl _) g4.2⟩
      · have c5 : ∃ p r, m = p :: p :: r ∧ (c = 11 ∨ (c = 12 ∨ c = 13) ∨ ((c = 15 ∨ c = 16) ∧ p = true)) := by
          rcases c4 with ⟨a, r, b, -⟩ | ⟨a, r, b, -⟩ | ⟨a, r, b, -⟩
          · exact ⟨_, r, b, Or.inl a⟩
          · exact ⟨_, r, b, Or.inr (Or.inl a)⟩
          · exact ⟨_, r, b, Or.inr (Or.inr ⟨a, rfl⟩)⟩
        obtain ⟨p, r, c2, c6⟩ := c5
        subst c2
        cases st with
        | nil => exact tv.elim
        | cons y st => cases st with
          | nil => exact tv.2.elim
          | cons x t =>
            have len2 : t.length = r.length := by simpa using len
            have tl2 : r.length + 2 ≤ 32 := by simpa using tl
            have es : lwSt (lwF W s) c v (y :: x :: t) = lwO c x y :: t := by
              unfold lwSt
              rw [if_neg (by omega), if_neg (by omega)]; rfl
            rw [es] at ih
            have y0 : w (k0 + 6) (t.length + 1) = y := g4.1
            have x0 : w (k0 + 6) t.length = x := g4.2.1
            have dd : lwD c v = lwD c 0 ∧ lwD c 0 < 0 ∧ (-10 : Int32) < lwD c 0 ∧ ¬ lwD c 0 = -8 ∧ ¬ lwD c 0 = -9 ∧ ¬ lwD c 0 = -7 ∧ ¬ lwD c 0 = -3 := by
              rcases c6 with rfl | (rfl | rfl) | ⟨rfl | rfl, -⟩ <;> exact ⟨rfl, by decide, by decide, by decide, by decide, by decide, by decide⟩
            rw [dd.1]
            refine br_t dd.2.1 (br_t dd.2.2.1 ⟨fun _ => ⟨fun _ => ⟨fun _ => ⟨fun _ => ?_, fun q => absurd q dd.2.2.2.2.2.2⟩, fun q => absurd q dd.2.2.2.2.2.1⟩, fun q => absurd q dd.2.2.2.2.1⟩, fun q => absurd q dd.2.2.2.1⟩)
            refine s_pop (t := t.length + 1) hk g3 (by omega) ⟨_, rfl, ?_⟩
            rw [y0]
            refine s_pop (t := t.length) hk (zUp_at _ _ _ _) (by omega) ⟨_, rfl, ?_⟩
            rw [zUp_kj (c := k0 + 6) _ _ (by omega), x0]
            refine s_joined (c := c) rfl ?_ ⟨_, rfl, ?_⟩
            · rcases c6 with q | q | ⟨q, hp⟩
              · exact Or.inl q
              · exact Or.inr (Or.inl q)
              · exact Or.inr (Or.inr ⟨q, tv.2.1 hp, tv.1 hp⟩)
            · refine s_push (t := t.length) hk (zUp_at _ _ _ _) (by omega) ⟨rfl, ?_⟩
              refine ih _ ⟨fun c c1 c2 => (zUp_k _ _ c1).trans ((zUp_k _ _ c2).trans ((zUp_k _ _ c1).trans ((zUp_k _ _ c1).trans (g1 c c1 c2)))), fun i hi => (zUp_j _ _ hi).trans ((zUp_kj _ _ (by omega)).trans ((zUp_j _ _ hi).trans ((zUp_j _ _ hi).trans (g2 i hi)))), zUp_at _ _ _ _, ?_⟩
              rw [zUp_k _ _ (by omega), zUp_row, zUp_k _ _ (by omega), zUp_k _ _ (by omega)]
              exact ⟨upd_at _ _ _, zStk_up t (Nat.le_refl _) g4.2.2⟩
