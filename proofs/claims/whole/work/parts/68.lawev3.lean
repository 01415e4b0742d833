theorem nI_ne {a b : Nat} (ha : a < 2 ^ 31) (hb : b < 2 ^ 31) (h : a ≠ b) : ¬ nI a = nI b := fun e => h ((nI_eq ha hb).mp e)
theorem s_holdsLine {d n l s L S : Nat} {a1 a2 : Int32} {u : zM} {Q : Option Value → zM → Prop} (e1 : a1 = nI l) (e2 : a2 = nI s) (hR : zRg (u 129) n) (hs : s < 8) (hok : lwOk (u 129) L S) (hl : l < L)
    (h : ∀ w : zM, (∀ c, c ≠ 137 → w c = u c) → Q (some (.int (if lwHold (lwF (u 129) s) (lwC (u 129)) (lwV (u 129)) (lwB (u 129) l) (lwE (u 129) l) = true then 1 else 0))) w) : zCall (d + 5) false 234 [.ref 128, .int a1, .int a2] u Q := by
  subst e1; subst e2
  obtain ⟨o1, o2, o3, o4, o5⟩ := hok
  obtain ⟨⟨-, -⟩, ⟨-, -⟩, p1, p2, p3, p4, p5⟩ := o5 l hl
  obtain ⟨W, hW⟩ : ∃ W, W = u 129 := ⟨_, rfl⟩
  rw [← hW] at h hR o4 p1 p2 p3 p4 p5
  obtain ⟨b, hb⟩ : ∃ b, b = lwB W l := ⟨_, rfl⟩
  obtain ⟨e, he⟩ : ∃ e, e = lwE W l := ⟨_, rfl⟩
  rw [← hb] at h p1 p3 p5
  rw [← he] at h p2 p3 p4 p5
  have k0 : (476 + (4 * nI l)) = nI (476 + 4 * l) := by rw [nI_lit, nI_lit, nI_mul, nI_add]
  have k2 : nI (476 + 4 * l) + 2 = nI (476 + 4 * l + 2) := by rw [nI_lit, nI_add]
  have k3 : nI (476 + 4 * l) + 3 = nI (476 + 4 * l + 3) := by rw [nI_lit, nI_add]
  refine tX12_holdsLine ?_
  rw [k0, k2, nI_clamp (n := 476 + 4 * l + 2) (by omega), ← hW, p1]
  refine ⟨vp_in_nI (by omega) (by decide), ?_⟩
  refine zFor (σ := zM) (Pr := fun j w => zRun (d + 4) false zcX12_holdsLine 2 Q 22 [(0, .ref 128), (1, .int (nI l)), (2, .int (nI s)), (3, .int (nI (lwEv (lwF W s) (lwC W) (lwV W) b j).length)), (4, .int (nI (476 + 4 * l))), (5, .int (nI (b + j)))] [] w)
    (fun j w => (∀ c, c ≠ 137 → w c = u c) ∧ zStk (w 137) (lwEv (lwF W s) (lwC W) (lwV W) b j)) (e - b) (fun w hw => ?_) (fun j w hj hw ih => ?_) u ⟨fun _ _ => rfl, trivial⟩
  · have w9 : w 129 = W := (hw.1 129 (by decide)).trans hW.symm
    refine tX12_holdsLine_22 ?_
    rw [k3, nI_clamp (n := 476 + 4 * l + 3) (by omega), w9, p2]
    refine ⟨vp_in_nI (by omega) (by decide), fun _ => ?_, fun q => absurd (by rw [nI_leI (by omega) (by omega)]; omega) q⟩
    have h2 := h w hw.1
    have hs2 := hw.2
    unfold lwHold at h2
    rcases p5 with p5 | p5
    · have e0 : e - b = 0 := by omega
      rw [e0] at h2 ⊢
      exact ⟨fun _ => h2, fun q => absurd rfl q⟩
    · have tv := tyEv_v (lwF_01 hR hs) (V := lwV W) _ _ p5
      cases hx : lwEv (lwF W s) (lwC W) (lwV W) b (e - b) with
      | nil => rw [hx] at tv; exact tv.elim
      | cons x t =>
        rw [hx] at tv h2 hs2
        cases t with
        | cons y t => exact tv.2.elim
        | nil =>
          have x0 : w 137 0 = x := hs2.1
          rw [x0]
          refine ⟨fun q => absurd q (show ¬ nI 1 = 0 by decide), fun _ => ⟨fun q => ?_, fun q => ?_⟩⟩
          · simpa [q] using h2
          · simpa [q] using h2
  · have w9 : w 129 = W := (hw.1 129 (by decide)).trans hW.symm
    obtain ⟨hwo, hst⟩ := hw
    rcases p5 with p5 | p5
    · omega
    · obtain ⟨l1, t1⟩ := tyEv_le (e - b - (j + 1)) (j + 1) [true] (by rw [show j + 1 + (e - b - (j + 1)) = e - b by omega]; exact p5)
      obtain ⟨m, t2, t3⟩ := tyEv_pre t1
      have tv := tyEv_v (lwF_01 hR hs) (V := lwV W) _ _ t2
      have tl := tyEv_len _ _ t2
      obtain ⟨q1, q2, q3, q4⟩ := o4 (b + j) (by omega)
      have ev : lwEv (lwF W s) (lwC W) (lwV W) b (j + 1) = lwSt (lwF W s) (lwC W (b + j)) (lwV W (b + j)) (lwEv (lwF W s) (lwC W) (lwV W) b j) := rfl
      rw [ev] at ih
      obtain ⟨st, hst0⟩ : ∃ st, st = lwEv (lwF W s) (lwC W) (lwV W) b j := ⟨_, rfl⟩
      rw [← hst0] at ih hst tv ⊢
      obtain ⟨c, hc⟩ : ∃ c, c = lwC W (b + j) := ⟨_, rfl⟩
      obtain ⟨v, hv⟩ : ∃ v, v = lwV W (b + j) := ⟨_, rfl⟩
      rw [← hc] at ih q1 q2 t3
      rw [← hv] at ih q3 q4
      have len := tyV_len _ _ tv
      have ek : (524 + (2 * nI (b + j))) = nI (524 + 2 * (b + j)) := by rw [nI_lit, nI_lit, nI_mul, nI_add]
      have ek1 : nI (524 + 2 * (b + j)) + 1 = nI (525 + 2 * (b + j)) := by rw [nI_lit, nI_add]; congr 1; omega
      refine tX12_holdsLine_22 ?_
      rw [k3, nI_clamp (n := 476 + 4 * l + 3) (by omega), ek, ek1, nI_clamp (n := 524 + 2 * (b + j)) (by omega), nI_clamp (n := 525 + 2 * (b + j)) (by omega), w9, p2, q1, q3, nI_1 (b + j)]
      refine ⟨vp_in_nI (by omega) (by decide), fun q => absurd q (by rw [nI_leI (by omega) (by omega)]; omega), fun _ => ⟨vp_in_nI (by omega) (by decide), ?_⟩⟩
      rcases tyS_cases t3 with ⟨c1, c2, c3⟩ | ⟨rfl, r, c2, c3⟩ | ⟨c1, r, c2, c3⟩ | ⟨c1, r, c2, c3⟩ | ⟨c1, r, c2, c3⟩
      · refine ⟨fun q => absurd q (by rw [nI_lit, nI_ltI (by omega) (by omega)]; omega), fun _ => ⟨vp_in_nI (by omega) (by decide), ?_⟩⟩
        refine s_factOf rfl rfl rfl c1 hs ⟨_, rfl, vp_in_nI (by omega) (by decide), ?_⟩
        rw [w9, nI_clamp (n := st.length) (by omega), nI_1 st.length]
        have e1 : lwSt (lwF W s) c v st = lwF W s c v :: st := if_pos c1
        rw [e1] at ih
        exact ih _ ⟨fun k hk => (zUp_k _ _ hk).trans (hwo k hk), by rw [zUp_row]; exact ⟨upd_at _ _ _, zStk_up st (Nat.le_refl _) hst⟩⟩
      · subst c2
        cases st with
        | nil => exact tv.elim
        | cons a t =>
          have e1 : lwSt (lwF W s) 14 v (a :: t) = (1 - a) :: t := rfl
          rw [e1] at ih
          have len2 : t.length = r.length := by simpa using len
          have tl2 : r.length + 1 ≤ 32 := by simpa using tl
          have n1 : nI (a :: t).length - 1 = nI t.length := nI_sub1 t.length
          rw [n1, nI_clamp (n := t.length) (by omega), hst.1]
          refine ⟨fun _ => ⟨fun q => absurd rfl q, fun _ => ⟨vp_in_nI (by omega) (by decide), vp_in_nI (by omega) (by decide), ?_⟩⟩, fun q => absurd (by decide) q⟩
          exact ih _ ⟨fun k hk => (zUp_k _ _ hk).trans (hwo k hk), by rw [zUp_row]; exact ⟨upd_at _ _ _, zStk_up t (Nat.le_refl _) hst.2⟩⟩
      all_goals
        subst c2
        cases st with
        | nil => exact tv.elim
        | cons y st => cases st with
          | nil => exact tv.2.elim
          | cons x t =>
            have len2 : t.length = r.length := by simpa using len
            have tl2 : r.length + 2 ≤ 32 := by simpa using tl
            have n1 : nI (y :: x :: t).length + (-1) = nI (t.length + 1) := nI_dec (t.length + 1)
            have n2 : nI (t.length + 1) - 1 = nI t.length := nI_sub1 t.length
            have y0 : w 137 (t.length + 1) = y := hst.1
            have x0 : w 137 t.length = x := hst.2.1
            have v1 : vp_in (nI t.length) 400 := vp_in_nI (by omega) (by decide)
            have v2 : vp_in (nI (t.length + 1)) 400 := vp_in_nI (by omega) (by decide)
            have e1 : lwSt (lwF W s) c v (y :: x :: t) = lwO c x y :: t := by
              unfold lwSt
              rw [if_neg (by omega), if_neg (by omega)]; rfl
            rw [e1] at ih
            rw [n1, n2, nI_clamp (n := t.length) (by omega), nI_clamp (n := t.length + 1) (by omega), y0, x0]
            have fin : ∀ z, z = lwO c x y → zRun (d + 4) false zcX12_holdsLine 2 Q 22 [(0, .ref 128), (1, .int (nI l)), (2, .int (nI s)), (3, .int (nI (t.length + 1))), (4, .int (nI (476 + 4 * l))), (5, .int (nI (b + j + 1)))] [] (zUp w 137 t.length z) := fun z hz => by
              rw [hz]
              exact ih _ ⟨fun k hk => (zUp_k _ _ hk).trans (hwo k hk), by rw [zUp_row]; exact ⟨upd_at _ _ _, zStk_up t (Nat.le_refl _) hst.2.2⟩⟩
            clear ih h
            have n14 : ¬ nI c = 14 := nI_ne (a := c) (b := 14) (by omega) (by decide) (by omega)
            have g10 : (10 : Int32) < nI c := by rw [nI_lit, nI_ltI (by omega) (by omega)]; omega
            refine ⟨fun _ => ⟨fun _ => ⟨v1, v2, ?_⟩, fun q => absurd q n14⟩, fun q => absurd g10 q⟩
            first
              | (obtain rfl : c = 11 := c1
                 have m12 : ¬ nI 11 = 12 := by decide
                 have m13 : ¬ nI 11 = 13 := by decide
                 have m15 : ¬ nI 11 = 15 := by decide
                 have lf : (¬ nI 11 = 11 → vp_in (nI t.length) 400 ∧ zRun (d + 4) false zcX12_holdsLine 2 Q 22 [(0, .ref 128), (1, .int (nI l)), (2, .int (nI s)), (3, .int (nI (t.length + 1))), (4, .int (nI (476 + 4 * l))), (5, .int (nI (b + j + 1)))] [] (zUp w 137 t.length 0)) ∧ (nI 11 = 11 → vp_in (nI t.length) 400 ∧ zRun (d + 4) false zcX12_holdsLine 2 Q 22 [(0, .ref 128), (1, .int (nI l)), (2, .int (nI s)), (3, .int (nI (t.length + 1))), (4, .int (nI (476 + 4 * l))), (5, .int (nI (b + j + 1)))] [] (zUp w 137 t.length (x + y))) := ⟨fun q => absurd rfl q, fun _ => ⟨v1, fin _ rfl⟩⟩
                 exact ⟨fun _ => ⟨fun _ => ⟨fun _ => ⟨fun _ => lf, fun _ => ⟨fun q => absurd rfl q, lf.2⟩⟩, fun q => absurd q m15⟩, fun q => absurd q m13⟩, fun q => absurd q m12⟩)
              | (rcases c1 with rfl | rfl
                 · have m11 : ¬ nI 12 = 11 := by decide
                   refine ⟨fun q => absurd rfl q, fun _ => ⟨fun q => ⟨fun _ => ⟨v1, fin _ ?_⟩, fun z => absurd z m11⟩, fun q => ⟨fun _ => ⟨v1, fin _ ?_⟩, fun z => absurd z m11⟩⟩⟩
                   · show (0 : Int32) = if x < y then 1 else 0
                     rw [if_neg (Int32.not_lt.mpr q)]
                   · show (1 : Int32) = if x < y then 1 else 0
                     rw [if_pos (Int32.not_le.mp q)]
                 · have m11 : ¬ nI 13 = 11 := by decide
                   have m12 : ¬ nI 13 = 12 := by decide
                   refine ⟨fun _ => ⟨fun q => absurd rfl q, fun _ => ⟨fun q => ⟨fun _ => ⟨v1, fin _ ?_⟩, fun z => absurd z m11⟩, fun q => ⟨fun _ => ⟨v1, fin _ ?_⟩, fun z => absurd z m11⟩⟩⟩, fun q => absurd q m12⟩
                   · show (0 : Int32) = if y < x then 1 else 0
                     rw [if_neg (Int32.not_lt.mpr q)]
                   · show (1 : Int32) = if y < x then 1 else 0
                     rw [if_pos (Int32.not_le.mp q)])
              | (rcases c1 with rfl | rfl
                 · have m11 : ¬ nI 15 = 11 := by decide
                   have m12 : ¬ nI 15 = 12 := by decide
                   have m13 : ¬ nI 15 = 13 := by decide
                   refine ⟨fun _ => ⟨fun _ => ⟨fun q => absurd rfl q, fun _ => ⟨fun q => ⟨fun _ => ⟨v1, fin _ ?_⟩, fun z => absurd z m11⟩, fun q => ⟨fun _ => ⟨v1, fin _ ?_⟩, fun z => absurd z m11⟩⟩⟩, fun q => absurd q m13⟩, fun q => absurd q m12⟩
                   · show (0 : Int32) = if x + y = 2 then 1 else 0
                     rw [if_neg q]
                   · show (1 : Int32) = if x + y = 2 then 1 else 0
                     rw [if_pos q]
                 · have m11 : ¬ nI 16 = 11 := by decide
                   have m12 : ¬ nI 16 = 12 := by decide
                   have m13 : ¬ nI 16 = 13 := by decide
                   have m15 : ¬ nI 16 = 15 := by decide
                   refine ⟨fun _ => ⟨fun _ => ⟨fun _ => ⟨fun q => ⟨fun _ => ⟨v1, fin _ ?_⟩, fun z => absurd z m11⟩, fun q => ⟨fun _ => ⟨v1, fin _ ?_⟩, fun z => absurd z m11⟩⟩, fun q => absurd q m15⟩, fun q => absurd q m13⟩, fun q => absurd q m12⟩
                   · show (0 : Int32) = if 0 < x + y then 1 else 0
                     rw [if_neg (Int32.not_lt.mpr q)]
                   · show (1 : Int32) = if 0 < x + y then 1 else 0
                     rw [if_pos (Int32.not_le.mp q)])
