/-! THE SUBURB: the pair of calls -/
theorem s_copyBack {d : Nat} {u : zM} {Q : Option Value → zM → Prop}
    (h : ∀ w : zM, (∀ c, (c < 4 ∨ 17 < c) → w c = u c) → (∀ W, zDyV u 23 W → zDyV w 4 W) → (∀ V, zLg u 26 V → zLg w 7 V) → (∀ a b, a < 12 → b < 12 → w 10 (a * 12 + b) = u 29 (a * 12 + b)) → (∀ W, lwRel u 31 W → lwRel w 12 W) → Q none w) : zCall (d + 3) false 59 [.ref 3, .ref 22] u Q := by
  refine t2X6_copyFrom (k0 := 3) (k1 := 22) rfl rfl ?_
  refine s_copyDays (k0 := 4) (k1 := 23) rfl rfl (by omega) (fun w1 f1 d1 => ⟨rfl, ?_⟩)
  refine tX5_copyFrom (k0 := 9) (k1 := 28) rfl rfl (fun m1 e1 => ⟨rfl, ?_⟩)
  obtain ⟨w2, ew2⟩ : ∃ w2, w2 = zRow m1 (9 + 2) (va_cpy (m1 (28 + 2)) (m1 (9 + 2)) (0 : Int32).toNatClampNeg (0 : Int32).toNatClampNeg (144 : Int32).toNatClampNeg) := ⟨_, rfl⟩
  have f2 : ∀ c, c ≠ 10 → c ≠ 11 → w2 c = w1 c := fun c a b => by rw [ew2, zRow_ne _ _ b, e1, zRow_ne _ _ a]
  have r2 : ∀ a b, a < 12 → b < 12 → w2 10 (a * 12 + b) = u 29 (a * 12 + b) := fun a b ha hb => by
    rw [ew2, zRow_ne _ _ (by decide), e1, zRow_self]
    refine (cpy0 (n := 144) (by omega) (by omega)).trans ?_
    rw [f1 _ (by omega)]
  rw [← ew2]
  refine s_copyLaw (k0 := 12) (k1 := 31) rfl rfl (by omega) (fun w3 f3 d3 d4 => ⟨rfl, ?_⟩)
  refine h w3 (fun c hc => by rw [f3 c (by omega), f2 c (by omega) (by omega), f1 c (by omega)]) (fun W hW => ?_) (fun V hV => ?_) (fun a b ha hb => ?_) (fun W hW => ?_)
  · exact (d1.dy hW).congr (fun c a b => by rw [f3 c (by omega), f2 c (by omega) (by omega)])
  · exact (d1.lg hV).congr (by rw [f3 _ (by omega), f2 _ (by omega) (by omega)]) (by rw [f3 _ (by omega), f2 _ (by omega) (by omega)])
  · rw [f3 10 (by omega)]; exact r2 a b ha hb
  · exact d4 W (hW.congr (by rw [f2 _ (by omega) (by omega), f1 _ (by omega)]) (fun c a b => by rw [f2 _ (by omega) (by omega), f1 _ (by omega)]))
theorem zDyV.tx {u : zM} {k : Nat} {W : Nat → Int32} (v : Int32) (h : zDyV u k W) : zDyV (zUp u k 4 v) k (upd W 1 v) := by
  obtain ⟨⟨a1, a2, a3, a4, a5, a6, a7, a8, a9⟩, b, c⟩ := h
  refine ⟨?_, fun s w hs hw => ?_, fun p hp => ?_⟩
  · refine ⟨?_, ?_, ?_, ?_, ?_, ?_, ?_, ?_, ?_⟩
    all_goals first | (rw [zUp_at, upd_at]) | (rw [zUp_j _ _ (by decide), upd_ne _ _ (by decide)]; assumption)
  · rw [zUp_k _ _ (by omega), upd_ne _ _ (by omega)]; exact b s w hs hw
  · rw [zUp_k _ _ (by omega), upd_ne _ _ (by omega)]; exact c p hp
set_option maxHeartbeats 2000000 in
theorem op_suburb : zOkT 109 229 [] [(1, 1), (4, 2)] := by
  intro u ⟨n, hI⟩
  have hI' := hI
  obtain ⟨⟨hR, hF, hDy, hSt⟩, hL, hT, hP, hM, hK⟩ := hI'
  obtain ⟨L, B, h4, t1, t2, b1, b2⟩ := hT.bytes
  have hD : zDtx u B L := ⟨h4, t1, b1⟩
  obtain ⟨t, ht, et⟩ := hR.2.1
  have e44 : u 4 4 = nI t := hDy.1.2.1.trans et
  cases es : (sbT B L (u 129)).1 with
  | inl f =>
    refine Or.inr (t2TX11_suburb (s_sbRead hI hD (fun w f1 f2 f3 f4 f5 f6 => ?_)))
    have f3 : tkS w B L (sbT B L (u 129)).1 := f3
    rw [es] at f3
    obtain ⟨-, hfL, w2, -⟩ := f3
    intro m7 e7
    have m2 : m7 1 2 = nI f := by rw [e7, zUp_j _ _ (by decide)]; exact w2
    refine ⟨fun z => absurd (m2.symm.trans z) (nI_nm1 (by omega)), fun _ => ?_⟩
    have mc : ∀ c, c ≠ 1 → (c < 23 ∨ 36 < c) → m7 c = u c := fun c a b => by rw [e7, zUp_k _ _ a]; exact f1 c a b
    have m9 : m7 129 = u 129 := mc 129 (by decide) (by omega)
    refine m_suburb (L := L) (B := B) (n := n) (by rw [m9]; exact hR) (by rw [mc 128 (by decide) (by omega)]; exact t2) h4 (by rw [mc 135 (by decide) (by omega)]; exact b2) (fun g z M e z9 z34 z7 z0 z15 => ?_) (fun c z M e => ?_) (fun c z M e => ?_)
    · rw [m9, es] at e
      obtain rfl : f = g := Sum.inl.inj e
      refine ⟨⟨n, zInv_tape hI (fun c hc h2 h3 => ?_) ?_ ?_ ⟨⟨0, Nat.zero_le _, ?_, M.2.2, fun i hi => absurd hi (Nat.not_lt_zero _)⟩, ?_⟩⟩, 1, 1, rfl, by simp, z0⟩
      · by_cases c9 : c = 129
        · subst c9; rw [z9, m9]
        · by_cases c34 : c = 134
          · subst c34; rw [z34, mc 134 (by decide) (by omega)]
          · have n1 : c ≠ 128 := fun z => by subst z; exact absurd hc (by decide)
            have n2 : c ≠ 131 := fun z => by subst z; exact absurd hc (by decide)
            have n3 : c ≠ 1 := fun z => by subst z; exact absurd hc (by decide)
            have n4 : c < 23 ∨ 36 < c := by
              simp only [zCare, Bool.or_eq_true, Bool.and_eq_true, decide_eq_true_eq, beq_iff_eq] at hc; omega
            rw [M.1 c n1 c9 n2 c34, mc c n3 n4]
      · rw [M.2.1 6 (by decide) (by decide) (by decide) (by decide) (by decide) (by decide) (by decide) (by decide), mc 128 (by decide) (by omega)]
      · rw [z7, mc 128 (by decide) (by omega)]
      · rw [M.1 1 (by decide) (by decide) (by decide) (by decide), e7, zUp_at]; rfl
      · rw [M.1 1 (by decide) (by decide) (by decide) (by decide), m2, z15]
    · rw [m9, es] at e; cases e
    · rw [m9, es] at e; cases e
  | inr c =>
    obtain ⟨kk, p, hp⟩ := sbT_ok hR es
    by_cases t12 : t < 12
    · refine Or.inl (t2X11_suburb (s_sbRead hI hD (fun w f1 f2 f3 f4 f5 f6 => ?_)))
      have f3 : tkS w B L (sbT B L (u 129)).1 := f3
      have f4 : plD w (sbT B L (u 129)).2 := f4
      obtain ⟨V, hV⟩ : ∃ V, V = (sbT B L (u 129)).2 := ⟨_, rfl⟩
      rw [es] at f3
      rw [← hV] at f4 kk hp
      have w2 := f3.2.2.2.2.1
      intro m7 e7
      have m2 : m7 1 2 = -1 := by rw [e7, zUp_j _ _ (by decide)]; exact w2
      have mc : ∀ c, c ≠ 1 → (c < 23 ∨ 36 < c) → m7 c = u c := fun c a b => by rw [e7, zUp_k _ _ a]; exact f1 c a b
      refine ⟨fun _ => ⟨fun _ => ?_, fun z => absurd ?_ z⟩, fun z => absurd m2 z⟩
      rotate_left
      · rw [mc 4 (by decide) (by omega), e44, nI_lit, nI_ltI (by omega) (by omega)]; exact t12
      refine s_copyBack (fun w8 g1 g2 g3 g4 g5 => ⟨rfl, fun m10 e10 => ?_⟩)
      have V1 : V 1 = nI t := (kk 1 (Or.inl rfl)).trans et
      have D8 : zDyV w8 4 V := g2 V (f4.1.congr (fun c a b => by rw [e7, zUp_k _ _ (by omega)]))
      have x44 : w8 4 4 + 1 = nI (t + 1) := by rw [D8.1.2.1, V1, nI_1]
      rw [x44] at e10
      obtain ⟨V', hV'⟩ : ∃ V', V' = upd V 1 (nI (t + 1)) := ⟨_, rfl⟩
      have D10 : zDyV m10 4 V' := by rw [e10, hV']; exact D8.tx (nI (t + 1))
      have R' : zRg V' p := by rw [hV']; exact hp.tx (by omega)
      have rd10 : ∀ a b, a < 12 → b < 12 → m10 10 (a * 12 + b) = V' (11 + 12 * a + b) := fun a b ha hb => by
        rw [e10, zUp_k _ _ (by decide), g4 a b ha hb, e7, zUp_k _ _ (by decide), f4.2 a b ha hb, hV', upd_ne _ _ (by omega)]
      refine s_measure (k0 := 9) (r := rdN V') rfl (zRd_le R') (fun a b ha hb => (rd10 a b ha hb).trans (zRd_eq R' ha hb)) (fun w11 i1 i2 => ⟨rfl, fun m13 e13 m14 e14 => ?_⟩)
      have mk : ∀ c, c ≠ 0 → c ≠ 121 → c ≠ 11 → m14 c = m10 c := fun c a b d => by rw [e14, zUp_k _ _ a, e13, zUp_k _ _ b, i1 c d]
      have mu : ∀ c, c ≠ 0 → c ≠ 1 → c ≠ 121 → (c < 4 ∨ 17 < c) → (c < 23 ∨ 36 < c) → m14 c = u c := fun c a x b d e => by rw [mk c a b (by omega), e10, zUp_k _ _ (by omega), g1 c d, mc c x e]
      intro o
      obtain ⟨x, hx⟩ : ∃ x, x = zUp m14 142 0 o := ⟨_, rfl⟩
      rw [← hx]
      have xk : ∀ c, c ≠ 142 → x c = m14 c := fun c a => by rw [hx, zUp_k _ _ a]
      have xu : ∀ c, c ≠ 142 → c ≠ 0 → c ≠ 1 → c ≠ 121 → (c < 4 ∨ 17 < c) → (c < 23 ∨ 36 < c) → x c = u c := fun c y a x b d e => (xk c y).trans (mu c a x b d e)
      have x9 : x 129 = u 129 := xu 129 (by decide) (by decide) (by decide) (by decide) (by omega) (by omega)
      have a44 : m14 4 4 = nI (t + 1) := by rw [mk 4 (by decide) (by decide) (by decide), e10, zUp_at]
      rw [a44]
      have n12 : ¬ x 129 1 = 12 := by rw [x9, et]; exact nI_ne (b := 12) (by omega) (by decide) (by omega)
      refine m_suburb (L := L) (B := B) (n := n) (by rw [x9]; exact hR) (by rw [xu 128 (by decide) (by decide) (by decide) (by decide) (by omega) (by omega)]; exact t2) h4 (by rw [xu 135 (by decide) (by decide) (by decide) (by decide) (by omega) (by omega)]; exact b2) (fun g z M e => ?_) (fun c z M e q => absurd q n12) (fun c z M e _ z9 z34 z7 z0 z15 => ?_)
      · rw [x9, es] at e; cases e
      · rw [x9, ← hV, et, nI_1 t, ← hV'] at z9
        rw [x9, et, nI_1 t]
        have zx : ∀ c, c ≠ 128 → c ≠ 129 → c ≠ 131 → c ≠ 134 → c ≠ 142 → z c = m14 c := fun c a b d e y => (M.1 c a b d e).trans (xk c y)
        have zu : ∀ c, c ≠ 128 → c ≠ 129 → c ≠ 131 → c ≠ 134 → c ≠ 142 → c ≠ 0 → c ≠ 1 → c ≠ 121 → (c < 4 ∨ 17 < c) → (c < 23 ∨ 36 < c) → z c = u c := fun c a b d e y p q r s v => (zx c a b d e y).trans (mu c p q r s v)
        have kk' : ∀ k, k = 2 ∨ k = 9 ∨ k = 10 ∨ 235 ≤ k → V' k = u 129 k := fun k hk => by rw [hV', upd_ne _ _ (by omega)]; exact kk k (by omega)
        refine ⟨rfl, z0, p, ⟨by rw [z9]; exact R', z34, ?_, ?_⟩, ?_, ⟨⟨0, Nat.zero_le _, ?_, M.2.2, fun i hi => absurd hi (Nat.not_lt_zero _)⟩, ?_⟩, ?_, ?_, Or.inl ?_, ?_⟩
        · rw [z9]
          refine (D10.congr (w := z) (fun c a b => ?_)).dy ?_
          · rw [zx c (by omega) (by omega) (by omega) (by omega) (by omega), mk c (by omega) (by omega) (by omega)]
          · have l8 : zLg w8 7 (u 129) := g3 _ (f5.congr (by rw [e7, zUp_k _ _ (by decide)]) (by rw [e7, zUp_k _ _ (by decide)]))
            refine (l8.congr (w := z) ?_ ?_).lrow (kk' 9 (by omega)) (fun k a b => kk' k (by omega))
            · rw [zx 7 (by decide) (by decide) (by decide) (by decide) (by decide), mk 7 (by decide) (by decide) (by decide), e10, zUp_k _ _ (by decide)]
            · rw [zx (7 + 1) (by decide) (by decide) (by decide) (by decide) (by decide), mk (7 + 1) (by decide) (by decide) (by decide), e10, zUp_k _ _ (by decide)]
        · rw [z9]
          refine ⟨fun a b ha hb => ?_, fun a b ha hb => ?_⟩
          · rw [zx (9 + 1) (by decide) (by decide) (by decide) (by decide) (by decide), mk (9 + 1) (by decide) (by decide) (by decide)]; exact rd10 a b ha hb
          · rw [zx (9 + 2) (by decide) (by decide) (by decide) (by decide) (by decide), e14, zUp_k _ _ (by decide), e13, zUp_k _ _ (by decide)]; exact i2 a b ha hb
        · rw [z9]
          have l8 : lwRel w8 12 (u 129) := g5 _ (f6.congr (by rw [e7, zUp_k _ _ (by decide)]) (fun c a b => by rw [e7, zUp_k _ _ (by omega)]))
          refine (l8.congr (w := z) ?_ (fun c a b => ?_)).row2 (kk' 2 (by omega)) (fun k a b => kk' k (by omega))
          · rw [zx 12 (by decide) (by decide) (by decide) (by decide) (by decide), mk 12 (by decide) (by decide) (by decide), e10, zUp_k _ _ (by decide)]
          · rw [zx c (by omega) (by omega) (by omega) (by omega) (by omega), mk c (by omega) (by omega) (by omega), e10, zUp_k _ _ (by omega)]
        · rw [zx 1 (by decide) (by decide) (by decide) (by decide) (by decide), mk 1 (by decide) (by decide) (by decide), e10, zUp_k _ _ (by decide), g1 1 (by omega), e7, zUp_at]; rfl
        · rw [zx 1 (by decide) (by decide) (by decide) (by decide) (by decide), mk 1 (by decide) (by decide) (by decide), e10, zUp_k _ _ (by decide), g1 1 (by omega), m2, z15]
        · obtain ⟨A, N, hA, hN, p1, p2, p3, p4⟩ := hP
          refine ⟨0, N, Nat.zero_le _, hN, ?_, by rw [z7]; rfl, ?_, fun j hj => absurd hj (Nat.not_lt_zero _)⟩
          · rw [zx 0 (by decide) (by decide) (by decide) (by decide) (by decide), e14, zUp_at]; rfl
          · rw [zx 0 (by decide) (by decide) (by decide) (by decide) (by decide), e14, zUp_j _ _ (by decide), e13, zUp_k _ _ (by decide), i1 0 (by decide), e10, zUp_k _ _ (by decide), g1 0 (by omega), mc 0 (by decide) (by omega)]; exact p3
        · refine hM.congr ?_ ?_ (zu 130 (by decide) (by decide) (by decide) (by decide) (by decide) (by decide) (by decide) (by decide) (by omega) (by omega)) (fun c a b => zu c (by omega) (by omega) (by omega) (by omega) (by omega) (by omega) (by omega) (by omega) (by omega) (by omega))
          · rw [zx 0 (by decide) (by decide) (by decide) (by decide) (by decide), e14, zUp_j _ _ (by decide), e13, zUp_k _ _ (by decide), i1 0 (by decide), e10, zUp_k _ _ (by decide), g1 0 (by omega), mc 0 (by decide) (by omega)]
          · rw [M.2.1 6 (by decide) (by decide) (by decide) (by decide) (by decide) (by decide) (by decide) (by decide), xu 128 (by decide) (by decide) (by decide) (by decide) (by omega) (by omega)]
        · rw [zx 121 (by decide) (by decide) (by decide) (by decide) (by decide), e14, zUp_k _ _ (by decide), e13, zUp_at]
        · rw [zu 124 (by decide) (by decide) (by decide) (by decide) (by decide) (by decide) (by decide) (by decide) (by omega) (by omega)]; exact hK.2
    · have e12 : t = 12 := by omega
      subst e12
      refine Or.inr (t2TX11_suburb (s_sbRead hI hD (fun w f1 f2 f3 f4 f5 f6 => ?_)))
      have f3 : tkS w B L (sbT B L (u 129)).1 := f3
      rw [es] at f3
      have w2 := f3.2.2.2.2.1
      intro m7 e7
      have m2 : m7 1 2 = -1 := by rw [e7, zUp_j _ _ (by decide)]; exact w2
      have mc : ∀ c, c ≠ 1 → (c < 23 ∨ 36 < c) → m7 c = u c := fun c a b => by rw [e7, zUp_k _ _ a]; exact f1 c a b
      refine ⟨fun _ => ⟨fun z => absurd z ?_, fun _ => ?_⟩, fun z => absurd m2 z⟩
      · rw [mc 4 (by decide) (by omega), e44]; decide
      have m9 : m7 129 = u 129 := mc 129 (by decide) (by omega)
      have is12 : m7 129 1 = 12 := by rw [m9, et]; rfl
      refine m_suburb (L := L) (B := B) (n := n) (by rw [m9]; exact hR) (by rw [mc 128 (by decide) (by omega)]; exact t2) h4 (by rw [mc 135 (by decide) (by omega)]; exact b2) (fun g z M e => ?_) (fun c z M e _ z9 z34 z7 z0 z15 => ?_) (fun c z M e q => absurd is12 q)
      · rw [m9, es] at e; cases e
      · refine ⟨⟨n, zInv_tape hI (fun c hc h2 h3 => ?_) ?_ ?_ ⟨⟨0, Nat.zero_le _, ?_, M.2.2, fun i hi => absurd hi (Nat.not_lt_zero _)⟩, ?_⟩⟩, 4, 2, rfl, by simp, z0⟩
        · by_cases c9 : c = 129
          · subst c9; rw [z9, m9]
          · by_cases c34 : c = 134
            · subst c34; rw [z34, mc 134 (by decide) (by omega)]
            · have n1 : c ≠ 128 := fun z => by subst z; exact absurd hc (by decide)
              have n2 : c ≠ 131 := fun z => by subst z; exact absurd hc (by decide)
              have n3 : c ≠ 1 := fun z => by subst z; exact absurd hc (by decide)
              have n4 : c < 23 ∨ 36 < c := by
                simp only [zCare, Bool.or_eq_true, Bool.and_eq_true, decide_eq_true_eq, beq_iff_eq] at hc; omega
              rw [M.1 c n1 c9 n2 c34, mc c n3 n4]
        · rw [M.2.1 6 (by decide) (by decide) (by decide) (by decide) (by decide) (by decide) (by decide) (by decide), mc 128 (by decide) (by omega)]
        · rw [z7, mc 128 (by decide) (by omega)]
        · rw [M.1 1 (by decide) (by decide) (by decide) (by decide), e7, zUp_at]; rfl
        · rw [M.1 1 (by decide) (by decide) (by decide) (by decide), m2, z15]
