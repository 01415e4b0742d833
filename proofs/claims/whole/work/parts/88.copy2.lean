theorem s_copyStreets {d k0 k1 : Nat} {u : zM} {Q : Option Value → zM → Prop} (hk0 : zShapes[k0]? = some (.inl 5)) (hk1 : zShapes[k1]? = some (.inl 5)) (ap : k0 + 2 < k1 ∨ k1 + 2 < k0)
    (h : ∀ w : zM, (∀ c, c ≠ k0 + 1 → c ≠ k0 + 2 → w c = u c) → (∀ W, zSt u k1 W → zSt w k0 W) → Q none w) : zCall (d + 1) false 53 [.ref k0, .ref k1] u Q := by
  refine tX5_copyFrom hk0 hk1 (fun m1 e1 => ?_)
  refine h _ (fun c a b => by rw [zRow_ne _ _ b, e1, zRow_ne _ _ a]) (fun W hS => ⟨fun a b ha hb => ?_, fun a b ha hb => ?_⟩)
  · rw [zRow_ne _ _ (by omega), e1, zRow_self]
    exact (cpy0 (n := 144) (by omega) (by omega)).trans (hS.1 a b ha hb)
  · rw [zRow_self]
    refine (cpy0 (n := 144) (by omega) (by omega)).trans ?_
    rw [e1, zRow_ne _ _ (by omega)]
    exact hS.2 a b ha hb
theorem s_copyLaw {d k0 k1 : Nat} {u : zM} {Q : Option Value → zM → Prop} (hk0 : zShapes[k0]? = some (.inl 2)) (hk1 : zShapes[k1]? = some (.inl 2)) (ap : k0 + 5 < k1 ∨ k1 + 5 < k0)
    (h : ∀ w : zM, (∀ c, (c < k0 ∨ k0 + 5 < c) → w c = u c) → w k0 6 = u k1 6 → (∀ W, lwRel u k1 W → lwRel w k0 W) → Q none w) : zCall (d + 1) false 31 [.ref k0, .ref k1] u Q := by
  refine tX2_copyFrom hk0 hk1 (fun m1 e1 m2 e2 m3 e3 m4 e4 m5 e5 m6 e6 => ?_)
  have g2 : ∀ c, c ≠ k0 → m2 c = u c := fun c a => by rw [e2, zUp_k _ _ a, e1, zUp_k _ _ a]
  have g3 : ∀ c, c ≠ k0 → c ≠ k0 + 1 → m3 c = u c := fun c a b => by rw [e3, zRow_ne _ _ b, g2 c a]
  have g4 : ∀ c, c ≠ k0 → c ≠ k0 + 1 → c ≠ k0 + 2 → m4 c = u c := fun c a b x => by rw [e4, zRow_ne _ _ x, g3 c a b]
  have g5 : ∀ c, c ≠ k0 → c ≠ k0 + 1 → c ≠ k0 + 2 → c ≠ k0 + 3 → m5 c = u c := fun c a b x y => by rw [e5, zRow_ne _ _ y, g4 c a b x]
  have g6 : ∀ c, c ≠ k0 → c ≠ k0 + 1 → c ≠ k0 + 2 → c ≠ k0 + 3 → c ≠ k0 + 4 → m6 c = u c := fun c a b x y z => by rw [e6, zRow_ne _ _ z, g5 c a b x y]
  obtain ⟨w, ew⟩ : ∃ w, w = zRow m6 (k0 + 5) (va_cpy (m6 (k1 + 5)) (m6 (k0 + 5)) (0 : Int32).toNatClampNeg (0 : Int32).toNatClampNeg (400 : Int32).toNatClampNeg) := ⟨_, rfl⟩
  rw [← ew]
  have w6 : w k0 6 = u k1 6 := by rw [ew, zRow_ne _ _ (by omega), e6, zRow_ne _ _ (by omega), e5, zRow_ne _ _ (by omega), e4, zRow_ne _ _ (by omega), e3, zRow_ne _ _ (by omega), e2, zUp_j _ _ (by decide), e1, zUp_at]
  have c1 : ∀ j, j < 12 → w (k0 + 1) j = u (k1 + 1) j := fun j hj => by
    rw [ew, zRow_ne _ _ (by omega), e6, zRow_ne _ _ (by omega), e5, zRow_ne _ _ (by omega), e4, zRow_ne _ _ (by omega), e3, zRow_self]
    refine (cpy0 (n := 12) hj (by omega)).trans ?_
    rw [g2 _ (by omega)]
  have c2 : ∀ j, j < 12 → w (k0 + 2) j = u (k1 + 2) j := fun j hj => by
    rw [ew, zRow_ne _ _ (by omega), e6, zRow_ne _ _ (by omega), e5, zRow_ne _ _ (by omega), e4, zRow_self]
    refine (cpy0 (n := 12) hj (by omega)).trans ?_
    rw [g3 _ (by omega) (by omega)]
  have c3 : ∀ j, j < 12 → w (k0 + 3) j = u (k1 + 3) j := fun j hj => by
    rw [ew, zRow_ne _ _ (by omega), e6, zRow_ne _ _ (by omega), e5, zRow_self]
    refine (cpy0 (n := 12) hj (by omega)).trans ?_
    rw [g4 _ (by omega) (by omega) (by omega)]
  have c4 : ∀ j, j < 12 → w (k0 + 4) j = u (k1 + 4) j := fun j hj => by
    rw [ew, zRow_ne _ _ (by omega), e6, zRow_self]
    refine (cpy0 (n := 12) hj (by omega)).trans ?_
    rw [g5 _ (by omega) (by omega) (by omega) (by omega)]
  have c5 : ∀ j, j < 400 → w (k0 + 5) j = u (k1 + 5) j := fun j hj => by
    rw [ew, zRow_self]
    refine (cpy0 (n := 400) hj (by omega)).trans ?_
    rw [g6 _ (by omega) (by omega) (by omega) (by omega) (by omega)]
  refine h w (fun c hc => by rw [ew, zRow_ne _ _ (by omega), g6 c (by omega) (by omega) (by omega) (by omega) (by omega)]) w6 (fun W hr => ⟨fun q => by rw [w6]; exact hr.1 q, fun q => ?_⟩)
  obtain ⟨L, S, ok, r6, rc, rl⟩ := hr.2 q
  have hL := ok.1
  have hS := ok.2.1
  refine ⟨L, S, ok, by rw [w6]; exact r6, fun i hi => by rw [c5 i (by omega)]; exact rc i hi, fun l hl => ?_⟩
  rw [c1 l (by omega), c2 l (by omega), c3 l (by omega), c4 l (by omega)]
  exact rl l hl
theorem s_copySub {d k0 k1 : Nat} {u : zM} {Q : Option Value → zM → Prop} (hk0 : zShapes[k0]? = some (.inl 6)) (hk1 : zShapes[k1]? = some (.inl 6)) (ap : k0 + 15 < k1 ∨ k1 + 15 < k0)
    (h : ∀ w : zM, (∀ c, (c < k0 + 1 ∨ k0 + 14 < c) → w c = u c) → (∀ W, zSb u k1 W → zSb w k0 W) → (∀ V, zLg u (k1 + 4) V → zLg w (k0 + 4) V) → Q none w) : zCall (d + 3) false 59 [.ref k0, .ref k1] u Q := by
  refine t2X6_copyFrom hk0 hk1 ?_
  refine s_copyDays (zs6_1 hk0) (zs6_1 hk1) (by omega) (fun w1 f1 d1 => ⟨rfl, ?_⟩)
  refine s_copyStreets (zs6_6 hk0) (zs6_6 hk1) (by omega) (fun w2 f2 d2 => ⟨rfl, ?_⟩)
  refine s_copyLaw (zs6_9 hk0) (zs6_9 hk1) (by omega) (fun w3 f3 d3 d4 => ⟨rfl, ?_⟩)
  have g : ∀ c, (c < k0 + 1 ∨ k0 + 14 < c) → w3 c = u c := fun c hc => by rw [f3 c (by omega), f2 c (by omega) (by omega), f1 c (by omega)]
  refine h w3 g (fun W hS => ⟨?_, ?_, ?_⟩) (fun V hV => ?_)
  · exact (d1.dy hS.1).congr (fun c a b => by rw [f3 c (by omega), f2 c (by omega) (by omega)])
  · refine (d2 W (hS.2.1.congr (f1 _ (by omega)) (f1 _ (by omega)))).congr (f3 _ (by omega)) (f3 _ (by omega))
  · exact d4 W (hS.2.2.congr (by rw [f2 _ (by omega) (by omega), f1 _ (by omega)]) (fun c a b => by rw [f2 _ (by omega) (by omega), f1 _ (by omega)]))
  · exact (d1.lg hV).congr (by rw [f3 _ (by omega), f2 _ (by omega) (by omega)]) (by rw [f3 _ (by omega), f2 _ (by omega) (by omega)])
