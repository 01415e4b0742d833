/-! what was seen: the TAPE as pairs of bytes -/
theorem s8_ex : ∀ b, b < 256 → (b < 128 ∧ (nI b).toInt8.toInt32 = nI b) ∨ (128 ≤ b ∧ (nI b).toInt8.toInt32 < 0) := by decide +kernel
def hG (B : Nat → Nat) (n : Nat) : Nat → Bool
  | 0 => true
  | j + 1 => hG B n j && decide (B (2 * j) < n ∧ B (2 * j + 1) ≤ 1)
theorem hG_mono {B : Nat → Nat} {n j : Nat} : ∀ k, hG B n (j + k) = true → hG B n j = true
  | 0, h => h
  | k + 1, h => hG_mono k (Bool.and_eq_true_iff.mp h).1
theorem hG_le {B : Nat → Nat} {n j H : Nat} (hj : j ≤ H) (h : hG B n H = true) : hG B n j = true := hG_mono (H - j) (by rw [Nat.add_sub_cancel' hj]; exact h)
theorem hG_at {B : Nat → Nat} {n j H : Nat} (hj : j < H) (h : hG B n H = true) : B (2 * j) < n ∧ B (2 * j + 1) ≤ 1 :=
  of_decide_eq_true (Bool.and_eq_true_iff.mp (show hG B n (j + 1) = true from hG_le hj h)).2
def hOk (B : Nat → Nat) (n L : Nat) : Bool := decide (L ≤ 40 ∧ L % 2 = 0) && hG B n (L / 2)
theorem hOk_f {B : Nat → Nat} {n L j : Nat} (hj : j ≤ L / 2) (h : ¬ hG B n j = true) : ¬ hOk B n L = true := fun z => h (hG_le hj (Bool.and_eq_true_iff.mp z).2)
def hY (B : Nat → Nat) : Nat → Int32
  | 0 => 0
  | j + 1 => if B (2 * j + 1) = 1 then hY B j ||| ((1 : Int32) <<< (nI (B (2 * j)) &&& 31)) else hY B j ||| 0
def hN (B : Nat → Nat) : Nat → Int32
  | 0 => 0
  | j + 1 => if B (2 * j + 1) = 0 then hN B j ||| ((1 : Int32) <<< (nI (B (2 * j)) &&& 31)) else hN B j ||| 0
def fr (B : Nat → Nat) (g : Int32) : Nat → Bool
  | 0 => true
  | j + 1 => fr B g j && (tb g (B (2 * j)) == decide (B (2 * j + 1) = 1))
theorem tb_sub {g Y : Int32} : (g &&& Y = Y) ↔ ∀ t, t < 32 → tb Y t = true → tb g t = true := by
  refine ⟨fun h t ht q => ?_, fun h => tb_ext (fun t ht => ?_)⟩
  · have e := tb_and g Y t
    rw [h, q, Bool.and_true] at e
    exact e.symm
  · rw [tb_and]
    cases q : tb Y t
    · rw [Bool.and_false]
    · rw [h t ht q, Bool.and_true]
theorem tb_dis {g N : Int32} : (g &&& N = 0) ↔ ∀ t, t < 32 → tb N t = true → tb g t = false := by
  refine ⟨fun h t ht q => ?_, fun h => tb_ext (fun t ht => ?_)⟩
  · have e := tb_and g N t
    rw [h, q, Bool.and_true, tb_0] at e
    exact e.symm
  · rw [tb_and, tb_0]
    cases q : tb N t
    · rw [Bool.and_false]
    · rw [h t ht q, Bool.false_and]
theorem tb_sl : ∀ s, s < 8 → ∀ t, t < 32 → tb ((1 : Int32) <<< (nI s &&& 31)) t = decide (t = s) := by decide +kernel
theorem fr_ok {B : Nat → Nat} {g : Int32} : ∀ j, (∀ i, i < j → B (2 * i) < 8 ∧ B (2 * i + 1) ≤ 1) → (fr B g j = true ↔ (g &&& hY B j = hY B j ∧ g &&& hN B j = 0))
  | 0, _ => ⟨fun _ => ⟨Int32.and_zero, Int32.and_zero⟩, fun _ => rfl⟩
  | j + 1, h => by
    have ih := fr_ok (B := B) (g := g) j (fun i hi => h i (by omega))
    obtain ⟨h1, h2⟩ := h j (by omega)
    rw [tb_sub, tb_dis] at ih ⊢
    have e : fr B g (j + 1) = true ↔ fr B g j = true ∧ tb g (B (2 * j)) = decide (B (2 * j + 1) = 1) := by
      show (fr B g j && (tb g (B (2 * j)) == decide (B (2 * j + 1) = 1))) = true ↔ _
      rw [Bool.and_eq_true_iff, beq_iff_eq]
    rw [e, ih]
    have s32 : B (2 * j) < 32 := by omega
    rcases (show B (2 * j + 1) = 1 ∨ B (2 * j + 1) = 0 by omega) with q | q
    · have eY : ∀ t, t < 32 → tb (hY B (j + 1)) t = (tb (hY B j) t || decide (t = B (2 * j))) := fun t ht => by
        show tb (if B (2 * j + 1) = 1 then hY B j ||| ((1 : Int32) <<< (nI (B (2 * j)) &&& 31)) else hY B j ||| 0) t = _
        rw [if_pos q, tb_or, tb_sl _ h1 t ht]
      have eN : ∀ t, t < 32 → tb (hN B (j + 1)) t = tb (hN B j) t := fun t ht => by
        show tb (if B (2 * j + 1) = 0 then hN B j ||| ((1 : Int32) <<< (nI (B (2 * j)) &&& 31)) else hN B j ||| 0) t = _
        rw [if_neg (by omega), tb_or, tb_0, Bool.or_false]
      rw [q]
      constructor
      · rintro ⟨⟨a, b⟩, c⟩
        refine ⟨fun t ht z => ?_, fun t ht z => b t ht (by rw [← eN t ht]; exact z)⟩
        rw [eY t ht, Bool.or_eq_true] at z
        rcases z with z | z
        · exact a t ht z
        · rw [of_decide_eq_true z, c]; rfl
      · rintro ⟨a, b⟩
        refine ⟨⟨fun t ht z => a t ht (by rw [eY t ht, z]; rfl), fun t ht z => b t ht (by rw [eN t ht]; exact z)⟩, ?_⟩
        rw [a _ s32 (by rw [eY _ s32, decide_eq_true (rfl : B (2 * j) = B (2 * j)), Bool.or_true])]
        rfl
    · have eN : ∀ t, t < 32 → tb (hN B (j + 1)) t = (tb (hN B j) t || decide (t = B (2 * j))) := fun t ht => by
        show tb (if B (2 * j + 1) = 0 then hN B j ||| ((1 : Int32) <<< (nI (B (2 * j)) &&& 31)) else hN B j ||| 0) t = _
        rw [if_pos q, tb_or, tb_sl _ h1 t ht]
      have eY : ∀ t, t < 32 → tb (hY B (j + 1)) t = tb (hY B j) t := fun t ht => by
        show tb (if B (2 * j + 1) = 1 then hY B j ||| ((1 : Int32) <<< (nI (B (2 * j)) &&& 31)) else hY B j ||| 0) t = _
        rw [if_neg (by omega), tb_or, tb_0, Bool.or_false]
      rw [q]
      constructor
      · rintro ⟨⟨a, b⟩, c⟩
        refine ⟨fun t ht z => a t ht (by rw [← eY t ht]; exact z), fun t ht z => ?_⟩
        rw [eN t ht, Bool.or_eq_true] at z
        rcases z with z | z
        · exact b t ht z
        · rw [of_decide_eq_true z, c]; rfl
      · rintro ⟨a, b⟩
        refine ⟨⟨fun t ht z => a t ht (by rw [eY t ht]; exact z), fun t ht z => b t ht (by rw [eN t ht, z]; rfl)⟩, ?_⟩
        rw [b _ s32 (by rw [eN _ s32, decide_eq_true (rfl : B (2 * j) = B (2 * j)), Bool.or_true])]
        rfl
theorem s_byteAt {d k0 i L : Nat} {a1 : Int32} {u : zM} {Q : Option Value → zM → Prop} (hk : zShapes[k0]? = some (.inl 7)) (e1 : a1 = nI i) (hL : u k0 1 = nI L) (h4 : L ≤ 400) (hi : i < L) (h : Q (some (.int (u (k0 + 1) i))) u) : zCall (d + 1) false 73 [.ref k0, .int a1] u Q := by
  subst e1
  refine tX7_byteAt hk (br_f (nI_pos (by omega)) (br_f (by rw [hL, nI_leI (by omega) (by omega)]; omega) (br_f (by rw [nI_lit, nI_leI (by omega) (by omega)]; omega) ⟨vp_in_nI (by omega) (by decide), ?_⟩)))
  rw [nI_clamp (n := i) (by omega)]
  exact h
theorem nI_2 (i : Nat) : nI (2 * i) + 2 = nI (2 * (i + 1)) := by rw [nI_lit, nI_add]; rfl
theorem s_hear {d n L : Nat} {B : Nat → Nat} {a2 : Int32} {u : zM} {Q : Option Value → zM → Prop} (hL : u 1 1 = nI L) (h4 : L ≤ 400) (hB : ∀ i, i < L → B i < 256 ∧ u 2 i = nI (B i)) (e2 : a2 = nI n) (h8 : n ≤ 8)
    (h : ∀ w, (∀ c, c ≠ 125 → c ≠ 1 → w c = u c) → (∀ f, f ≠ 1 → f ≠ 2 → w 125 f = u 125 f) → (∀ j, j ≠ 1 → w 1 j = u 1 j) → w 1 1 = 0 → (hOk B n L = true → w 125 1 = hY B (L / 2) ∧ w 125 2 = hN B (L / 2)) → Q (some (.int (if hOk B n L = true then 1 else 0))) w) : zCall (d + 2) false 103 [.ref 125, .ref 1, .int a2] u Q := by
  subst e2
  obtain ⟨Fr, eFr⟩ : ∃ Fr : zM → Prop, Fr = fun w => (∀ c, c ≠ 125 → w c = u c) ∧ ∀ f, f ≠ 1 → f ≠ 2 → w 125 f = u 125 f := ⟨_, rfl⟩
  have no : ∀ (w : zM) (b : Int32), Fr w → ¬ hOk B n L = true → zRun (d + 1) false zcX10_hear 2 Q 37 [(0, .ref 125), (1, .ref 1), (2, .int (nI n)), (3, .int 0), (4, .int b)] [] w := fun w b f z => by
    rw [eFr] at f
    have q : Q (some (.int 0)) (zUp w 1 1 0) := by
      have := h (zUp w 1 1 0) (fun c a b => (zUp_k _ _ b).trans (f.1 c a)) (fun j a b => (zUp_kj _ _ (by decide)).trans (f.2 j a b)) (fun j a => by rw [zUp_j _ _ a, f.1 1 (by decide)]) (zUp_at _ _ _ _) (fun y => absurd y z)
      rw [if_neg z] at this
      exact this
    exact tX10_hear_37 (k0 := 125) (k1 := 1) rfl rfl ⟨fun _ => ⟨Or.inl rfl, q⟩, fun _ => ⟨fun _ => ⟨Or.inl rfl, q⟩, fun y => absurd rfl y⟩⟩
  have up : ∀ (w : zM) (x y : Int32), Fr w → Fr (zUp (zUp w 125 1 x) 125 2 y) := fun w x y f => by
    rw [eFr] at f ⊢
    exact ⟨fun c a => by rw [zUp_k _ _ a, zUp_k _ _ a]; exact f.1 c a, fun j a b => by rw [zUp_j _ _ b, zUp_j _ _ a]; exact f.2 j a b⟩
  have f0 : Fr u := by rw [eFr]; exact ⟨fun _ _ => rfl, fun _ _ _ => rfl⟩
  have e2 : (nI L - nI L / 2 * 2) = nI (L % 2) := by rw [nI_lit, nI_rem (by omega) (by omega)]
  refine tX10_hear (k0 := 125) (k1 := 1) rfl rfl ?_
  rw [hL, e2]
  by_cases q1 : L ≤ 40
  · by_cases q2 : L % 2 = 0
    · have go : ∀ r j (w : zM), j + r = L / 2 → Fr w → w 125 1 = hY B j → w 125 2 = hN B j → hG B n j = true → zRun (d + 1) false zcX10_hear 2 Q 37 [(0, .ref 125), (1, .ref 1), (2, .int (nI n)), (3, .int 1), (4, .int (nI (2 * j)))] [] w := by
        intro r
        induction r with
        | zero =>
          intro j w hj f y1 y2 g
          have f' := f
          rw [eFr] at f'
          obtain rfl : j = L / 2 := by omega
          have ok : hOk B n L = true := Bool.and_eq_true_iff.mpr ⟨decide_eq_true ⟨q1, q2⟩, g⟩
          have w1 : w 1 1 = nI L := by rw [f'.1 1 (by decide)]; exact hL
          refine tX10_hear_37 (k0 := 125) (k1 := 1) rfl rfl (br_t (by rw [w1, nI_1, nI_leI (by omega) (by omega)]; omega) ⟨Or.inr rfl, ?_⟩)
          have := h (zUp w 1 1 0) (fun c a b => (zUp_k _ _ b).trans (f'.1 c a)) (fun j a b => (zUp_kj _ _ (by decide)).trans (f'.2 j a b)) (fun j a => by rw [zUp_j _ _ a, f'.1 1 (by decide)]) (zUp_at _ _ _ _) (fun _ => ⟨(zUp_kj _ _ (by decide)).trans y1, (zUp_kj _ _ (by decide)).trans y2⟩)
          rw [if_pos ok] at this
          exact this
        | succ r ih =>
          intro j w hj f y1 y2 g
          have f' := f
          rw [eFr] at f'
          have w1 : w 1 1 = nI L := by rw [f'.1 1 (by decide)]; exact hL
          obtain ⟨x1, x2⟩ := hB (2 * j) (by omega)
          obtain ⟨z1, z2⟩ := hB (2 * j + 1) (by omega)
          refine tX10_hear_37 (k0 := 125) (k1 := 1) rfl rfl (br_f (by rw [w1, nI_1, nI_leI (by omega) (by omega)]; omega) (br_f (by decide) ?_))
          refine s_byteAt (k0 := 1) (i := 2 * j) (L := L) rfl rfl w1 h4 (by omega) ⟨_, rfl, ?_⟩
          refine s_byteAt (k0 := 1) (i := 2 * j + 1) (L := L) rfl (nI_1 _) w1 h4 (by omega) ⟨_, rfl, ?_⟩
          have v1 : w 2 (2 * j) = nI (B (2 * j)) := by rw [f'.1 2 (by decide)]; exact x2
          have v2 : w 2 (2 * j + 1) = nI (B (2 * j + 1)) := by rw [f'.1 2 (by decide)]; exact z2
          dsimp only
          rw [v1, v2, nI_2]
          have bad : ¬ (B (2 * j) < n ∧ B (2 * j + 1) ≤ 1) → ¬ hOk B n L = true := fun z => hOk_f (j := j + 1) (by omega) (fun y => z (of_decide_eq_true (Bool.and_eq_true_iff.mp y).2))
          have good : B (2 * j) < n → B (2 * j + 1) ≤ 1 → hG B n (j + 1) = true := fun a b => Bool.and_eq_true_iff.mpr ⟨g, decide_eq_true ⟨a, b⟩⟩
          refine br_f (nI_pos (by omega)) ⟨fun q => ?_, fun q => ?_⟩
          · rw [nI_leI (by omega) (by omega)] at q
            intro m e
            rw [e]
            exact no _ _ (up w _ _ f) (bad (by omega))
          · rw [nI_leI (by omega) (by omega)] at q
            have a1 : ∀ v, (zUp w 125 1 v) 125 2 = hN B j := fun v => by rw [zUp_j _ _ (by decide)]; exact y2
            refine ⟨fun c => ?_, fun c => ⟨fun c2 => ?_, fun c2 => ?_⟩⟩
            · have b0 : B (2 * j + 1) = 0 := (nI_eq (a := B (2 * j + 1)) (b := 0) (by omega) (by decide)).mp c
              rw [b0]
              refine ⟨fun _ m e => ⟨fun z => absurd rfl z, fun _ => ?_⟩, fun z => absurd z (by decide)⟩
              rw [e, a1]
              refine ih (j + 1) _ (by omega) (up w _ _ f) ?_ ?_ (good (by omega) (by omega))
              · rw [zUp_j _ _ (by decide), zUp_at, y1]
                show _ = if B (2 * j + 1) = 1 then _ else _
                rw [if_neg (by omega)]
              · rw [zUp_at]
                show _ = if B (2 * j + 1) = 0 then _ else _
                rw [if_pos b0]
            · intro m e
              rw [e]
              have : B (2 * j + 1) ≠ 1 := fun z => c2 (by rw [z]; rfl)
              have : B (2 * j + 1) ≠ 0 := fun z => c (by rw [z]; rfl)
              exact no _ _ (up w _ _ f) (bad (by omega))
            · have b1 : B (2 * j + 1) = 1 := (nI_eq (a := B (2 * j + 1)) (b := 1) (by omega) (by decide)).mp c2
              rw [b1]
              refine ⟨fun z => absurd rfl z, fun _ m e => ⟨fun _ => ?_, fun z => absurd z (by decide)⟩⟩
              rw [e, a1]
              refine ih (j + 1) _ (by omega) (up w _ _ f) ?_ ?_ (good (by omega) (by omega))
              · rw [zUp_j _ _ (by decide), zUp_at, y1]
                show _ = if B (2 * j + 1) = 1 then _ else _
                rw [if_pos b1]
              · rw [zUp_at]
                show _ = if B (2 * j + 1) = 0 then _ else _
                rw [if_neg (by omega)]
      refine br_f (by rw [nI_lit, nI_ltI (by omega) (by omega)]; omega) ⟨fun z => absurd (by rw [q2]; rfl) z, fun _ m e => ?_⟩
      rw [e]
      exact go (L / 2) 0 _ (by omega) (up u _ _ f0) (by rw [zUp_j _ _ (by decide), zUp_at]; rfl) (zUp_at _ _ _ _) rfl
    · refine br_f (by rw [nI_lit, nI_ltI (by omega) (by omega)]; omega) ⟨fun _ m e => ?_, fun z => absurd z (nI_ne (a := L % 2) (b := 0) (by omega) (by decide) q2)⟩
      rw [e]
      exact no _ _ (up u _ _ f0) (fun z => q2 (of_decide_eq_true (Bool.and_eq_true_iff.mp z).1).2)
  · refine br_t (by rw [nI_lit, nI_ltI (by omega) (by omega)]; omega) (fun m e => ?_)
    rw [e]
    exact no _ _ (up u _ _ f0) (fun z => q1 (of_decide_eq_true (Bool.and_eq_true_iff.mp z).1).1)
