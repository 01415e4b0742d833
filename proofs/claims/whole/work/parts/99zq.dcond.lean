/-! THE LAW's conditions: the class -/
def dvC (w : zM) (e : lpE) : Prop := w 31 7 = nI e.1 ∧ e.1 ≤ 400 ∧ ∀ i, i < e.1 → w 36 i = lwD (e.2.1 i) (e.2.2 i)
def dvR (w : zM) (B : Nat → Nat) (L : Nat) (r : lpR) : Prop := match r with
  | .inl f => tkD w B L f
  | .inr s => tkA w B L s.1 ∧ dvC w s.2
def dvF (u w : zM) : Prop := (∀ c, c ≠ 1 → c ≠ 31 → c ≠ 36 → w c = u c) ∧ (∀ j, j ≠ 2 → j ≠ 3 → j ≠ 4 → w 1 j = u 1 j) ∧ ∀ j, j ≠ 7 → w 31 j = u 31 j
theorem dvF.rf (u : zM) : dvF u u := ⟨fun _ _ _ _ => rfl, fun _ _ _ _ => rfl, fun _ _ => rfl⟩
theorem dvF.tr {u v w : zM} (h1 : dvF u v) (h2 : dvF v w) : dvF u w := ⟨fun c a b d => (h2.1 c a b d).trans (h1.1 c a b d), fun j a b c => (h2.2.1 j a b c).trans (h1.2.1 j a b c), fun j a => (h2.2.2 j a).trans (h1.2.2 j a)⟩
theorem tkF.d {u w : zM} (h : tkF u w) : dvF u w := ⟨fun c a _ _ => h.1 c a, h.2, fun j _ => by rw [h.1 31 (by decide)]⟩
def lpK (r : lpR) : Prop := ∀ a e, r = .inr (a, e) → e.1 < a
def prR (r : lpR) : Nat ⊕ Nat := match r with
  | .inl f => .inl f
  | .inr s => .inr s.1
theorem dvR.tk {w : zM} {B : Nat → Nat} {L : Nat} {r : lpR} (h : dvR w B L r) : tkS w B L (prR r) := by
  cases r with
  | inl f => exact h
  | inr s => exact h.1
theorem dvC.f {u w : zM} {e : lpE} (h : dvC u e) (f : tkF u w) : dvC w e := by
  unfold dvC
  rw [f.1 31 (by decide), f.1 36 (by decide)]
  exact h
theorem dvR.le {w : zM} {B : Nat → Nat} {L a : Nat} {e : lpE} (h : dvR w B L (.inr (a, e))) : a ≤ L ∧ L ≤ 400 := ⟨h.1.2.1, h.1.1.1⟩
theorem lpK_in (a : Nat) (e : lpE) (h : e.1 < a) : lpK (.inr (a, e)) := fun b g q => by
  obtain ⟨rfl, rfl⟩ := Prod.mk.inj (Sum.inr.inj q)
  exact h
theorem lpK_il (f : Nat) : lpK (.inl f) := fun b g q => by cases q
theorem lpK_bd {B : Nat → Nat} {L N : Nat} {t : Bool} {f : Nat → lpE → lpR} {r : lpR} {w : zM} (hf : lpGd B L N t f) (hr : dvR w B L r) (hk : lpK r) : lpK (bdR r f) := by
  cases r with
  | inl x => exact lpK_il x
  | inr s =>
    intro a2 e2 h
    have g := hf _ _ _ _ hr.1.2.1 h
    have k := hk s.1 s.2 rfl
    have := g.2.2.2.1
    omega
theorem vp_in_x {x : Int32} (h1 : ¬ x < 0) (h2 : ¬ (400 : Int32) ≤ x) : vp_in x 400 := by
  rcases i_cases x 400 (by decide) with ⟨j, hj, rfl⟩ | h
  · exact vp_in_nI hj (by decide)
  · rcases h with h | h
    · exact absurd h h1
    · exact absurd h h2
theorem s_putc {d L c v : Nat} {B : Nat → Nat} {a1 : Int32} {r : lpR} {u : zM} {Q : Option Value → zM → Prop} (hr : dvR u B L r) (hk : lpK r) (e1 : a1 = lwD c v) (h : ∀ w, dvF u w → dvR w B L (bdR r (fun a e => .inr (a, emE e c v))) → Q none w) : zCall (d + 1) false 30 [.ref 31, .int a1] u Q := by
  cases r with
  | inl f =>
    have hr' : tkS u B L (.inl f) := hr
    refine tX2_put (k0 := 31) rfl ⟨fun _ => h u (dvF.rf u) hr, fun z1 => ⟨fun _ => h u (dvF.rf u) hr, fun z2 => ⟨vp_in_x z1 z2, fun m1 e1 => h _ ⟨fun c a b d => ?_, fun j _ _ _ => ?_, fun j a => ?_⟩ (tkS.congr (σ := .inl f) (fun j _ => ?_) ?_ hr')⟩⟩⟩
    · rw [zUp_k _ _ b, e1, zUp_k _ _ d]
    · rw [zUp_kj _ _ (by decide), e1, zUp_kj _ _ (by decide)]
    · rw [zUp_j _ _ a, e1, zUp_kj _ _ (by decide)]
    · rw [zUp_kj _ _ (by decide), e1, zUp_kj _ _ (by decide)]
    · rw [zUp_k _ _ (by decide), e1, zUp_k _ _ (by decide)]
  | inr s =>
    obtain ⟨a, e⟩ := s
    have k := hk a e rfl
    have le := hr.le
    have hr : tkA u B L a ∧ dvC u e := hr
    obtain ⟨hA, c1, c2, c3⟩ := hr
    have hA' : tkS u B L (.inr a) := hA
    refine tX2_put (k0 := 31) rfl (br_f (by rw [c1]; exact nI_pos (by omega)) (br_f (by rw [c1, nI_lit, nI_leI (by omega) (by omega)]; show ¬ 400 ≤ e.1; omega) ?_))
    rw [c1, nI_clamp (n := e.1) (by omega)]
    refine ⟨vp_in_nI (by omega) (by decide), fun m1 i1 => ?_⟩
    have m7 : m1 31 7 + 1 = nI (e.1 + 1) := by rw [i1, zUp_kj _ _ (by decide), c1, nI_1]
    rw [m7]
    refine h _ ⟨fun c a b d => ?_, fun j _ _ _ => ?_, fun j a => ?_⟩ ⟨tkS.congr (σ := .inr a) (fun j _ => ?_) ?_ hA', zUp_at _ _ _ _, by show e.1 + 1 ≤ 400; omega, fun i hi => ?_⟩
    · rw [zUp_k _ _ b, i1, zUp_k _ _ d]
    · rw [zUp_kj _ _ (by decide), i1, zUp_kj _ _ (by decide)]
    · rw [zUp_j _ _ a, i1, zUp_kj _ _ (by decide)]
    · rw [zUp_kj _ _ (by decide), i1, zUp_kj _ _ (by decide)]
    · rw [zUp_k _ _ (by decide), i1, zUp_k _ _ (by decide)]
    · have hi : i < e.1 + 1 := hi
      rw [zUp_k _ _ (by decide), i1]
      show zUp u 36 e.1 a1 36 i = lwD ((emE e c v).2.1 i) ((emE e c v).2.2 i)
      by_cases z : i = e.1
      · rw [z, zUp_at, (emE_n e c v).1, (emE_n e c v).2, e1]
      · have o := emE_o (e := e) (c := c) (v := v) (i := i) (by omega)
        rw [zUp_j _ _ z, o.1, o.2]
        exact c3 i (by omega)
/-- a piece, as a call: any state goes over into the pure one -/
def dvI (D y : Nat) (as : List Value) (B : Nat → Nat) (L : Nat) (f : Nat → lpE → lpR) : Prop := ∀ (u0 u : zM) (r : lpR) (K : zM → Prop), dvF u0 u → dvR u B L r → lpK r → (∀ w, dvF u0 w → dvR w B L (bdR r f) → K w) → zCV D y as u K
theorem dv_wd {d L k c : Nat} {B : Nat → Nat} {ax : Int32} {r : lpR} {u0 u : zM} {g : Nat → lpE → lpR} {K A : zM → Prop} (hk : zStr k) (ex : ax = lwD c 0) (hF : dvF u0 u) (hr : dvR u B L r) (hK : lpK r) (h : ∀ w, dvF u0 w → dvR w B L (bdR r (fun a e => lpWd B L k c a e (g a e))) → K w)
    (hA : ∀ w, dvF u0 w → dvR w B L r → (∀ w, dvF u0 w → dvR w B L (bdR r g) → K w) → A w) :
    zCI (d + 3) 81 [.ref 1, .ref k] u fun x w1 => ((x = 0 → A w1) ∧ (¬ x = 0 → (zCV (d + 3) 30 [.ref 31, .int ax] w1 fun w2 => K w2))) := by
  refine s_word hk hr.tk (fun w1 f1 t1 => ⟨_, rfl, ?_⟩)
  cases r with
  | inl f => exact ⟨fun _ => hA w1 (hF.tr f1.d) t1 (fun w a b => h w a b), fun z => absurd rfl z⟩
  | inr s =>
    obtain ⟨a, e⟩ := s
    have t1 : tkS w1 B L (nxW B L k (.inr a)) := t1
    have e2 : sIs B L k (prR (.inr (a, e))) = isW B L k a := rfl
    rw [e2]
    have le := hr.le
    cases q : isW B L k a
    · rw [nxW_no (σ := .inr a) q] at t1
      refine ⟨fun _ => hA w1 (hF.tr f1.d) ⟨t1, hr.2.f f1⟩ (fun w x y => h w x ?_), fun z => absurd rfl z⟩
      show dvR w B L (lpWd B L k c a e (g a e))
      unfold lpWd
      rw [q, if_neg (by decide)]; exact y
    · rw [nxW_t q] at t1
      refine ⟨fun z => absurd z (by decide), fun _ => ?_⟩
      have n1 := nxB_le (B := B) le.1
      refine s_putc (r := .inr (nxB B L a, e)) ⟨t1, hr.2.f f1⟩ (lpK_in _ _ (by have := hK a e rfl; omega)) ex (fun w f2 t2 => ⟨rfl, h w ((hF.tr f1.d).tr f2) ?_⟩)
      show dvR w B L (lpWd B L k c a e (g a e))
      unfold lpWd
      rw [q, if_pos rfl]; exact t2
theorem dv_fail {d L : Nat} {B : Nat → Nat} {r : lpR} {u0 u : zM} {K : zM → Prop} (hF : dvF u0 u) (hr : dvR u B L r) (h : ∀ w, dvF u0 w → dvR w B L (bdR r (fun a _ => .inl a)) → K w) : zCV (d + 1) 78 [.ref 1] u fun w => K w := by
  refine s_fail hr.tk (fun w f t => ⟨rfl, h w (hF.tr f.d) ?_⟩)
  cases r with
  | inl f => exact t
  | inr s => exact t
theorem dv_part {B : Nat → Nat} {L D : Nat} (hD : 4 ≤ D) : dvI D 93 [.ref 1, .ref 31] B L (lpPart B L) := by
  obtain ⟨d, rfl⟩ : ∃ d, D = d + 4 := ⟨D - 4, by omega⟩
  intro u0 u r K hF hr hK h
  obtain ⟨a0, ha0, u3, u4⟩ := hr.tk.at
  refine t2X8_readPart (k0 := 1) (k1 := 31) rfl rfl ?_
  refine s_nid hr.tk.dtx ha0 u3 ⟨_, rfl, ?_⟩
  refine ⟨fun z => ?_, fun z => ?_⟩
  · have h' : ∀ w, dvF u0 w → dvR w B L (bdR r (lpWs B L)) → K w := fun w x y => h w x (by
      cases r with
      | inl f => exact y
      | inr s =>
        obtain ⟨a, e⟩ := s
        have ea : a = a0 := by
          have g := hr.1.2.2.1
          have le := hr.le
          rw [u3, nI_eq (by omega) (by omega)] at g
          exact g.symm
        subst ea
        have no : ¬ (a < L ∧ soB (B a) = 1) := fun q => by rw [decide_eq_true q] at z; exact absurd z (by decide)
        show dvR w B L (lpPart B L a e)
        unfold lpPart
        rw [if_neg no]; exact y)
    refine dv_wd (c := 0) ⟨by decide, by decide⟩ (by decide) hF hr hK (fun w x y => ⟨rfl, h' w x y⟩) (fun w hF hr h => ?_)
    refine dv_wd (c := 1) ⟨by decide, by decide⟩ (by decide) hF hr hK h (fun w hF hr h => ?_)
    refine dv_wd (c := 2) ⟨by decide, by decide⟩ (by decide) hF hr hK h (fun w hF hr h => ?_)
    refine dv_wd (c := 3) ⟨by decide, by decide⟩ (by decide) hF hr hK h (fun w hF hr h => ?_)
    refine dv_wd (c := 4) ⟨by decide, by decide⟩ (by decide) hF hr hK h (fun w hF hr h => ?_)
    refine dv_wd (c := 5) ⟨by decide, by decide⟩ (by decide) hF hr hK h (fun w hF hr h => ?_)
    refine dv_wd (c := 6) ⟨by decide, by decide⟩ (by decide) hF hr hK h (fun w hF hr h => ?_)
    refine dv_wd (c := 7) ⟨by decide, by decide⟩ (by decide) hF hr hK h (fun w hF hr h => ?_)
    exact dv_fail hF hr h
  · refine s_number (lo := 0) (hi := 999) (ex := 1000) rfl rfl (by decide) (by decide) hxN hr.tk (fun w1 f1 t1 => ⟨_, rfl, ?_⟩)
    cases r with
    | inl f => exact s_putc (c := 10) (r := .inl f) t1 (lpK_il f) rfl (fun w f2 t2 => ⟨rfl, rfl, h w ((hF.tr f1.d).tr f2) t2⟩)
    | inr s =>
      obtain ⟨a, e⟩ := s
      have le := hr.le
      have ea : a = a0 := by
        have g := hr.1.2.2.1
        rw [u3, nI_eq (by omega) (by omega)] at g
        exact g.symm
      subst ea
      have yes : a < L ∧ soB (B a) = 1 := Decidable.byContradiction fun q => by rw [decide_eq_false q] at z; exact z rfl
      have t1 : tkS w1 B L (nxM B L 0 999 1000 (.inr a)) := t1
      have ep : prR (.inr (a, e)) = .inr a := rfl
      rw [ep]
      cases q : nuK B L 0 999 1000 a
      · rw [nxM_f q] at t1
        refine s_putc (c := 10) (r := .inl a) t1 (lpK_il a) rfl (fun w f2 t2 => ⟨rfl, rfl, h w ((hF.tr f1.d).tr f2) ?_⟩)
        show dvR w B L (lpPart B L a e)
        unfold lpPart
        rw [if_pos yes, q, if_neg (by decide)]; exact t2
      · rw [nxM_t q] at t1
        have n1 := nxB_le (B := B) le.1
        rw [nvM_t q]
        refine s_putc (c := 10) (v := nuV B L a) (r := .inr (nxB B L a, e)) ⟨t1, hr.2.f f1⟩ (lpK_in _ _ (by have := hK a e rfl; omega)) rfl (fun w f2 t2 => ⟨rfl, rfl, h w ((hF.tr f1.d).tr f2) ?_⟩)
        show dvR w B L (lpPart B L a e)
        unfold lpPart
        rw [if_pos yes, q, if_pos rfl]; exact t2
theorem bdR_inr (r : lpR) : bdR r (fun a e => .inr (a, e)) = r := by
  cases r with
  | inl f => rfl
  | inr s => rfl
theorem bdR_bd (r : lpR) (f g : Nat → lpE → lpR) : bdR (bdR r f) g = bdR r (fun a e => bdR (f a e) g) := by
  cases r with
  | inl f => rfl
  | inr s => rfl
/-- pieces one behind another, joined by a word: sum -/
theorem dv_sum {B : Nat → Nat} {L D N : Nat} {t : Bool} {f : Nat → lpE → lpR} (hD : 5 ≤ D) (hg : lpGd B L N t f) (hf : dvI (D - 1) 93 [.ref 1, .ref 31] B L f) : dvI D 92 [.ref 1, .ref 31] B L (lpSeq B L f 2028 11) := by
  obtain ⟨d, rfl⟩ : ∃ d, D = d + 5 := ⟨D - 5, by omega⟩
  have hf : dvI (d + 4) 93 [.ref 1, .ref 31] B L f := hf
  intro u0 u r K hF hr hK h
  have go : ∀ n i (u : zM) (r : lpR), i + n = 400 → dvF u0 u → dvR u B L r → lpK r → (∀ w, dvF u0 w → dvR w B L (bdR r (lpMore B L f 2028 11 n)) → K w) → zRun (d + 4) false zcX8_readSum 0 (fun v w => v = none ∧ K w) 7 [(0, .ref 1), (1, .ref 31), (2, .int (nI i))] [] u := by
    intro n
    induction n with
    | zero =>
      intro i u r hi hF hr hK h
      have i4 : i = 400 := by omega
      subst i4
      refine t2X8_readSum_7 (k0 := 1) (k1 := 31) rfl rfl (br_t (Int32.le_refl _) ⟨rfl, h u hF ?_⟩)
      have e : bdR r (lpMore B L f 2028 11 0) = r := bdR_inr r
      rw [e]; exact hr
    | succ n ih =>
      intro i u r hi hF hr hK h
      refine t2X8_readSum_7 (k0 := 1) (k1 := 31) rfl rfl (br_f (by rw [nI_lit, nI_leI (by omega) (by omega)]; show ¬ 400 ≤ i; omega) ?_)
      refine s_word ⟨by decide, by decide⟩ hr.tk (fun w1 f1 t1 => ⟨_, rfl, ?_⟩)
      cases r with
      | inl x => exact ⟨fun _ => ⟨rfl, h w1 (hF.tr f1.d) t1⟩, fun z => absurd rfl z⟩
      | inr s =>
        obtain ⟨a, e⟩ := s
        have le := hr.le
        have t1 : tkS w1 B L (nxW B L 2028 (.inr a)) := t1
        have e2 : sIs B L 2028 (prR (.inr (a, e))) = isW B L 2028 a := rfl
        rw [e2]
        have em : bdR (.inr (a, e)) (lpMore B L f 2028 11 (n + 1)) = if isW B L 2028 a = true then bdR (f (nxB B L a) e) (fun a2 e2 => lpMore B L f 2028 11 n a2 (emE e2 11 0)) else .inr (a, e) := rfl
        rw [em] at h
        cases q : isW B L 2028 a
        · rw [nxW_no (σ := .inr a) q] at t1
          rw [q, if_neg (by decide)] at h
          exact ⟨fun _ => ⟨rfl, h w1 (hF.tr f1.d) ⟨t1, hr.2.f f1⟩⟩, fun z => absurd rfl z⟩
        · rw [nxW_t q] at t1
          rw [q, if_pos rfl] at h
          refine ⟨fun z => absurd z (by decide), fun _ => ?_⟩
          have n1 := nxB_le (B := B) le.1
          have hr1 : dvR w1 B L (.inr (nxB B L a, e)) := ⟨t1, hr.2.f f1⟩
          have hk1 : lpK (.inr (nxB B L a, e)) := lpK_in _ _ (by have := hK a e rfl; omega)
          refine hf u0 w1 (.inr (nxB B L a, e)) _ (hF.tr f1.d) hr1 hk1 (fun w2 f2 t2 => ?_)
          have hk2 := lpK_bd hg hr1 hk1
          refine s_putc (c := 11) (v := 0) t2 hk2 rfl (fun w3 f3 t3 => ⟨rfl, ?_⟩)
          rw [nI_1 i]
          refine ih (i + 1) w3 _ (by omega) (f2.tr f3) t3 (fun a2 e2 hh => ?_) (fun w g1 g2 => h w g1 ?_)
          · obtain ⟨a4, e4, h4, h5⟩ := bdR_a hh
            obtain ⟨rfl, rfl⟩ := Prod.mk.inj (Sum.inr.inj h5)
            have g : lpG B L N t (nxB B L a) e a4 e4 := hg _ _ _ _ n1.2 h4
            have z := nxB_lt (B := B) (isW_lt ⟨by decide, by decide⟩ le.1 q).2
            have y := hK a e rfl
            have x := g.2.2.2.1
            show e4.1 + 1 < a4
            omega
          · rw [bdR_bd] at g2
            exact g2
  refine t2X8_readSum (k0 := 1) (k1 := 31) rfl rfl ?_
  refine hf u0 u r _ hF hr hK (fun w f1 t1 => ?_)
  refine go 400 0 w _ rfl f1 t1 (lpK_bd hg hr hK) (fun w2 f2 t2 => h w2 f2 ?_)
  rw [bdR_bd] at t2
  exact t2
/-- pieces one behind another, joined by a word: all -/
theorem dv_all {B : Nat → Nat} {L D N : Nat} {t : Bool} {dp : Int32} {f : Nat → lpE → lpR} (hD : 5 ≤ D) (hg : lpGd B L N t f) (hf : dvI (D - 1) 91 [.ref 1, .ref 31, .int dp] B L f) : dvI D 90 [.ref 1, .ref 31, .int dp] B L (lpSeq B L f 2021 15) := by
  obtain ⟨d, rfl⟩ : ∃ d, D = d + 5 := ⟨D - 5, by omega⟩
  have hf : dvI (d + 4) 91 [.ref 1, .ref 31, .int dp] B L f := hf
  intro u0 u r K hF hr hK h
  have go : ∀ n i (u : zM) (r : lpR), i + n = 400 → dvF u0 u → dvR u B L r → lpK r → (∀ w, dvF u0 w → dvR w B L (bdR r (lpMore B L f 2021 15 n)) → K w) → zRun (d + 4) false zcX8_readAll 0 (fun v w => v = none ∧ K w) 8 [(0, .ref 1), (1, .ref 31), (2, .int dp), (3, .int (nI i))] [] u := by
    intro n
    induction n with
    | zero =>
      intro i u r hi hF hr hK h
      have i4 : i = 400 := by omega
      subst i4
      refine t2X8_readAll_8 (k0 := 1) (k1 := 31) rfl rfl (br_t (Int32.le_refl _) ⟨rfl, h u hF ?_⟩)
      have e : bdR r (lpMore B L f 2021 15 0) = r := bdR_inr r
      rw [e]; exact hr
    | succ n ih =>
      intro i u r hi hF hr hK h
      refine t2X8_readAll_8 (k0 := 1) (k1 := 31) rfl rfl (br_f (by rw [nI_lit, nI_leI (by omega) (by omega)]; show ¬ 400 ≤ i; omega) ?_)
      refine s_word ⟨by decide, by decide⟩ hr.tk (fun w1 f1 t1 => ⟨_, rfl, ?_⟩)
      cases r with
      | inl x => exact ⟨fun _ => ⟨rfl, h w1 (hF.tr f1.d) t1⟩, fun z => absurd rfl z⟩
      | inr s =>
        obtain ⟨a, e⟩ := s
        have le := hr.le
        have t1 : tkS w1 B L (nxW B L 2021 (.inr a)) := t1
        have e2 : sIs B L 2021 (prR (.inr (a, e))) = isW B L 2021 a := rfl
        rw [e2]
        have em : bdR (.inr (a, e)) (lpMore B L f 2021 15 (n + 1)) = if isW B L 2021 a = true then bdR (f (nxB B L a) e) (fun a2 e2 => lpMore B L f 2021 15 n a2 (emE e2 15 0)) else .inr (a, e) := rfl
        rw [em] at h
        cases q : isW B L 2021 a
        · rw [nxW_no (σ := .inr a) q] at t1
          rw [q, if_neg (by decide)] at h
          exact ⟨fun _ => ⟨rfl, h w1 (hF.tr f1.d) ⟨t1, hr.2.f f1⟩⟩, fun z => absurd rfl z⟩
        · rw [nxW_t q] at t1
          rw [q, if_pos rfl] at h
          refine ⟨fun z => absurd z (by decide), fun _ => ?_⟩
          have n1 := nxB_le (B := B) le.1
          have hr1 : dvR w1 B L (.inr (nxB B L a, e)) := ⟨t1, hr.2.f f1⟩
          have hk1 : lpK (.inr (nxB B L a, e)) := lpK_in _ _ (by have := hK a e rfl; omega)
          refine hf u0 w1 (.inr (nxB B L a, e)) _ (hF.tr f1.d) hr1 hk1 (fun w2 f2 t2 => ?_)
          have hk2 := lpK_bd hg hr1 hk1
          refine s_putc (c := 15) (v := 0) t2 hk2 rfl (fun w3 f3 t3 => ⟨rfl, ?_⟩)
          rw [nI_1 i]
          refine ih (i + 1) w3 _ (by omega) (f2.tr f3) t3 (fun a2 e2 hh => ?_) (fun w g1 g2 => h w g1 ?_)
          · obtain ⟨a4, e4, h4, h5⟩ := bdR_a hh
            obtain ⟨rfl, rfl⟩ := Prod.mk.inj (Sum.inr.inj h5)
            have g : lpG B L N t (nxB B L a) e a4 e4 := hg _ _ _ _ n1.2 h4
            have z := nxB_lt (B := B) (isW_lt ⟨by decide, by decide⟩ le.1 q).2
            have y := hK a e rfl
            have x := g.2.2.2.1
            show e4.1 + 1 < a4
            omega
          · rw [bdR_bd] at g2
            exact g2
  refine t2X8_readAll (k0 := 1) (k1 := 31) rfl rfl ?_
  refine hf u0 u r _ hF hr hK (fun w f1 t1 => ?_)
  refine go 400 0 w _ rfl f1 t1 (lpK_bd hg hr hK) (fun w2 f2 t2 => h w2 f2 ?_)
  rw [bdR_bd] at t2
  exact t2
/-- pieces one behind another, joined by a word: any -/
theorem dv_any {B : Nat → Nat} {L D N : Nat} {t : Bool} {dp : Int32} {f : Nat → lpE → lpR} (hD : 5 ≤ D) (hg : lpGd B L N t f) (hf : dvI (D - 1) 90 [.ref 1, .ref 31, .int dp] B L f) : dvI D 89 [.ref 1, .ref 31, .int dp] B L (lpSeq B L f 2020 16) := by
  obtain ⟨d, rfl⟩ : ∃ d, D = d + 5 := ⟨D - 5, by omega⟩
  have hf : dvI (d + 4) 90 [.ref 1, .ref 31, .int dp] B L f := hf
  intro u0 u r K hF hr hK h
  have go : ∀ n i (u : zM) (r : lpR), i + n = 400 → dvF u0 u → dvR u B L r → lpK r → (∀ w, dvF u0 w → dvR w B L (bdR r (lpMore B L f 2020 16 n)) → K w) → zRun (d + 4) false zcX8_readAny 0 (fun v w => v = none ∧ K w) 8 [(0, .ref 1), (1, .ref 31), (2, .int dp), (3, .int (nI i))] [] u := by
    intro n
    induction n with
    | zero =>
      intro i u r hi hF hr hK h
      have i4 : i = 400 := by omega
      subst i4
      refine t2X8_readAny_8 (k0 := 1) (k1 := 31) rfl rfl (br_t (Int32.le_refl _) ⟨rfl, h u hF ?_⟩)
      have e : bdR r (lpMore B L f 2020 16 0) = r := bdR_inr r
      rw [e]; exact hr
    | succ n ih =>
      intro i u r hi hF hr hK h
      refine t2X8_readAny_8 (k0 := 1) (k1 := 31) rfl rfl (br_f (by rw [nI_lit, nI_leI (by omega) (by omega)]; show ¬ 400 ≤ i; omega) ?_)
      refine s_word ⟨by decide, by decide⟩ hr.tk (fun w1 f1 t1 => ⟨_, rfl, ?_⟩)
      cases r with
      | inl x => exact ⟨fun _ => ⟨rfl, h w1 (hF.tr f1.d) t1⟩, fun z => absurd rfl z⟩
      | inr s =>
        obtain ⟨a, e⟩ := s
        have le := hr.le
        have t1 : tkS w1 B L (nxW B L 2020 (.inr a)) := t1
        have e2 : sIs B L 2020 (prR (.inr (a, e))) = isW B L 2020 a := rfl
        rw [e2]
        have em : bdR (.inr (a, e)) (lpMore B L f 2020 16 (n + 1)) = if isW B L 2020 a = true then bdR (f (nxB B L a) e) (fun a2 e2 => lpMore B L f 2020 16 n a2 (emE e2 16 0)) else .inr (a, e) := rfl
        rw [em] at h
        cases q : isW B L 2020 a
        · rw [nxW_no (σ := .inr a) q] at t1
          rw [q, if_neg (by decide)] at h
          exact ⟨fun _ => ⟨rfl, h w1 (hF.tr f1.d) ⟨t1, hr.2.f f1⟩⟩, fun z => absurd rfl z⟩
        · rw [nxW_t q] at t1
          rw [q, if_pos rfl] at h
          refine ⟨fun z => absurd z (by decide), fun _ => ?_⟩
          have n1 := nxB_le (B := B) le.1
          have hr1 : dvR w1 B L (.inr (nxB B L a, e)) := ⟨t1, hr.2.f f1⟩
          have hk1 : lpK (.inr (nxB B L a, e)) := lpK_in _ _ (by have := hK a e rfl; omega)
          refine hf u0 w1 (.inr (nxB B L a, e)) _ (hF.tr f1.d) hr1 hk1 (fun w2 f2 t2 => ?_)
          have hk2 := lpK_bd hg hr1 hk1
          refine s_putc (c := 16) (v := 0) t2 hk2 rfl (fun w3 f3 t3 => ⟨rfl, ?_⟩)
          rw [nI_1 i]
          refine ih (i + 1) w3 _ (by omega) (f2.tr f3) t3 (fun a2 e2 hh => ?_) (fun w g1 g2 => h w g1 ?_)
          · obtain ⟨a4, e4, h4, h5⟩ := bdR_a hh
            obtain ⟨rfl, rfl⟩ := Prod.mk.inj (Sum.inr.inj h5)
            have g : lpG B L N t (nxB B L a) e a4 e4 := hg _ _ _ _ n1.2 h4
            have z := nxB_lt (B := B) (isW_lt ⟨by decide, by decide⟩ le.1 q).2
            have y := hK a e rfl
            have x := g.2.2.2.1
            show e4.1 + 1 < a4
            omega
          · rw [bdR_bd] at g2
            exact g2
  refine t2X8_readAny (k0 := 1) (k1 := 31) rfl rfl ?_
  refine hf u0 u r _ hF hr hK (fun w f1 t1 => ?_)
  refine go 400 0 w _ rfl f1 t1 (lpK_bd hg hr hK) (fun w2 f2 t2 => h w2 f2 ?_)
  rw [bdR_bd] at t2
  exact t2
