/-! a line of THE SUBURB, as numbers and a row -/
theorem nxW_no {B : Nat → Nat} {L k : Nat} {σ : Nat ⊕ Nat} (h : sIs B L k σ = false) : nxW B L k σ = σ := by
  cases σ with
  | inl f => rfl
  | inr a =>
    have h : isW B L k a = false := h
    show (if isW B L k a = true then _ else _) = _
    rw [h, if_neg (by decide)]
def nxO (B : Nat → Nat) (L k hi : Nat) (σ : Nat ⊕ Nat) : Nat ⊕ Nat := if sIs B L k σ = true then nxM B L 0 hi 1000 (nxW B L k σ) else σ
/-- the row with a new STEP -/
def stW (W : Nat → Int32) (n : Nat) (v : Nat → Int32) : Nat → Int32 := fun j => if j = 0 then nI (n + 1) else if j = 155 + n then nI n else if 163 + 9 * n ≤ j ∧ j < 163 + 9 * n + 9 then v (j - (163 + 9 * n)) else W j
theorem stW_upd (W : Nat → Int32) (n : Nat) (v : Nat → Int32) {w : Nat} (hw : w < 9) (x : Int32) : upd (stW W n v) (163 + 9 * n + w) x = stW W n (upd v w x) := by
  funext j
  unfold upd stW
  by_cases q : j = 163 + 9 * n + w
  · rw [if_pos q, if_neg (by omega), if_neg (by omega), if_pos (by omega)]
    show x = if j - (163 + 9 * n) = w then x else v (j - (163 + 9 * n))
    rw [if_pos (by omega)]
  · rw [if_neg q]
    by_cases q0 : j = 0
    · rw [if_pos q0, if_pos q0]
    · rw [if_neg q0, if_neg q0]
      by_cases q1 : j = 155 + n
      · rw [if_pos q1, if_pos q1]
      · rw [if_neg q1, if_neg q1]
        by_cases q2 : 163 + 9 * n ≤ j ∧ j < 163 + 9 * n + 9
        · rw [if_pos q2, if_pos q2]
          show v (j - (163 + 9 * n)) = if j - (163 + 9 * n) = w then x else v (j - (163 + 9 * n))
          rw [if_neg (by omega)]
        · rw [if_neg q2, if_neg q2]
def zrW (W : Nat → Int32) (b i : Nat) : Nat → Int32 := fun j => if b ≤ j ∧ j < b + i then 0 else W j
theorem zrW_up (W : Nat → Int32) (b i : Nat) : upd (zrW W b i) (b + i) 0 = zrW W b (i + 1) := by
  funext j
  unfold upd zrW
  by_cases q : j = b + i
  · rw [if_pos q, if_pos (by omega)]
  · rw [if_neg q]
    by_cases q2 : b ≤ j ∧ j < b + i
    · rw [if_pos q2, if_pos (by omega)]
    · rw [if_neg q2, if_neg (by omega)]
theorem zrW_0 (W : Nat → Int32) (b : Nat) : zrW W b 0 = W := by
  funext j
  unfold zrW
  rw [if_neg (by omega)]
def p1 (B : Nat → Nat) (L : Nat) (σ : Nat ⊕ Nat) : Nat ⊕ Nat := nxN B L 2009 (nxN B L 2001 σ)
def p2 (B : Nat → Nat) (L : Nat) (σ : Nat ⊕ Nat) : Nat ⊕ Nat := nxN B L 2010 (nxM B L 0 11 1000 (p1 B L σ))
def p3 (B : Nat → Nat) (L : Nat) (σ : Nat ⊕ Nat) : Nat ⊕ Nat := nxM B L 0 999 1000 (p2 B L σ)
def p4 (B : Nat → Nat) (L : Nat) (σ : Nat ⊕ Nat) : Nat ⊕ Nat := nxO B L 2011 3 (p3 B L σ)
def p5 (B : Nat → Nat) (L : Nat) (σ : Nat ⊕ Nat) : Nat ⊕ Nat := nxO B L 2012 9 (p4 B L σ)
def p6 (B : Nat → Nat) (L : Nat) (σ : Nat ⊕ Nat) : Nat ⊕ Nat := nxO B L 2013 6 (p5 B L σ)
def p7 (B : Nat → Nat) (L : Nat) (σ : Nat ⊕ Nat) : Nat ⊕ Nat := nxW B L 2014 (p6 B L σ)
def vO (B : Nat → Nat) (L k hi w : Nat) (σ : Nat ⊕ Nat) (v : Nat → Int32) : Nat → Int32 := if sIs B L k σ = true then upd v w (nI (nvM B L 0 hi 1000 (nxW B L k σ))) else v
def v0 (c : Int32) : Nat → Int32 := upd (upd (fun _ => 0) 0 c) 7 (-1)
def v1 (B : Nat → Nat) (L : Nat) (σ : Nat ⊕ Nat) : Nat → Int32 := upd (v0 (nI (nvM B L 0 11 1000 (p1 B L σ)))) 2 (nI (nvM B L 0 999 1000 (p2 B L σ)))
def v4 (B : Nat → Nat) (L : Nat) (σ : Nat ⊕ Nat) : Nat → Int32 := vO B L 2013 6 7 (p5 B L σ) (vO B L 2012 9 3 (p4 B L σ) (vO B L 2011 3 1 (p3 B L σ) (v1 B L σ)))
def v5 (B : Nat → Nat) (L : Nat) (σ : Nat ⊕ Nat) : Nat → Int32 := if sIs B L 2014 (p6 B L σ) = true then upd (v4 B L σ) 8 1 else v4 B L σ
/-- the draft's DAYS while a STEP is read -/
def stF (u w : zM) : Prop := (∀ c, c ≠ 1 → c ≠ 23 → c ≠ 24 → c ≠ 25 → w c = u c) ∧ ∀ j, j ≠ 2 → j ≠ 3 → j ≠ 4 → w 1 j = u 1 j
theorem stF.rf (u : zM) : stF u u := ⟨fun _ _ _ _ _ => rfl, fun _ _ _ _ => rfl⟩
theorem stF.tr {u v w : zM} (h1 : stF u v) (h2 : stF v w) : stF u w := ⟨fun c a b x y => (h2.1 c a b x y).trans (h1.1 c a b x y), fun j a b c => (h2.2 j a b c).trans (h1.2 j a b c)⟩
theorem tkF.st {u w : zM} (h : tkF u w) : stF u w := ⟨fun c a _ _ _ => h.1 c a, h.2⟩
def stP (u0 w : zM) (B : Nat → Nat) (L n : Nat) (W : Nat → Int32) (σ : Nat ⊕ Nat) (v : Nat → Int32) : Prop := stF u0 w ∧ tkS w B L σ ∧ zDyV w 23 (stW W n v)
theorem stP.f {u0 u w : zM} {B : Nat → Nat} {L n : Nat} {W : Nat → Int32} {σ τ : Nat ⊕ Nat} {v : Nat → Int32} (h : stP u0 u B L n W σ v) (f : tkF u w) (t : tkS w B L τ) : stP u0 w B L n W τ v :=
  ⟨h.1.tr f.st, t, h.2.2.congr (fun c a b => f.1 c (by omega))⟩
theorem stP.set {u0 u : zM} {B : Nat → Nat} {L n w : Nat} {W : Nat → Int32} {σ : Nat ⊕ Nat} {v : Nat → Int32} (h : stP u0 u B L n W σ v) (hn : n < 8) (hw : w < 9) (x : Int32) : stP u0 (zUp u 24 (w * 8 + n) x) B L n W σ (upd v w x) :=
  ⟨h.1.tr ⟨fun c _ _ a _ => zUp_k _ _ a, fun j _ _ _ => zUp_kj _ _ (by decide)⟩, h.2.1.congr (fun j _ => zUp_kj _ _ (by decide)) (zUp_k _ _ (by decide)), by rw [← stW_upd W n v hw x]; exact h.2.2.set (k := 23) x hn hw⟩
theorem ix8 {n w : Nat} {z8 : Int32} (e : z8 = nI (w * 8)) (hn : n < 8) (hw : w < 9) : (z8 + nI n).toNatClampNeg = w * 8 + n := by
  rw [e, nI_add, nI_clamp (by omega)]
theorem hxN (v : Nat) (h : v ≤ 999) : nI v = (-1 : Int32) ↔ v = 1000 := ⟨fun z => absurd z (nI_nm1 (by omega)), fun z => by omega⟩
theorem st_opt {d k L n hi w : Nat} {B : Nat → Nat} {W : Nat → Int32} {σ : Nat ⊕ Nat} {v : Nat → Int32} {z8 ah : Int32} {u0 u : zM} {A : zM → Prop} (hk : zStr k) (ez : z8 = nI (w * 8)) (eh : ah = nI hi) (hh : hi ≤ 999) (hn : n < 8) (hw : w < 9) (hS : stP u0 u B L n W σ v)
    (hA : ∀ m, stP u0 m B L n W (nxO B L k hi σ) (vO B L k hi w σ v) → A m) :
    zCI (d + 3) 81 [.ref 1, .ref k] u fun x w1 => ((x = 0 → A w1) ∧ (¬ x = 0 → (zCI (d + 3) 83 [.ref 1, .int 0, .int ah, .int (-1)] w1 fun y w2 => (vp_in (nI n) 8 ∧ (∀ m, m = zUp w2 24 ((z8 + nI n).toNatClampNeg) y → A m))))) := by
  refine s_word hk hS.2.1 (fun w1 f1 t1 => ⟨_, rfl, ?_⟩)
  cases q : sIs B L k σ
  · have e1 : nxO B L k hi σ = σ := by unfold nxO; rw [q, if_neg (by decide)]
    have e2 : vO B L k hi w σ v = v := by unfold vO; rw [q, if_neg (by decide)]
    rw [e1, e2] at hA
    rw [nxW_no q] at t1
    exact ⟨fun _ => hA w1 (hS.f f1 t1), fun z => absurd rfl z⟩
  · have e1 : nxO B L k hi σ = nxM B L 0 hi 1000 (nxW B L k σ) := by unfold nxO; rw [q, if_pos rfl]
    have e2 : vO B L k hi w σ v = upd v w (nI (nvM B L 0 hi 1000 (nxW B L k σ))) := by unfold vO; rw [q, if_pos rfl]
    rw [e1, e2] at hA
    refine ⟨fun z => absurd z (by decide), fun _ => ?_⟩
    refine s_number (lo := 0) (hi := hi) (ex := 1000) rfl eh (Nat.zero_le _) hh hxN t1 (fun w2 f2 t2 => ⟨_, rfl, vp_in_nI hn (by decide), fun m em => ?_⟩)
    rw [ix8 ez hn hw] at em
    rw [em]
    exact hA _ ((hS.f (f1.tr f2) t2).set hn hw _)
theorem st_dog {d L n : Nat} {B : Nat → Nat} {W : Nat → Int32} {σ : Nat ⊕ Nat} {v : Nat → Int32} {u0 u : zM} {Q : Option Value → zM → Prop} (hn : n < 8) (hS : stP u0 u B L n W σ v)
    (h : ∀ m, stP u0 m B L n W (nxW B L 2014 σ) (if sIs B L 2014 σ = true then upd v 8 1 else v) → Q none m) :
    zCI (d + 3) 81 [.ref 1, .ref 2014] u fun x w1 => ((x = 0 → Q none w1) ∧ (¬ x = 0 → (vp_in (nI n) 8 ∧ Q none (zUp w1 24 ((((8 : Int32) * 8) + nI n).toNatClampNeg) 1)))) := by
  refine s_word ⟨by decide, by decide⟩ hS.2.1 (fun w1 f1 t1 => ⟨_, rfl, ?_⟩)
  cases q : sIs B L 2014 σ
  · rw [q, if_neg (by decide)] at h
    exact ⟨fun _ => h w1 (hS.f f1 t1), fun z => absurd rfl z⟩
  · rw [q, if_pos rfl] at h
    refine ⟨fun z => absurd z (by decide), fun _ => ⟨vp_in_nI hn (by decide), ?_⟩⟩
    rw [ix8 (w := 8) (by decide) hn (by decide)]
    exact h _ ((hS.f f1 t1).set hn (by decide) _)
theorem zDyV.num {u : zM} {k f j : Nat} {W : Nat → Int32} {v : Int32} (hf : (f = 3 ∧ j = 0) ∨ (f = 5 ∧ j = 4) ∨ (f = 6 ∧ j = 5) ∨ (f = 7 ∧ j = 6) ∨ (f = 8 ∧ j = 7) ∨ (f = 9 ∧ j = 8) ∨ (f = 10 ∧ j = 3)) (h : zDyV u k W) : zDyV (zUp u k f v) k (upd W j v) := by
  obtain ⟨⟨a1, a2, a3, a4, a5, a6, a7, a8, a9⟩, b, c⟩ := h
  refine ⟨?_, fun s w hs hw => ?_, fun p hp => ?_⟩
  · rcases hf with ⟨rfl, rfl⟩ | ⟨rfl, rfl⟩ | ⟨rfl, rfl⟩ | ⟨rfl, rfl⟩ | ⟨rfl, rfl⟩ | ⟨rfl, rfl⟩ | ⟨rfl, rfl⟩
    all_goals refine ⟨?_, ?_, ?_, ?_, ?_, ?_, ?_, ?_, ?_⟩
    all_goals first | (rw [zUp_at, upd_at]) | (rw [zUp_j _ _ (by decide), upd_ne _ _ (by decide)]; assumption)
  · rw [zUp_k _ _ (by omega), upd_ne _ _ (by omega)]; exact b s w hs hw
  · rw [zUp_k _ _ (by omega), upd_ne _ _ (by omega)]; exact c p hp
theorem zDyV.pl {u : zM} {k p : Nat} {W : Nat → Int32} (v : Int32) (hp : p < 8) (h : zDyV u k W) : zDyV (zUp u (k + 2) p v) k (upd W (155 + p) v) := by
  obtain ⟨⟨a1, a2, a3, a4, a5, a6, a7, a8, a9⟩, b, c⟩ := h
  refine ⟨?_, fun s w hs hw => ?_, fun q hq => ?_⟩
  · refine ⟨?_, ?_, ?_, ?_, ?_, ?_, ?_, ?_, ?_⟩
    all_goals (rw [zUp_k _ _ (by omega), upd_ne _ _ (by omega)]; assumption)
  · rw [zUp_k _ _ (by omega), upd_ne _ _ (by omega)]; exact b s w hs hw
  · by_cases e : q = p
    · rw [e, zUp_at, upd_at]
    · rw [zUp_j _ _ e, upd_ne _ _ (by omega)]; exact c q hq
theorem s_addStep {d L n : Nat} {B : Nat → Nat} {W : Nat → Int32} {σ : Nat ⊕ Nat} {a1 : Int32} {u0 u : zM} {Q : Option Value → zM → Prop} (hn : n < 8) (hF : stF u0 u) (hT : tkS u B L σ) (hV : zDyV u 23 W) (hW : W 0 = nI n)
    (h : ∀ m, stP u0 m B L n W σ (v0 a1) → Q (some (.int (nI n))) m) : zCall (d + 2) false 8 [.ref 23, .int a1] u Q := by
  have u3 : u 23 3 = nI n := hV.1.1.trans hW
  refine tX1_addStep (k0 := 23) rfl (br_f (by rw [u3]; exact nI_pos (by omega)) (br_t (by rw [u3, nI_lit, nI_ltI (by omega) (by omega)]; exact hn) ?_))
  rw [u3, nI_1 n]
  refine zFor (σ := zM) (Pr := fun i x => zRun (d + 1) false zcX1_addStep 1 Q 35 [(0, .ref 23), (1, .int a1), (2, .int (nI n)), (3, .int (nI i))] [] x) (fun i x => stF u0 x ∧ tkS x B L σ ∧ zDyV x 23 (zrW (upd W 0 (nI (n + 1))) (163 + 9 * n) i)) 9 (fun x hx => ?_) (fun i x hi hx ih => ?_) _ ⟨hF.tr ⟨fun c _ a _ _ => zUp_k _ _ a, fun j _ _ _ => zUp_kj _ _ (by decide)⟩, hT.congr (fun j _ => zUp_kj _ _ (by decide)) (zUp_k _ _ (by decide)), by rw [zrW_0]; exact hV.num (Or.inl ⟨rfl, rfl⟩)⟩
  · obtain ⟨g1, g2, g3⟩ := hx
    refine tX1_addStep_35 (k0 := 23) rfl (br_t (by decide) ⟨vp_in_nI hn (by decide), fun m1 e1 => ⟨vp_in_nI hn (by decide), fun m2 e2 => ⟨vp_in_nI hn (by decide), ?_⟩⟩⟩)
    rw [ix8 (w := 0) (by decide) hn (by decide)] at e1
    rw [ix8 (w := 7) (by decide) hn (by decide)] at e2
    rw [nI_clamp (n := n) (by omega)]
    have d1 := g3.set (k := 23) (s := n) (w := 0) a1 hn (by decide)
    rw [← e1] at d1
    have d2 := d1.set (k := 23) (s := n) (w := 7) (-1) hn (by decide)
    rw [← e2] at d2
    have d3 := d2.pl (k := 23) (p := n) (nI n) hn
    refine h _ ⟨g1.tr ⟨fun c _ _ a b => ?_, fun j _ _ _ => ?_⟩, g2.congr (fun j _ => ?_) ?_, d3.row (fun i hi _ _ _ => ?_)⟩
    · rw [zUp_k _ _ b, e2, zUp_k _ _ a, e1, zUp_k _ _ a]
    · rw [zUp_kj _ _ (by decide), e2, zUp_kj _ _ (by decide), e1, zUp_kj _ _ (by decide)]
    · rw [zUp_kj _ _ (by decide), e2, zUp_kj _ _ (by decide), e1, zUp_kj _ _ (by decide)]
    · rw [zUp_k _ _ (by decide), e2, zUp_k _ _ (by decide), e1, zUp_k _ _ (by decide)]
    · simp only [stW, v0, upd, zrW]
      repeat' split
      all_goals first | rfl | omega
  · obtain ⟨g1, g2, g3⟩ := hx
    refine tX1_addStep_35 (k0 := 23) rfl (br_f (by rw [nI_lit, nI_leI (by omega) (by omega)]; show ¬ 9 ≤ i; omega) ⟨vp_in_nI hi (by decide), vp_in_nI hn (by decide), ?_⟩)
    rw [show (8 : Int32) = nI 8 from rfl, nI_ix, nI_clamp (n := i * 8 + n) (by omega), nI_1 i]
    refine ih _ ⟨g1.tr ⟨fun c _ _ a _ => zUp_k _ _ a, fun j _ _ _ => zUp_kj _ _ (by decide)⟩, g2.congr (fun j _ => zUp_kj _ _ (by decide)) (zUp_k _ _ (by decide)), ?_⟩
    rw [← zrW_up]
    exact g3.set (k := 23) 0 hn hi
set_option maxHeartbeats 2000000 in
theorem s_readStep {d L n : Nat} {B : Nat → Nat} {W : Nat → Int32} {σ : Nat ⊕ Nat} {u : zM} {Q : Option Value → zM → Prop} (hn : n < 8) (hT : tkS u B L σ) (hV : zDyV u 23 W) (hW : W 0 = nI n)
    (h : ∀ m, stP u m B L n W (p7 B L σ) (v5 B L σ) → Q none m) : zCall (d + 4) false 86 [.ref 1, .ref 23] u Q := by
  refine t2X8_readStep (k0 := 1) (k1 := 23) rfl rfl ?_
  refine s_needWord ⟨by decide, by decide⟩ hT (fun w1 f1 t1 => ⟨rfl, ?_⟩)
  refine s_needWord ⟨by decide, by decide⟩ t1 (fun w2 f2 t2 => ⟨rfl, ?_⟩)
  refine s_number (lo := 0) (hi := 11) (ex := 1000) rfl rfl (by decide) (by decide) hxN t2 (fun w3 f3 t3 => ⟨_, rfl, ?_⟩)
  have F3 := f1.tr (f2.tr f3)
  refine s_addStep (n := n) hn F3.st t3 (hV.congr (fun c a b => F3.1 c (by omega))) hW (fun w4 q4 => ⟨_, rfl, ?_⟩)
  refine s_needWord ⟨by decide, by decide⟩ q4.2.1 (fun w5 f5 t5 => ⟨rfl, ?_⟩)
  refine s_number (lo := 0) (hi := 999) (ex := 1000) rfl rfl (by decide) (by decide) hxN t5 (fun w6 f6 t6 => ⟨_, rfl, vp_in_nI hn (by decide), fun m em => ?_⟩)
  rw [ix8 (w := 2) (by decide) hn (by decide)] at em
  have q6 := (q4.f (f5.tr f6) t6).set (w := 2) hn (by decide) (nI (nvM B L 0 999 1000 (nxN B L 2010 (nxM B L 0 11 1000 (nxN B L 2009 (nxN B L 2001 σ))))))
  rw [← em] at q6
  refine st_opt (n := n) (w := 1) (hi := 3) ⟨by decide, by decide⟩ (by decide) rfl (by decide) hn (by decide) q6 (fun m7 q7 => ?_)
  refine st_opt (n := n) (w := 3) (hi := 9) ⟨by decide, by decide⟩ (by decide) rfl (by decide) hn (by decide) q7 (fun m8 q8 => ?_)
  refine st_opt (n := n) (w := 7) (hi := 6) ⟨by decide, by decide⟩ (by decide) rfl (by decide) hn (by decide) q8 (fun m9 q9 => ?_)
  exact st_dog hn q9 h
