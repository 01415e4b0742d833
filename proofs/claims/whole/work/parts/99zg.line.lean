/-! a line of THE SUBURB, of the class -/
def plF (u w : zM) : Prop := (∀ c, c ≠ 1 → c ≠ 23 → c ≠ 24 → c ≠ 25 → c ≠ 29 → w c = u c) ∧ ∀ j, j ≠ 2 → j ≠ 3 → j ≠ 4 → w 1 j = u 1 j
theorem plF.rf (u : zM) : plF u u := ⟨fun _ _ _ _ _ _ => rfl, fun _ _ _ _ => rfl⟩
theorem plF.tr {u v w : zM} (h1 : plF u v) (h2 : plF v w) : plF u w := ⟨fun c a b x y z => (h2.1 c a b x y z).trans (h1.1 c a b x y z), fun j a b c => (h2.2 j a b c).trans (h1.2 j a b c)⟩
def plD (u : zM) (W : Nat → Int32) : Prop := zDyV u 23 W ∧ ∀ a b, a < 12 → b < 12 → u 29 (a * 12 + b) = W (11 + 12 * a + b)
theorem tkF.pl {u w : zM} (h : tkF u w) : plF u w := ⟨fun c a _ _ _ _ => h.1 c a, h.2⟩
def plP (u0 w : zM) (B : Nat → Nat) (L : Nat) (r : (Nat ⊕ Nat) × (Nat → Int32)) : Prop := plF u0 w ∧ tkS w B L r.1 ∧ plD w r.2
theorem plP.f {u0 u w : zM} {B : Nat → Nat} {L : Nat} {W : Nat → Int32} {σ τ : Nat ⊕ Nat} (h : plP u0 u B L (σ, W)) (f : tkF u w) (t : tkS w B L τ) : plP u0 w B L (τ, W) :=
  ⟨h.1.tr f.pl, t, h.2.2.1.congr (fun c a b => f.1 c (by omega)), fun a b ha hb => by rw [f.1 29 (by decide)]; exact h.2.2.2 a b ha hb⟩
/-- a line of a word and a number, else what follows -/
def plN (B : Nat → Nat) (L k hi j : Nat) (σ : Nat ⊕ Nat) (W : Nat → Int32) (r : (Nat ⊕ Nat) × (Nat → Int32)) : (Nat ⊕ Nat) × (Nat → Int32) :=
  if sIs B L k σ = true then (nxM B L 0 hi 1000 (nxW B L k σ), upd W j (nI (nvM B L 0 hi 1000 (nxW B L k σ)))) else r
def plC (B : Nat → Nat) (L : Nat) (σ : Nat ⊕ Nat) (W : Nat → Int32) : (Nat ⊕ Nat) × (Nat → Int32) :=
  plN B L 2003 200 4 σ W (plN B L 2004 99 5 σ W (plN B L 2005 20 6 σ W (plN B L 2006 100 7 σ W (plN B L 2007 100 8 σ W (plN B L 2008 999 3 σ W (sFl σ, W))))))
def rd1 (B : Nat → Nat) (L : Nat) (σ : Nat ⊕ Nat) : Nat ⊕ Nat := nxM B L 0 11 1000 σ
def rdA (B : Nat → Nat) (L : Nat) (σ : Nat ⊕ Nat) : Nat := nvM B L 0 11 1000 σ
def rd2 (B : Nat → Nat) (L : Nat) (σ : Nat ⊕ Nat) : Nat ⊕ Nat := nxM B L 0 11 (rdA B L σ) (rd1 B L σ)
def rdB (B : Nat → Nat) (L : Nat) (σ : Nat ⊕ Nat) : Nat := nvM B L 0 11 (rdA B L σ) (rd1 B L σ)
def rd3 (B : Nat → Nat) (L : Nat) (σ : Nat ⊕ Nat) : Nat ⊕ Nat := nxN B L 2015 (rd2 B L σ)
def rd4 (B : Nat → Nat) (L : Nat) (σ : Nat ⊕ Nat) : Nat ⊕ Nat := nxM B L 1 9 1000 (rd3 B L σ)
def rdW (W : Nat → Int32) (a b : Nat) (v : Int32) : Nat → Int32 := upd (upd W (11 + 12 * a + b) v) (11 + 12 * b + a) v
def rdL (B : Nat → Nat) (L : Nat) (σ : Nat ⊕ Nat) (W : Nat → Int32) : (Nat ⊕ Nat) × (Nat → Int32) :=
  (rd4 B L σ, rdW W (rdA B L σ) (rdB B L σ) (nI (nvM B L 1 9 1000 (rd3 B L σ))))
def plL (B : Nat → Nat) (L n : Nat) (σ : Nat ⊕ Nat) (W : Nat → Int32) : (Nat ⊕ Nat) × (Nat → Int32) :=
  if sIs B L 2001 σ = true ∧ n < 8 then (p7 B L σ, stW W n (v5 B L σ)) else if sIs B L 2002 σ = true then rdL B L (nxW B L 2002 σ) W else plC B L σ W
theorem pl_num {d k L hi f j : Nat} {B : Nat → Nat} {W : Nat → Int32} {σ : Nat ⊕ Nat} {ah : Int32} {r : (Nat ⊕ Nat) × (Nat → Int32)} {u0 u : zM} {Q : Option Value → zM → Prop} {A : zM → Prop} (hk : zStr k) (eh : ah = nI hi) (hh : hi ≤ 999) (hf : (f = 3 ∧ j = 0) ∨ (f = 5 ∧ j = 4) ∨ (f = 6 ∧ j = 5) ∨ (f = 7 ∧ j = 6) ∨ (f = 8 ∧ j = 7) ∨ (f = 9 ∧ j = 8) ∨ (f = 10 ∧ j = 3)) (hj : j ≠ 0) (hP : plP u0 u B L (σ, W)) (h : ∀ m, plP u0 m B L (plN B L k hi j σ W r) → Q none m)
    (hA : plP u0 u B L (σ, W) → (∀ m, plP u0 m B L r → Q none m) → ∀ m, plP u0 m B L (σ, W) → A m) :
    zCI (d + 3) 81 [.ref 1, .ref k] u fun x w1 => ((x = 0 → A w1) ∧ (¬ x = 0 → (zCI (d + 3) 83 [.ref 1, .int 0, .int ah, .int (-1)] w1 fun y w2 => Q none (zUp w2 23 f y)))) := by
  refine s_word hk hP.2.1 (fun w1 f1 t1 => ⟨_, rfl, ?_⟩)
  dsimp only at t1
  cases q : sIs B L k σ
  · have e1 : plN B L k hi j σ W r = r := by unfold plN; rw [q, if_neg (by decide)]
    rw [e1] at h
    rw [nxW_no q] at t1
    exact ⟨fun _ => hA hP h w1 (hP.f f1 t1), fun z => absurd rfl z⟩
  · have e1 : plN B L k hi j σ W r = (nxM B L 0 hi 1000 (nxW B L k σ), upd W j (nI (nvM B L 0 hi 1000 (nxW B L k σ)))) := by unfold plN; rw [q, if_pos rfl]
    rw [e1] at h
    refine ⟨fun z => absurd z (by decide), fun _ => ?_⟩
    refine s_number (lo := 0) (hi := hi) (ex := 1000) rfl eh (Nat.zero_le _) hh hxN t1 (fun w2 f2 t2 => ⟨_, rfl, h _ ?_⟩)
    have g := hP.f (f1.tr f2) t2
    refine ⟨g.1.tr ⟨fun c _ a _ _ _ => zUp_k _ _ a, fun j _ _ _ => zUp_kj _ _ (by decide)⟩, g.2.1.congr (fun j _ => zUp_kj _ _ (by decide)) (zUp_k _ _ (by decide)), g.2.2.1.num hf, fun a b ha hb => ?_⟩
    dsimp only
    rw [zUp_k _ _ (by decide), upd_ne _ _ (by omega)]
    exact g.2.2.2 a b ha hb
theorem s_readRoad {d L : Nat} {B : Nat → Nat} {W : Nat → Int32} {σ : Nat ⊕ Nat} {u0 u : zM} {Q : Option Value → zM → Prop} (hP : plP u0 u B L (σ, W)) (h : ∀ m, plP u0 m B L (rdL B L σ W) → Q none m) : zCall (d + 4) false 87 [.ref 1, .ref 28] u Q := by
  refine t2X8_readRoad (k0 := 1) (k1 := 28) rfl rfl ?_
  refine s_number (lo := 0) (hi := 11) (ex := 1000) rfl rfl (by decide) (by decide) hxN hP.2.1 (fun w1 f1 t1 => ⟨_, rfl, ?_⟩)
  have b1 := nvM_b (B := B) (L := L) (lo := 0) (hi := 11) (ex := 1000) (by decide) σ
  refine s_number (lo := 0) (hi := 11) (ex := rdA B L σ) rfl rfl (by decide) (by decide) (fun v hv => nI_eq (by omega) (by show rdA B L σ < _; unfold rdA; omega)) t1 (fun w2 f2 t2 => ⟨_, rfl, ?_⟩)
  have b2 := nvM_b (B := B) (L := L) (lo := 0) (hi := 11) (ex := rdA B L σ) (by decide) (rd1 B L σ)
  refine s_needWord ⟨by decide, by decide⟩ t2 (fun w3 f3 t3 => ⟨rfl, ?_⟩)
  refine s_number (lo := 1) (hi := 9) (ex := 1000) rfl rfl (by decide) (by decide) hxN t3 (fun w4 f4 t4 => ⟨_, rfl, ?_⟩)
  have g := hP.f (f1.tr (f2.tr (f3.tr f4))) t4
  obtain ⟨a, ea⟩ : ∃ a, a = rdA B L σ := ⟨_, rfl⟩
  obtain ⟨b, eb⟩ : ∃ b, b = rdB B L σ := ⟨_, rfl⟩
  obtain ⟨v, ev⟩ : ∃ v, v = nI (nvM B L 1 9 1000 (rd3 B L σ)) := ⟨_, rfl⟩
  have ha : a ≤ 11 := by rw [ea]; exact b1.2
  have hb : b ≤ 11 := by rw [eb]; exact b2.2
  have h : ∀ m, plP u0 m B L (rd4 B L σ, rdW W a b v) → Q none m := by rw [ea, eb, ev]; exact h
  show zCV (d + 3) 51 [.ref 28, .int (nI (rdA B L σ)), .int (nI (rdB B L σ)), .int (nI (nvM B L 1 9 1000 (rd3 B L σ)))] w4 _
  rw [← ea, ← eb, ← ev]
  refine tX5_setRoad (k0 := 28) rfl (br_f (nI_pos (by omega)) (br_f (by rw [nI_lit, nI_leI (by omega) (by omega)]; show ¬ 12 ≤ a; omega) (br_f (nI_pos (by omega)) (br_f (by rw [nI_lit, nI_leI (by omega) (by omega)]; show ¬ 12 ≤ b; omega) ?_))))
  rw [nI_lit, nI_ix, nI_ix, nI_clamp (n := a * 12 + b) (by omega), nI_clamp (n := b * 12 + a) (by omega)]
  refine ⟨vp_in_nI (by omega) (by decide), fun m em => ⟨vp_in_nI (by omega) (by decide), rfl, h _ ?_⟩⟩
  refine ⟨g.1.tr ⟨fun c _ _ _ _ x => ?_, fun j _ _ _ => ?_⟩, g.2.1.congr (fun j _ => ?_) ?_, (g.2.2.1.row (V := rdW W a b v) (fun i _ _ _ hi => ?_)).congr (fun c x y => ?_), fun p q hp hq => ?_⟩
  · rw [zUp_k _ _ x, em, zUp_k _ _ x]
  · rw [zUp_kj _ _ (by decide), em, zUp_kj _ _ (by decide)]
  · rw [zUp_kj _ _ (by decide), em, zUp_kj _ _ (by decide)]
  · rw [zUp_k _ _ (by decide), em, zUp_k _ _ (by decide)]
  · unfold rdW; rw [upd_ne _ _ (by omega), upd_ne _ _ (by omega)]
  · rw [zUp_k _ _ (by omega), em, zUp_k _ _ (by omega)]
  · dsimp only
    unfold rdW
    by_cases z1 : p = b ∧ q = a
    · rw [z1.1, z1.2, upd_at]; exact zUp_at _ _ _ _
    · rw [upd_ne _ _ (by omega), zUp_j _ _ (by omega), em]
      by_cases z2 : p = a ∧ q = b
      · rw [z2.1, z2.2, upd_at]; exact zUp_at _ _ _ _
      · rw [upd_ne _ _ (by omega), zUp_j _ _ (by omega)]
        exact g.2.2.2 p q hp hq
set_option maxHeartbeats 2000000 in
theorem s_readPlainLine {d L n : Nat} {B : Nat → Nat} {W : Nat → Int32} {σ : Nat ⊕ Nat} {u : zM} {Q : Option Value → zM → Prop} (hW : W 0 = nI n) (hn : n ≤ 8) (hT : tkS u B L σ) (hD : plD u W) (h : ∀ m, plP u m B L (plL B L n σ W) → Q none m) : zCall (d + 5) false 85 [.ref 1, .ref 22] u Q := by
  have hP : plP u u B L (σ, W) := ⟨plF.rf u, hT, hD⟩
  -- the lines of one number
  have rest : ∀ w, plP u w B L (σ, W) → (∀ m, plP u m B L (plC B L σ W) → Q none m) → zCI (d + 4) 81 [.ref 1, .ref 2003] w fun x6 w5 => ((x6 = 0 → (zCI (d + 4) 81 [.ref 1, .ref 2004] w5 fun x8 w7 => ((x8 = 0 → (zCI (d + 4) 81 [.ref 1, .ref 2005] w7 fun x10 w9 => ((x10 = 0 → (zCI (d + 4) 81 [.ref 1, .ref 2006] w9 fun x12 w11 => ((x12 = 0 → (zCI (d + 4) 81 [.ref 1, .ref 2007] w11 fun x14 w13 => ((x14 = 0 → (zCI (d + 4) 81 [.ref 1, .ref 2008] w13 fun x16 w15 => ((x16 = 0 → (zCV (d + 4) 78 [.ref 1] w15 fun w17 => Q none w17)) ∧ (¬ x16 = 0 → (zCI (d + 4) 83 [.ref 1, .int 0, .int 999, .int ((-1))] w15 fun x20 w19 => Q none (zUp w19 23 10 x20)))))) ∧ (¬ x14 = 0 → (zCI (d + 4) 83 [.ref 1, .int 0, .int 100, .int ((-1))] w13 fun x23 w22 => Q none (zUp w22 23 9 x23)))))) ∧ (¬ x12 = 0 → (zCI (d + 4) 83 [.ref 1, .int 0, .int 100, .int ((-1))] w11 fun x26 w25 => Q none (zUp w25 23 8 x26)))))) ∧ (¬ x10 = 0 → (zCI (d + 4) 83 [.ref 1, .int 0, .int 20, .int ((-1))] w9 fun x29 w28 => Q none (zUp w28 23 7 x29)))))) ∧ (¬ x8 = 0 → (zCI (d + 4) 83 [.ref 1, .int 0, .int 99, .int ((-1))] w7 fun x32 w31 => Q none (zUp w31 23 6 x32)))))) ∧ (¬ x6 = 0 → (zCI (d + 4) 83 [.ref 1, .int 0, .int 200, .int ((-1))] w5 fun x35 w34 => Q none (zUp w34 23 5 x35)))) := by
    intro w hw hQ
    refine pl_num (j := 4) ⟨by decide, by decide⟩ rfl (by decide) (Or.inr (Or.inl ⟨rfl, rfl⟩)) (by decide) hw hQ (fun _ hQ w hw => ?_)
    refine pl_num (j := 5) ⟨by decide, by decide⟩ rfl (by decide) (Or.inr (Or.inr (Or.inl ⟨rfl, rfl⟩))) (by decide) hw hQ (fun _ hQ w hw => ?_)
    refine pl_num (j := 6) ⟨by decide, by decide⟩ rfl (by decide) (Or.inr (Or.inr (Or.inr (Or.inl ⟨rfl, rfl⟩)))) (by decide) hw hQ (fun _ hQ w hw => ?_)
    refine pl_num (j := 7) ⟨by decide, by decide⟩ rfl (by decide) (Or.inr (Or.inr (Or.inr (Or.inr (Or.inl ⟨rfl, rfl⟩))))) (by decide) hw hQ (fun _ hQ w hw => ?_)
    refine pl_num (j := 8) ⟨by decide, by decide⟩ rfl (by decide) (Or.inr (Or.inr (Or.inr (Or.inr (Or.inr (Or.inl ⟨rfl, rfl⟩)))))) (by decide) hw hQ (fun _ hQ w hw => ?_)
    refine pl_num (j := 3) ⟨by decide, by decide⟩ rfl (by decide) (Or.inr (Or.inr (Or.inr (Or.inr (Or.inr (Or.inr ⟨rfl, rfl⟩)))))) (by decide) hw hQ (fun _ hQ w hw => ?_)
    exact s_fail hw.2.1 (fun w2 f2 t2 => ⟨rfl, hQ w2 (hw.f f2 t2)⟩)
  refine t2X8_readPlainLine (k0 := 1) (k1 := 22) rfl rfl ?_
  refine s_nextIs ⟨by decide, by decide⟩ hT ⟨_, rfl, ?_⟩
  have u3 : u (22 + 1) 3 = nI n := hD.1.1.1.trans hW
  -- no STEP: a ROAD, else the rest
  have no : ¬ (sIs B L 2001 σ = true ∧ n < 8) → (∀ m, plP u m B L (if sIs B L 2002 σ = true then rdL B L (nxW B L 2002 σ) W else plC B L σ W) → Q none m) := fun z => by
    unfold plL at h
    rw [if_neg z] at h
    exact h
  refine ⟨fun z => ?_, fun z => ⟨fun z2 => ?_, fun z2 => ?_⟩⟩
  · have hQ := no (fun y => by rw [y.1] at z; exact absurd z (by decide))
    refine s_word ⟨by decide, by decide⟩ hT (fun w1 f1 t1 => ⟨_, rfl, ?_⟩)
    cases q : sIs B L 2002 σ
    · rw [q, if_neg (by decide)] at hQ
      rw [nxW_no q] at t1
      exact ⟨fun _ => rest w1 (hP.f f1 t1) hQ, fun z => absurd rfl z⟩
    · rw [q, if_pos rfl] at hQ
      exact ⟨fun z => absurd z (by decide), fun _ => s_readRoad (hP.f f1 t1) (fun m g => ⟨rfl, hQ m g⟩)⟩
  · rw [u3, nI_lit, nI_leI (by omega) (by omega)] at z2
    have z2 : 8 ≤ n := z2
    have hQ := no (fun y => by omega)
    refine s_word ⟨by decide, by decide⟩ hT (fun w1 f1 t1 => ⟨_, rfl, ?_⟩)
    cases q : sIs B L 2002 σ
    · rw [q, if_neg (by decide)] at hQ
      rw [nxW_no q] at t1
      exact ⟨fun _ => rest w1 (hP.f f1 t1) hQ, fun z => absurd rfl z⟩
    · rw [q, if_pos rfl] at hQ
      exact ⟨fun z => absurd z (by decide), fun _ => s_readRoad (hP.f f1 t1) (fun m g => ⟨rfl, hQ m g⟩)⟩
  · rw [u3, nI_lit, nI_leI (by omega) (by omega)] at z2
    have z2 : ¬ 8 ≤ n := z2
    have z1 : sIs B L 2001 σ = true := by
      cases q : sIs B L 2001 σ
      · rw [q] at z; exact absurd rfl z
      · rfl
    have e : plL B L n σ W = (p7 B L σ, stW W n (v5 B L σ)) := by unfold plL; rw [if_pos ⟨z1, by omega⟩]
    rw [e] at h
    refine s_readStep (n := n) (by omega) hT hD.1 hW (fun m g => ⟨rfl, h m ⟨⟨fun c a b x y _ => g.1.1 c a b x y, g.1.2⟩, g.2.1, g.2.2, fun a b ha hb => ?_⟩⟩)
    dsimp only
    rw [g.1.1 29 (by decide) (by decide) (by decide) (by decide)]
    unfold stW
    rw [if_neg (by omega), if_neg (by omega), if_neg (by omega)]
    exact hD.2 a b ha hb
