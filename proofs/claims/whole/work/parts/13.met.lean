def zClo (C : Bool → Nat → List Value → zM → (Option Value → zM → Prop) → Prop) (cd : zCd) (rb : Nat) (τ : Bool) (Q : Option Value → zM → Prop) (P : Nat → zLs → List Value → zM → Prop) : Prop :=
  (∀ pc ls st u, zStep C cd rb τ P Q pc ls st u → P pc ls st u) ∧ (∀ pc ls ls0 st u, (∀ q ∈ ls0, q ∈ ls) → P pc ls0 st u → P pc ls st u)
def zCall : Nat → Bool → Nat → List Value → zM → (Option Value → zM → Prop) → Prop
  | 0, _, _, _, _, _ => False
  | d + 1, τ, y, as, u, Q => (as.all fun v => v.category == 1) = true ∧ as.length ≤ zMx y ∧ ∀ P : Nat → zLs → List Value → zM → Prop, zClo (zCall d) (zCode y) (zRb y) τ Q P → P 0 (lv_args 0 as) [] u
theorem zArgs_map (ad : Nat → Nat) : ∀ (i : Nat) (as : List Value), lv_args i (as.map (zCv ad)) = zCl ad (lv_args i as)
  | _, [] => rfl
  | i, v :: t => by
    show (i, zCv ad v) :: lv_args (if (zCv ad v).category = 2 then i + 2 else i + 1) (t.map (zCv ad)) = (i, zCv ad v) :: zCl ad (lv_args (if v.category = 2 then i + 2 else i + 1) t)
    rw [zCv_cat, zArgs_map ad _ t]
theorem zSl_len : ∀ (as : List Value), (as.all fun v => v.category == 1) = true → (lg_sl as).length = as.length
  | [], _ => rfl
  | v :: t, h => by
    simp only [List.all_cons, Bool.and_eq_true, beq_iff_eq] at h
    have ih := zSl_len t h.2
    have h1 := h.1
    rw [show lg_sl (v :: t) = [Slot.val v] ++ lg_sl t from by simp [lg_sl, h1]]
    simp [ih]
theorem zCat_map (ad : Nat → Nat) (as : List Value) (h : (as.all fun v => v.category == 1) = true) : ((as.map (zCv ad)).all fun v => v.category == 1) = true := by
  simp only [List.all_map]
  rw [← h]
  congr 1
  funext v
  simp [Function.comp, zCv_cat]
theorem zkOf {y : Nat} (hy : y < 361) {pc : Nat} {x : zIn} (h : zLk (zCode y) pc = some x) : decode (zBy y) pc = .ok (x.1, x.2.1) ∧ zOkI (zOo y) (zMx y) x = true := by
  have h1 := List.all_eq_true.mp (zkAll _ (zMt_in hy)) _ (zLk_mem h)
  simp only [Bool.and_eq_true, decide_eq_true_eq] at h1
  exact h1
set_option maxRecDepth 100000 in
set_option maxHeartbeats 4000000 in
theorem zCall_met (l : Launch) (E : zE) : ∀ (d y : Nat) (as : List Value) (u : zM) (Q : Option Value → zM → Prop), y < 361 → zOo y ≠ 13 → zCall d false y as u Q → Met l (zY y) (zW y) (zRm d) (va_Pc (as.map (zCv (zAd E))) (zBi E u)) (zQ E Q) 0 0 (zA E)
  | 0, _, _, _, _, _, _, h => False.elim h
  | d + 1, y, as, u, Q, hy, hn, h => by
    obtain ⟨hcat, hlen, h⟩ := h
    obtain ⟨-, -, -, -, hpl, -, -, -, hoy, -⟩ := zMw hy hn
    refine Met.ofW (cc := zBy y) (maxL := zMx y) (ret := zRt y) hpl rfl ?_
    intro p e s m args below meth c s₁ B hml hv
    obtain ⟨rfl, hB, hbase, hst⟩ := hv
    have hx := B.exec
    have hb := B.bytes
    have hr := B.returns
    have hts0 := atoms_spec (ws := zW y) B.pre
    have hts : ∀ w ∈ zTS, w.before (as.map (zCv (zAd E))).toArray s = true := fun w hw => hts0 w (List.mem_cons_of_mem _ hw)
    have hown : s.vm.findClass (zOwn (zOo y)) = some m.cls := by
      rw [hoy]
      exact findClass_of_methodNamed B.named
    have hlocks := B.notSynchronized
    have hl := lv_entry (as.map (zCv (zAd E))) (n := zMx y) (by rw [zSl_len _ (zCat_map _ _ hcat), List.length_map]; exact hlen)
    rw [lg_entry_eq]
    generalize (lg_sl (as.map (zCv (zAd E))) ++ List.replicate (zMx y - (lg_sl (as.map (zCv (zAd E)))).length) Slot.unset).toArray = ls at hl ⊢
    rw [zArgs_map] at hl
    refine h (zP0 p l e (headSpec (zW y) (zRm (d + 1))).room s m (as.map (zCv (zAd E))).toArray below meth c 0 0 (MQ below (zQ E Q) (as.map (zCv (zAd E))).toArray s 0 0 (zA E)) (zMx y) E) ⟨fun pc ls2 st u2 hh => ?_, fun pc ls2 ls0 st u2 hsub hh H locs L hH hS hL => hh H locs L hH hS ⟨hL.1, hL.2.1, fun q hq => hL.2.2 q (by obtain ⟨q0, g1, g2⟩ := List.mem_map.mp hq; exact List.mem_map.mpr ⟨q0, hsub q0 g1, g2⟩)⟩⟩ s.heap [] ls hB.2 va_S.rf hl
    refine zStep_sound (d := d) hx hb hml hown hts hB.1 hbase hst (fun pc x q => zkOf hy q) (by show d + 9 ≤ d + 1 + 8; omega) (by show 64 * d + 664 ≤ 64 * (d + 1) + 600; omega) ⟨Nat.zero_le _, Nat.zero_le _⟩ (fun y2 as2 u3 Q2 hy2 hn2 hc2 => zCall_met l E d y2 as2 u3 Q2 hy2 hn2 hc2) (hsl := sorry) (hsc := sorry) (fun v u3 H locs L pc hdg hrb hq hH hS => ?_) (fun u3 H locs L pc hdg hrb hq hH hS => ?_) hh
    · rcases hrb with hrb | ⟨hrb, hv⟩
      · have hrt : zRt y = some .int := by
          unfold zRb at hrb
          split at hrb <;> first | assumption | (exact absurd hrb (by decide))
        exact W.iret hx hb (by rw [hr, hrt]) (fun t ht hW => ⟨⟨some (.int v), u3, rfl, Or.inr ⟨v, rfl⟩, hq, va_K.moved hW.alike hB.1, by rw [ht]; exact hH⟩, hS.F ht⟩) hS.2.2 hdg hlocks
      · have hrt : zRt y = some .boolean := by
          unfold zRb at hrb
          split at hrb <;> first | assumption | (exact absurd hrb (by decide))
        exact W.zret hx hb (by rw [hr, hrt]) (by rcases hv with rfl | rfl <;> rfl) (fun t ht hW => ⟨⟨some (.int v), u3, rfl, Or.inr ⟨v, rfl⟩, hq, va_K.moved hW.alike hB.1, by rw [ht]; exact hH⟩, hS.F ht⟩) hS.2.2 hdg hlocks
    · have hrt : zRt y = none := by
        unfold zRb at hrb
        split at hrb <;> first | assumption | (exact absurd hrb (by decide))
      exact W.vret hx hb (by rw [hr, hrt]) (fun t ht hW => ⟨⟨none, u3, rfl, Or.inl rfl, hq, va_K.moved hW.alike hB.1, by rw [ht]; exact hH⟩, hS.F ht⟩) hS.2.2 hdg hlocks
