theorem ykOf {y nn : Nat} (hy : y < 363) (hS : nn = 143 ∨ yS.contains y = true) {pc : Nat} {x : zIn} (h : zLk (zCode y) pc = some x) : decode (zBy y) pc = .ok (x.1, x.2.1) ∧ zOkI (zOo y) (zMx y) x = true ∧ ySd (zOo y) x = true ∧ (nn = 143 ∨ yEnt x = true) := ⟨(zkOf hy h).1, (zkOf hy h).2, (yCk hy h).1, hS.imp id fun q => yS_in q h⟩
set_option maxRecDepth 100000 in
set_option maxHeartbeats 4000000 in
/-- what is said of a method in the pure memory is so of the machine: methods that return -/
theorem yCall_met (l : Launch) (nn : Nat) (hnn : nn = 143 ∨ nn = 142) (bb : Bool) (E : zE) : ∀ (d y : Nat) (as : List Value) (u : zM) (Q : Option Value → zM → Prop), y < 363 → zOo y ≠ 13 → ySb (zOo y) bb = true → (nn = 143 ∨ yS.contains y = true) → zCall d false y as u Q → Met l (zY y) (yW y) (zRm d) (va_Pc (as.map (zCv (zAd E))) (yBi nn bb E u)) (yQ nn E Q) 0 0 (zA E)
  | 0, _, _, _, _, _, _, _, _, h => False.elim h
  | d + 1, y, as, u, Q, hy, hn, hsd, hS, h => by
    obtain ⟨hcat, hlen, h⟩ := h
    obtain ⟨-, -, -, -, hpl, -, -, -, hoy, -⟩ := zMw hy hn
    refine Met.ofW (cc := zBy y) (maxL := zMx y) (ret := zRt y) hpl rfl ?_
    intro p e s m args below meth c s₁ B hml hv
    obtain ⟨rfl, hB, hbase, hst⟩ := hv
    have hx := B.exec
    have hb := B.bytes
    have hr := B.returns
    have hts0 := atoms_spec (ws := yW y) B.pre
    have hts : ∀ w ∈ yTS, w.before (as.map (zCv (zAd E))).toArray s = true := fun w hw => hts0 w (List.mem_cons_of_mem _ hw)
    have hown : s.vm.findClass (zOwn (zOo y)) = some m.cls := by
      rw [hoy]
      exact findClass_of_methodNamed B.named
    have hlocks := B.notSynchronized
    have hl := lv_entry (as.map (zCv (zAd E))) (n := zMx y) (by rw [zSl_len _ (zCat_map _ _ hcat), List.length_map]; exact hlen)
    rw [lg_entry_eq]
    generalize (lg_sl (as.map (zCv (zAd E))) ++ List.replicate (zMx y - (lg_sl (as.map (zCv (zAd E)))).length) Slot.unset).toArray = ls at hl ⊢
    rw [zArgs_map] at hl
    refine h (yP0 p l e (headSpec (yW y) (zRm (d + 1))).room s m (as.map (zCv (zAd E))).toArray below meth c 0 0 (MQ below (yQ nn E Q) (as.map (zCv (zAd E))).toArray s 0 0 (zA E)) (zMx y) nn E) ⟨fun pc ls2 st u2 hh => ?_, fun pc ls2 ls0 st u2 hsub hh H locs L hH hS hL => hh H locs L hH hS ⟨hL.1, hL.2.1, fun q hq => hL.2.2 q (by obtain ⟨q0, g1, g2⟩ := List.mem_map.mp hq; exact List.mem_map.mpr ⟨q0, hsub q0 g1, g2⟩)⟩⟩ s.heap [] ls hB.2 va_S.rf hl
    refine yStep_sound (d := d) hx hb hml hown hn hsd hnn hts hB.1 hbase hst (fun pc x q => ykOf hy hS q) (by show d + 9 ≤ d + 1 + 8; omega) (by show 64 * d + 664 ≤ 64 * (d + 1) + 600; omega) ⟨Nat.zero_le _, Nat.zero_le _⟩ (fun y2 as2 u3 Q2 hy2 hn2 hs2 hS2 hc2 => yCall_met l nn hnn bb E d y2 as2 u3 Q2 hy2 hn2 hs2 hS2 hc2) (fun q => absurd q (by decide)) (fun q => absurd q (by decide)) (fun _ v u3 H locs L pc hdg hrb hq hH hS => ?_) (fun _ u3 H locs L pc hdg hrb hq hH hS => ?_) (fun q => absurd q (by decide)) hh
    · rcases hrb with hrb | ⟨hrb, hv⟩
      · have hrt : zRt y = some .int := by
          unfold zRb at hrb
          split at hrb <;> first | assumption | (exact absurd hrb (by decide))
        exact W.iret hx hb (by rw [hr, hrt]) (fun t ht hW => ⟨⟨some (.int v), u3, rfl, Or.inr ⟨v, rfl⟩, hq, va_K.moved hW.alike hB.1, by rw [ht]; exact hH⟩, hS.F ht⟩) hS.2.2 hdg hlocks
      · have hrt : zRt y = some .boolean := by
          unfold zRb at hrb
          split at hrb <;> first | assumption | (exact absurd hrb (by decide))
        exact W.zret hx hb (by rw [hr, hrt]) (by rcases hv with rfl | rfl <;> rfl) (fun t ht hW => ⟨⟨some (.int v), u3, rfl, Or.inr ⟨v, rfl⟩, hq, va_K.moved hW.alike hB.1, by rw [ht]; exact hH⟩, hS.F ht⟩) hS.2.2 hdg hlocks
    · have hrt : zRt y = none := by
        unfold zRb at hrb
        split at hrb <;> first | assumption | (exact absurd hrb (by decide))
      exact W.vret hx hb (by rw [hr, hrt]) (fun t ht hW => ⟨⟨none, u3, rfl, Or.inl rfl, hq, va_K.moved hW.alike hB.1, by rw [ht]; exact hH⟩, hS.F ht⟩) hS.2.2 hdg hlocks
/-- the heights of the stack of a method that throws -/
theorem yDs_of {y : Nat} (hy : y < 363) (hn : zOo y ≠ 13) : (∀ pc x, zLk (zCode y) pc = some x → yNo x = true) ∨ (yD y 0 = some 0 ∧ ∀ pc x, zLk (zCode y) pc = some x → yDk (yD y) pc x = true) := by
  have h := List.all_eq_true.mp yDs_ok y (List.mem_range.mpr hy)
  simp only [Bool.or_eq_true, Bool.and_eq_true, beq_iff_eq, decide_eq_true_eq] at h
  rcases h with (h | h) | ⟨h1, h2⟩
  · exact absurd h hn
  · exact Or.inl fun pc x q => List.all_eq_true.mp h _ (zLk_mem q)
  · exact Or.inr ⟨h1, fun pc x q => List.all_eq_true.mp h2 _ (zLk_mem q)⟩
set_option maxRecDepth 100000 in
set_option maxHeartbeats 4000000 in
/-- .. and methods that throw -/
theorem yThr_met (l : Launch) (hlt : l.stackTraces = false) (nn : Nat) (hnn : nn = 143 ∨ nn = 142) (bb : Bool) (E : zE) : ∀ (d y : Nat) (as : List Value) (u : zM) (Q : Option Value → zM → Prop), y < 363 → zOo y ≠ 13 → ySb (zOo y) bb = true → (nn = 143 ∨ yS.contains y = true) → zCall d true y as u Q → vx_Met l (zY y) (yW y) (yRt d) (va_Pc (as.map (zCv (zAd E))) (yBi nn bb E u)) (fun _ _ _ _ => False) (yXC nn E Q) 1 6 (zA E)
  | 0, _, _, _, _, _, _, _, _, h => False.elim h
  | d + 1, y, as, u, Q, hy, hn, hsd, hS, h => by
    obtain ⟨hcat, hlen, h⟩ := h
    obtain ⟨-, -, -, -, hpl, -, -, -, hoy, -⟩ := zMw hy hn
    refine vx_ofW (cc := zBy y) (maxL := zMx y) (ret := zRt y) hpl rfl ?_
    intro p e s m args below meth c s₁ B hml htab hv
    obtain ⟨rfl, hB, hbase, hst⟩ := hv
    have hx := B.exec
    have hb := B.bytes
    have hts0 := atoms_spec (ws := yW y) B.pre
    have hts : ∀ w ∈ yTS, w.before (as.map (zCv (zAd E))).toArray s = true := fun w hw => hts0 w (List.mem_cons_of_mem _ hw)
    have hown : s.vm.findClass (zOwn (zOo y)) = some m.cls := by
      rw [hoy]
      exact findClass_of_methodNamed B.named
    have hlocks := B.notSynchronized
    have hl := lv_entry (as.map (zCv (zAd E))) (n := zMx y) (by rw [zSl_len _ (zCat_map _ _ hcat), List.length_map]; exact hlen)
    rw [lg_entry_eq]
    generalize (lg_sl (as.map (zCv (zAd E))) ++ List.replicate (zMx y - (lg_sl (as.map (zCv (zAd E)))).length) Slot.unset).toArray = ls at hl ⊢
    rw [zArgs_map] at hl
    have hR1 : d + 9 ≤ (headSpec (yW y) (yRt (d + 1))).room.frames := by show d + 9 ≤ d + 1 + 8; omega
    have hR2 : 64 * d + 664 ≤ (headSpec (yW y) (yRt (d + 1))).room.locals := by show 64 * d + 664 ≤ 64 * (d + 1) + 600; omega
    have hR3 : (1 : Nat) ≤ (headSpec (yW y) (yRt (d + 1))).room.cells := Nat.le_refl 1
    have hR4 : (6 : Nat) ≤ (headSpec (yW y) (yRt (d + 1))).room.slots := Nat.le_refl 6
    generalize hRg : (headSpec (yW y) (yRt (d + 1))).room = R at hR1 hR2 hR3 hR4 ⊢
    have hwk : ∀ (pc : Nat) (ls2 ls0 : zLs) (st : List Value) (u2 : zM), (∀ q ∈ ls0, q ∈ ls2) → yP0 p l e R s m (as.map (zCv (zAd E))).toArray below meth c 0 0 (vx_MQ below (fun _ _ _ _ => False) (yXC nn E Q) (as.map (zCv (zAd E))).toArray s 1 6 (zA E)) (zMx y) nn E pc ls0 st u2 → yP0 p l e R s m (as.map (zCv (zAd E))).toArray below meth c 0 0 (vx_MQ below (fun _ _ _ _ => False) (yXC nn E Q) (as.map (zCv (zAd E))).toArray s 1 6 (zA E)) (zMx y) nn E pc ls2 st u2 := fun pc ls2 ls0 st u2 hsub hh H locs L hH hS hL => hh H locs L hH hS ⟨hL.1, hL.2.1, fun q hq => hL.2.2 q (by obtain ⟨q0, g1, g2⟩ := List.mem_map.mp hq; exact List.mem_map.mpr ⟨q0, hsub q0 g1, g2⟩)⟩
    have hstep : ∀ (pc : Nat) (ls2 : zLs) (st : List Value) (u2 : zM), (∀ {ik n a b k : Nat} {v : Int32}, zLk (zCode y) pc = some (.new ik, n, a, b, k, v) → st.length ≤ 12) → zStep (zCall d) (zCode y) (zRb y) true (yP0 p l e R s m (as.map (zCv (zAd E))).toArray below meth c 0 0 (vx_MQ below (fun _ _ _ _ => False) (yXC nn E Q) (as.map (zCv (zAd E))).toArray s 1 6 (zA E)) (zMx y) nn E) Q pc ls2 st u2 → yP0 p l e R s m (as.map (zCv (zAd E))).toArray below meth c 0 0 (vx_MQ below (fun _ _ _ _ => False) (yXC nn E Q) (as.map (zCv (zAd E))).toArray s 1 6 (zA E)) (zMx y) nn E pc ls2 st u2 := by
      intro pc ls2 st u2 hnl hh
      refine yStep_sound (d := d) hx hb hml hown hn hsd hnn hts hB.1 hbase hst (fun pc x q => ykOf hy hS q) hR1 hR2 ⟨Nat.zero_le _, Nat.zero_le _⟩ (fun y2 as2 u3 Q2 hy2 hn2 hs2 hS2 hc2 => yCall_met l nn hnn bb E d y2 as2 u3 Q2 hy2 hn2 hs2 hS2 hc2) (fun _ => ?_) (fun _ => ?_) (fun q => absurd q (by decide)) (fun q => absurd q (by decide)) (fun _ => ?_) hh
      · intro idx y2 pc2 x as2 r u3 H locs L hin hn2 hs2 hS2 hk hsx hr hlen2 hc2 hH hSv hsz hdg
        obtain ⟨cw, hp⟩ := ycW (rm := yRt d) (mc := 1) (ms := 6) (as := as2) hts hB.1 hst (fun g => yLt (hnn.imp id fun e => ⟨e, by simp⟩) g) hin hn2 hk rfl rfl rfl rfl hR1 hR2 hsx hH hSv
        exact yThrow_go (vx_runV (As := as2.map (zCv (zAd E))) (rest := r.map (zCv (zAd E))) (b := zAd E x) ⟨hx, hb, hml, hown, hts⟩ (yThr_met l hlt nn hnn bb E d y2 (.ref x :: as2) u3 Q (zMls_in hin).2 hn2 hs2 hS2 hc2) cw hp rfl (by rw [List.length_map]; exact hlen2) hsz (by simp [zCv]) (lv_room (zRest r hr)) hdg ⟨hR3, hR4⟩) hB.1 hSv htab hlocks
      · intro idx y2 pc2 as2 r u3 H locs L hin hn2 hs2 hS2 hk hr hlen2 hc2 hH hSv hsz hdg
        exact yThrow_go (vx_runS (As := as2.map (zCv (zAd E))) (rest := r.map (zCv (zAd E))) ⟨hx, hb, hml, hown, hts⟩ (yThr_met l hlt nn hnn bb E d y2 as2 u3 Q (zMls_in hin).2 hn2 hs2 hS2 hc2) ⟨ycB (rm := yRt d) (mc := 1) (ms := 6) hts hin hn2 rfl rfl rfl rfl hR1 hR2, yts hts _ (zMwS (zMls_in hin).2 hn2 hk)⟩ (ycPs hB.1 hst hH hSv) rfl (by rw [List.length_map]; exact hlen2) hsz (by simp) (lv_room (zRest r hr)) hdg ⟨hR3, hR4⟩) hB.1 hSv htab hlocks
      · intro ik n a b k v hq hQ H locs L hH hSv hL
        have hnew := (yCk hy hq).2
        have ho : zOo y = 11 := by
          by_cases h11 : zOo y = 11
          · exact h11
          · have e1 : (zOo y == 13) = false := by simpa using hn
            have e2 : (zOo y == 11) = false := by simpa using h11
            simp [yNew, e1, e2] at hnew
        have hn3 : n = 3 := by
          by_cases h3 : n = 3
          · exact h3
          · have e1 : (zOo y == 13) = false := by simpa using hn
            have e2 : (n == 3) = false := by simpa using h3
            simp [yNew, e1, e2] at hnew
        subst hn3
        rw [ho] at hnew hown
        exact yNew_go hx hb hlt hml hown hts hB.1 hst (by omega) (by omega) hR3 hR4 htab hlocks (zkOf hy hq).1 hnew (hnl hq) hQ hH hSv hL.1
    rcases yDs_of hy hn with hno | ⟨h0, hD⟩
    · exact h _ ⟨fun pc ls2 st u2 hh => hstep pc ls2 st u2 (fun q => absurd (hno _ _ q) (by simp [yNo])) hh, hwk⟩ s.heap [] ls hB.2 va_S.rf hl
    · refine h (fun pc ls2 st u2 => (∀ n, yD y pc = some n → st.length ≤ n) → yP0 p l e R s m (as.map (zCv (zAd E))).toArray below meth c 0 0 (vx_MQ below (fun _ _ _ _ => False) (yXC nn E Q) (as.map (zCv (zAd E))).toArray s 1 6 (zA E)) (zMx y) nn E pc ls2 st u2) ⟨fun pc ls2 st u2 hh hl2 => hstep pc ls2 st u2 (fun q => ?_) (yTr (fun x q => hD pc x q) hl2 hh), fun pc ls2 ls0 st u2 hsub hh hl2 => hwk pc ls2 ls0 st u2 hsub (hh hl2)⟩ (fun n hn2 => Nat.zero_le _) s.heap [] ls hB.2 va_S.rf hl
      have h5 := hD _ _ q
      unfold yDk at h5
      dsimp only at h5
      split at h5
      · rename_i n hn2
        exact Nat.le_trans (hl2 n hn2) (of_decide_eq_true h5)
      · cases h5
