def zGoes (F : Nat → Nat → Nat) (cn : Nat → Nat) (r : zR) (s : Nat) : Prop := F r.c (cn s) + F (cn s) 0 ≤ r.p
theorem zRide_yes {F : Nat → Nat → Nat} {K p0 i : Nat} {cn : Nat → Nat} {no : Nat → Bool} {st : Nat → Nat} (q : zGoes F cn (zRide F K cn no st p0 i) (st i)) : zRide F K cn no st p0 (i + 1) = (cn (st i), (zRide F K cn no st p0 i).p - F (zRide F K cn no st p0 i).c (cn (st i)), (zRide F K cn no st p0 i).t + zBt K (zRide F K cn no st p0 i).t (no (st i)), (zRide F K cn no st p0 i).came ||| zBit (st i), (zRide F K cn no st p0 i).gave ||| (if 0 < zBt K (zRide F K cn no st p0 i).t (no (st i)) then zBit (st i) else 0), upd (zRide F K cn no st p0 i).lf (st i) (nI (zBt K (zRide F K cn no st p0 i).t (no (st i)))), upd (zRide F K cn no st p0 i).rs (st i) (nI ((zRide F K cn no st p0 i).p - F (zRide F K cn no st p0 i).c (cn (st i))))) := if_pos q
theorem zRide_no {F : Nat → Nat → Nat} {K p0 i : Nat} {cn : Nat → Nat} {no : Nat → Bool} {st : Nat → Nat} (q : ¬ zGoes F cn (zRide F K cn no st p0 i) (st i)) : zRide F K cn no st p0 (i + 1) = zRide F K cn no st p0 i := if_neg q
/-- a step that no place has is not come to -/
theorem zRide_out {F : Nat → Nat → Nat} {K p0 : Nat} {cn : Nat → Nat} {no : Nat → Bool} {st : Nat → Nat} (hs : ∀ k, st k < 8) {s : Nat} (h8 : s < 8) : ∀ i, (∀ j, j < i → st j ≠ s) → tb (zRide F K cn no st p0 i).came s = false ∧ (zRide F K cn no st p0 i).lf s = 0
  | 0, _ => ⟨tb_0 s, rfl⟩
  | i + 1, h => by
    obtain ⟨h1, h2⟩ := zRide_out hs h8 i (fun j hj => h j (by omega))
    by_cases q : zGoes F cn (zRide F K cn no st p0 i) (st i)
    · have ne := h i (by omega)
      rw [zRide_yes q]
      refine ⟨?_, ?_⟩
      · show tb ((zRide F K cn no st p0 i).came ||| zBit (st i)) s = false
        rw [tb_or, h1, tb_bit _ (hs i) s (by omega), decide_eq_false (Ne.symm ne)]; rfl
      · show upd (zRide F K cn no st p0 i).lf (st i) _ s = 0
        rw [upd_ne _ _ (Ne.symm ne)]; exact h2
    · rw [zRide_no q]; exact ⟨h1, h2⟩
/-- what stands of a place behind it -/
theorem zRide_at {F : Nat → Nat → Nat} {K p0 n : Nat} {cn : Nat → Nat} {no : Nat → Bool} {st : Nat → Nat} (hs : ∀ k, st k < 8) (hi : ∀ j k, j < n → k < n → st j = st k → j = k) {j : Nat} : ∀ i, j < i → i ≤ n →
    (zGoes F cn (zRide F K cn no st p0 j) (st j) → tb (zRide F K cn no st p0 i).came (st j) = true ∧ (zRide F K cn no st p0 i).lf (st j) = nI (zBt K (zRide F K cn no st p0 j).t (no (st j))) ∧ (zRide F K cn no st p0 i).rs (st j) = nI (zRide F K cn no st p0 (j + 1)).p) ∧
    (¬ zGoes F cn (zRide F K cn no st p0 j) (st j) → tb (zRide F K cn no st p0 i).came (st j) = false ∧ (zRide F K cn no st p0 i).lf (st j) = 0)
  | 0, h, _ => absurd h (Nat.not_lt_zero _)
  | i + 1, h, hn => by
    by_cases e : j = i
    · subst e
      refine ⟨fun q => ?_, fun q => ?_⟩
      · rw [zRide_yes q]
        refine ⟨?_, upd_at _ _ _, upd_at _ _ _⟩
        show tb ((zRide F K cn no st p0 j).came ||| zBit (st j)) (st j) = true
        rw [tb_or, tb_bit _ (hs j) _ (by have := hs j; omega), decide_eq_true rfl, Bool.or_true]
      · rw [zRide_no q]
        exact zRide_out hs (hs j) j (fun k hk z => by have := hi k j (by omega) (by omega) z; omega)
    · have ih := zRide_at (F := F) (K := K) (p0 := p0) (n := n) (cn := cn) (no := no) (j := j) hs hi i (by omega) (by omega)
      have ne : st j ≠ st i := fun z => e (hi j i (by omega) (by omega) z)
      by_cases q : zGoes F cn (zRide F K cn no st p0 i) (st i)
      · rw [zRide_yes q]
        refine ⟨fun z => ?_, fun z => ?_⟩
        · obtain ⟨a, b, c⟩ := ih.1 z
          refine ⟨?_, ?_, ?_⟩
          · show tb ((zRide F K cn no st p0 i).came ||| zBit (st i)) (st j) = true
            rw [tb_or, a]; rfl
          · show upd (zRide F K cn no st p0 i).lf (st i) _ (st j) = _
            rw [upd_ne _ _ ne]; exact b
          · show upd (zRide F K cn no st p0 i).rs (st i) _ (st j) = _
            rw [upd_ne _ _ ne]; exact c
        · obtain ⟨a, b⟩ := ih.2 z
          refine ⟨?_, ?_⟩
          · show tb ((zRide F K cn no st p0 i).came ||| zBit (st i)) (st j) = false
            rw [tb_or, a, tb_bit _ (hs i) _ (by have := hs j; omega), decide_eq_false ne]; rfl
          · show upd (zRide F K cn no st p0 i).lf (st i) _ (st j) = _
            rw [upd_ne _ _ ne]; exact b
      · rw [zRide_no q]; exact ih
theorem pGet1_out {W : Nat → Int32} {s k : Nat} (h : k < 163 + 9 * s ∨ 163 + 9 * s + 9 ≤ k) : pGet1 W s k = W k := by
  unfold pGet1
  split
  · rw [upd_ne _ _ (by omega)]
  · rw [upd_ne _ _ (by omega), upd_ne _ _ (by omega)]
theorem pGets_out {W : Nat → Int32} {s k : Nat} (h : k < 163 + 9 * s ∨ 163 + 9 * s + 9 ≤ k) : ∀ b, pGets W s b k = W k
  | 0 => rfl
  | b + 1 => (pGet1_out h).trans (pGets_out h b)
theorem pRecv_out {W : Nat → Int32} {s b k : Nat} (h : k < 163 + 9 * s ∨ 163 + 9 * s + 9 ≤ k) : pRecv W s b k = W k := by
  unfold pRecv
  rw [upd_ne _ _ (by omega)]; exact pGets_out h b
theorem upd_cong {f g : Nat → Int32} {j k : Nat} {v x : Int32} (h : f k = g k) (e : v = x) : upd f j v k = upd g j x k := by
  subst e
  by_cases q : k = j
  · rw [q, upd_at, upd_at]
  · rw [upd_ne _ _ q, upd_ne _ _ q]; exact h
theorem pGet1_dep {W V : Nat → Int32} {s : Nat} (h6 : V 6 = W 6) (h : ∀ w, w < 9 → V (163 + 9 * s + w) = W (163 + 9 * s + w)) : ∀ w, w < 9 → pGet1 V s (163 + 9 * s + w) = pGet1 W s (163 + 9 * s + w) := by
  intro w hw
  unfold pGet1
  rw [h 2 (by decide), h 3 (by decide), h 4 (by decide), h6]
  split
  · exact upd_cong (h w hw) rfl
  · exact upd_cong (upd_cong (h w hw) rfl) rfl
theorem pGets_dep {W V : Nat → Int32} {s : Nat} (h6 : V 6 = W 6) (h : ∀ w, w < 9 → V (163 + 9 * s + w) = W (163 + 9 * s + w)) : ∀ b w, w < 9 → pGets V s b (163 + 9 * s + w) = pGets W s b (163 + 9 * s + w)
  | 0, w, hw => h w hw
  | b + 1, w, hw => pGet1_dep (by rw [pGets_out (by omega), pGets_out (by omega)]; exact h6) (fun w hw => pGets_dep h6 h b w hw) w hw
theorem pRecv_dep {W V : Nat → Int32} {s b : Nat} (h6 : V 6 = W 6) (h : ∀ w, w < 9 → V (163 + 9 * s + w) = W (163 + 9 * s + w)) : ∀ w, w < 9 → pRecv V s b (163 + 9 * s + w) = pRecv W s b (163 + 9 * s + w) := fun w hw => upd_cong (pGets_dep h6 h b w hw) rfl
theorem pCome_out {r : zR} {W : Nat → Int32} {s k : Nat} (h : k < 163 + 9 * s ∨ 163 + 9 * s + 9 ≤ k) : pCome r W s k = W k := by
  unfold pCome
  split
  · exact pRecv_out h
  · rfl
theorem pCome_dep {r : zR} {W V : Nat → Int32} {s : Nat} (h6 : V 6 = W 6) (h : ∀ w, w < 9 → V (163 + 9 * s + w) = W (163 + 9 * s + w)) : ∀ w, w < 9 → pCome r V s (163 + 9 * s + w) = pCome r W s (163 + 9 * s + w) := by
  intro w hw
  unfold pCome
  split
  · exact pRecv_dep h6 h w hw
  · exact h w hw
theorem pDel_at {r : zR} {W : Nat → Int32} : ∀ i, (∀ k, (k < 163 ∨ 163 + 9 * i ≤ k) → pAll (pCome r) W i k = W k) ∧ ∀ s w, s < i → w < 9 → pAll (pCome r) W i (163 + 9 * s + w) = pCome r W s (163 + 9 * s + w)
  | 0 => ⟨fun _ _ => rfl, fun s w hs => absurd hs (Nat.not_lt_zero _)⟩
  | i + 1 => by
    obtain ⟨h1, h2⟩ := pDel_at (r := r) (W := W) i
    refine ⟨fun k hk => ?_, fun s w hs hw => ?_⟩
    · show pCome r (pAll (pCome r) W i) i k = W k
      rw [pCome_out (by omega)]; exact h1 k (by omega)
    · show pCome r (pAll (pCome r) W i) i (163 + 9 * s + w) = _
      by_cases q : s = i
      · subst q
        exact pCome_dep (h1 6 (by omega)) (fun x hx => h1 _ (by omega)) w hw
      · rw [pCome_out (by omega)]; exact h2 s w (by omega) hw
theorem pTell_in {V : Nat → Int32} {s k : Nat} {a b : Int32} (h : 163 ≤ k ∧ k < 235) : pTell V s a b k = V k := by
  unfold pTell
  rw [if_neg (by omega), if_neg (by omega), if_neg (by omega), if_neg (by omega), if_neg (by omega), if_neg (by omega)]
theorem pTell_out {V U : Nat → Int32} {s : Nat} {a b : Int32} (h : ∀ k, (k < 163 ∨ 235 ≤ k) → V k = U k) : ∀ k, (k < 163 ∨ 235 ≤ k) → pTell V s a b k = pTell U s a b k := by
  intro k hk
  unfold pTell
  by_cases q : 239 ≤ k ∧ k < 475
  · rw [if_pos q, if_pos q, h 9 (by omega), h 3 (by omega), h (k - 4) (by omega)]
  · rw [if_neg q, if_neg q, h 9 (by omega), h 3 (by omega), h k hk]
theorem pTell_fx {V : Nat → Int32} {s : Nat} {a b : Int32} (hv : zVs V) : zStp V (pTell V s a b) := by
  have e : ∀ k, (k ≠ 9 ∧ k < 235) ∨ 475 ≤ k → pTell V s a b k = V k := fun k hk => by
    unfold pTell
    rw [if_neg (by omega), if_neg (by omega), if_neg (by omega), if_neg (by omega), if_neg (by omega), if_neg (by omega)]
  refine ⟨⟨fun k h1 h2 h3 h4 => e k (by omega), fun k hk => e k (by omega), fun t ht => ⟨e _ (by omega), e _ (by omega), e _ (by omega), e _ (by omega)⟩⟩, fun t w ht h2 h6 => ?_, e 3 (by omega)⟩
  rw [e _ (by omega)]; exact hv t w ht h2 h6
theorem pLog1_in {st : Nat → Nat} {r : zR} {V : Nat → Int32} {i k : Nat} (h : 163 ≤ k ∧ k < 235) : pLog1 st r V i k = V k := by
  unfold pLog1
  split
  · exact pTell_in h
  · rfl
theorem pLogs_in {W V : Nat → Int32} {r : zR} {k : Nat} (h : 163 ≤ k ∧ k < 235) : ∀ i, pLogs W r V i k = V k
  | 0 => rfl
  | i + 1 => (pLog1_in (V := pAll (pLog1 (stN W) r) V i) h).trans (pLogs_in (W := W) (r := r) (V := V) h i)
theorem pLogs_out {W V U : Nat → Int32} {r : zR} (h : ∀ k, (k < 163 ∨ 235 ≤ k) → V k = U k) : ∀ i k, (k < 163 ∨ 235 ≤ k) → pLogs W r V i k = pLogs W r U i k
  | 0, k, hk => h k hk
  | i + 1, k, hk => by
    have ih := pLogs_out (W := W) (r := r) h i
    show pLog1 (stN W) r (pLogs W r V i) i k = pLog1 (stN W) r (pLogs W r U i) i k
    unfold pLog1
    split
    · exact pTell_out ih k hk
    · exact ih k hk
theorem pLogs_ok {W V : Nat → Int32} {r : zR} (hv : zVs V) : ∀ i, zStp V (pLogs W r V i)
  | 0 => zStp.rf hv
  | i + 1 => by
    have ih := pLogs_ok (W := W) (r := r) hv i
    refine ih.tr ?_
    show zStp (pLogs W r V i) (pLog1 (stN W) r (pLogs W r V i) i)
    unfold pLog1
    split
    · exact pTell_fx ih.2.1
    · exact zStp.rf ih.2.1
theorem pDel_ok {W : Nat → Int32} {n : Nat} (hR : zRg W n) : zStp W (pDel W n) := by
  have h8 := hR.1.1
  have key : ∀ i, i ≤ n → zStp W (pAll (pCome (pRide W n)) W i) := by
    intro i
    induction i with
    | zero => exact fun _ => zStp.rf hR.vs
    | succ i ih =>
      intro hi
      have h := ih (by omega)
      refine h.tr ?_
      have h6 : ∃ p, p ≤ 20 ∧ pAll (pCome (pRide W n)) W i 6 = nI p := by
        rw [h.1.1 6 (by decide) (by decide) (by decide) (by decide)]; exact hR.2.2.2.2.2.2.1
      show zStp _ (pCome _ (pAll (pCome (pRide W n)) W i) i)
      generalize pAll (pCome (pRide W n)) W i = V at h h6 ⊢
      unfold pCome
      split
      · exact pRecv_ok (by omega) h.2.1 h6
      · exact zStp.rf h.2.1
  exact key n (Nat.le_refl _)
theorem pDelL_ok {W : Nat → Int32} {n : Nat} (hR : zRg W n) : zStp W (pDelL W n) := (pDel_ok hR).tr (pLogs_ok (pDel_ok hR).2.1 n)
theorem stN_lt (W : Nat → Int32) (k : Nat) : stN W k < 8 := by unfold stN; omega
theorem stN_inj {W : Nat → Int32} {n : Nat} (hR : zRg W n) : ∀ j k, j < n → k < n → stN W j = stN W k → j = k := fun j k hj hk e => by
  refine hR.2.2.2.2.2.2.2.2.2.2.2.2.2.1 j k hj hk ?_
  rw [(stN_eq hR hj).1, (stN_eq hR hk).1, e]
theorem zGoTo_cong {F : Nat → Nat → Nat} {K s : Nat} {cn cn2 : Nat → Nat} {no no2 : Nat → Bool} {r : zR} (h1 : cn s = cn2 s) (h2 : no s = no2 s) : zGoTo F K cn no r s = zGoTo F K cn2 no2 r s := by
  unfold zGoTo
  rw [h1, h2]
theorem zFx.cn {W V : Nat → Int32} (h : zFx W V) {s : Nat} (hs : s < 8) : cnN V s = cnN W s := by
  unfold cnN
  rw [(h.2.2 s hs).1]
theorem zFx.no {W V : Nat → Int32} (h : zFx W V) (h3 : V 3 = W 3) {s : Nat} (hs : s < 8) : zNo V s = zNo W s := by
  unfold zNo
  rw [(h.2.2 s hs).2.2.1, h3]
