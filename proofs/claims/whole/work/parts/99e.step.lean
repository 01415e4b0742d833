theorem t2X12_rests {d : Nat} {a1 : Int32} {a2 : Int32} {u : zM} {Q : Option Value → zM → Prop}  (h : (∀ m1 : zM, m1 = zUp u 128 0 0 → ((a1 < 0 → Q (some (.int 0)) (zUp m1 128 0 1)) ∧ (¬ a1 < 0 → ((((m1 129 0) - 1) < a1 → Q (some (.int 0)) (zUp m1 128 0 1)) ∧ (¬ ((m1 129 0) - 1) < a1 → ((a2 < 0 → Q (some (.int 0)) (zUp m1 128 0 1)) ∧ (¬ a2 < 0 → ((((m1 129 0) - 1) < a2 → Q (some (.int 0)) (zUp m1 128 0 1)) ∧ (¬ ((m1 129 0) - 1) < a2 → ((¬ a1 = a2 → zRun (d + 2) false zcX12_rests 1 Q 59 [(0, .ref 128), (1, .int a1), (2, .int a2), (3, .int 0), (4, .int 0)] [] m1) ∧ (a1 = a2 → Q (some (.int 0)) (zUp m1 128 0 2))))))))))))) : zCall (d + 3) false 309 [.ref 128, .int a1, .int a2] u Q := zCall_of zcX12_rests 1 rfl (Nat.le_of_ble_eq_true rfl) rfl rfl (zGo_in 2000 [59, 68] (And.intro rfl (And.intro rfl (And.intro (Nat.le_of_ble_eq_true rfl) (Or.inl (tX12_noStep  (And.intro (fun c6 => (And.intro (fun _ => (And.intro rfl (And.intro (Nat.le_of_ble_eq_true rfl) (Or.inl (tX12_throwsIf  (And.intro (fun c => absurd c (by decide)) (fun _ => (And.intro (Or.inr rfl) (And.intro (fun _ => (And.intro rfl (And.intro rfl ((h _ rfl).1 c6)))) (fun c => absurd c (by decide))))))))))) (fun c => absurd c (by decide)))) (fun c6 => (And.intro (fun c5 => (And.intro (fun _ => (And.intro rfl (And.intro (Nat.le_of_ble_eq_true rfl) (Or.inl (tX12_throwsIf  (And.intro (fun c => absurd c (by decide)) (fun _ => (And.intro (Or.inr rfl) (And.intro (fun _ => (And.intro rfl (And.intro rfl (((h _ rfl).2 c6).1 c5)))) (fun c => absurd c (by decide))))))))))) (fun c => absurd c (by decide)))) (fun c5 => (And.intro (fun c => absurd (by decide) c) (fun _ => (And.intro rfl (And.intro (Nat.le_of_ble_eq_true rfl) (Or.inl (tX12_noStep  (And.intro (fun c4 => (And.intro (fun c => absurd c (by decide)) (fun _ => (And.intro rfl (And.intro (Nat.le_of_ble_eq_true rfl) (Or.inl (tX12_throwsIf  (And.intro (fun c => absurd c (by decide)) (fun _ => (And.intro (Or.inr rfl) (And.intro (fun _ => (And.intro rfl (And.intro rfl ((((h _ rfl).2 c6).2 c5).1 c4)))) (fun c => absurd c (by decide))))))))))))) (fun c4 => (And.intro (fun c3 => (And.intro (fun c => absurd c (by decide)) (fun _ => (And.intro rfl (And.intro (Nat.le_of_ble_eq_true rfl) (Or.inl (tX12_throwsIf  (And.intro (fun c => absurd c (by decide)) (fun _ => (And.intro (Or.inr rfl) (And.intro (fun _ => (And.intro rfl (And.intro rfl (((((h _ rfl).2 c6).2 c5).2 c4).1 c3)))) (fun c => absurd c (by decide))))))))))))) (fun c3 => (And.intro (fun _ => (And.intro rfl (And.intro (Nat.le_of_ble_eq_true rfl) (Or.inl (tX12_throwsIf  (And.intro (fun _ => (And.intro (Or.inl rfl) (And.intro (fun c => absurd (by decide) c) (fun _ => (And.intro (fun c2 => (And.intro rfl (And.intro (Nat.le_of_ble_eq_true rfl) (Or.inl (tX12_throwsIf  (And.intro (fun _ => (And.intro (Or.inl rfl) (And.intro (fun _ => (zRun_wk [2, 3, 4, 1, 0] rfl ((((((h _ rfl).2 c6).2 c5).2 c4).2 c3).1 c2))) (fun c => absurd (by decide) c)))) (fun c => absurd (by decide) c))))))) (fun c2 => (And.intro rfl (And.intro (Nat.le_of_ble_eq_true rfl) (Or.inl (tX12_throwsIf  (And.intro (fun c => absurd c (by decide)) (fun _ => (And.intro (Or.inr rfl) (And.intro (fun c => absurd c (by decide)) (fun _ => (And.intro rfl (And.intro rfl ((((((h _ rfl).2 c6).2 c5).2 c4).2 c3).2 c2)))))))))))))))))) (fun c => absurd (by decide) c))))))) (fun c => absurd (by decide) c))))))))))))))))))))))
theorem t2X12_rests_59 {d : Nat} {a1 : Int32} {a2 : Int32} {b3 : Int32} {b4 : Int32}  {u : zM} {Q : Option Value → zM → Prop}  (h : ((2 ≤ b4 → Q (some (.int b3)) u) ∧ (¬ 2 ≤ b4 → zRun (d + 2) false zcX12_rests 1 Q 68 [(0, .ref 128), (1, .int a1), (2, .int a2), (3, .int b3), (4, .int b4), (5, .int 0)] [] u))) : zRun (d + 2) false zcX12_rests 1 Q 59 [(0, .ref 128), (1, .int a1), (2, .int a2), (3, .int b3), (4, .int b4)] [] u := zGo_in 2000 [59, 68] (And.intro (fun c1 => (And.intro rfl (And.intro rfl (h.1 c1)))) (fun c1 => (zRun_wk [1, 2, 3, 4, 5, 0] rfl (h.2 c1))))
theorem t2X12_rests_68 {d : Nat} {a1 : Int32} {a2 : Int32} {b3 : Int32} {b4 : Int32} {b5 : Int32}  {u : zM} {Q : Option Value → zM → Prop}  (h : ((2 ≤ b5 → zRun (d + 2) false zcX12_rests 1 Q 59 [(0, .ref 128), (1, .int a1), (2, .int a2), (3, .int b3), (4, .int (b4 + 1))] [] u) ∧ (¬ 2 ≤ b5 → (zCI (d + 2) 308 [.ref 128, .int a1, .int a2, .int b4, .int b5] u fun x2 w1 => (zCI (d + 2) 308 [.ref 128, .int a1, .int a2, .int (1 - b4), .int b5] w1 fun x4 w3 => ((x2 < x4 → zRun (d + 2) false zcX12_rests 1 Q 68 [(0, .ref 128), (1, .int a1), (2, .int a2), (3, .int (b3 ||| 0)), (4, .int b4), (5, .int (b5 + 1))] [] w3) ∧ (¬ x2 < x4 → (zCI (d + 2) 308 [.ref 128, .int a2, .int a1, .int b5, .int b4] w3 fun x6 w5 => (zCI (d + 2) 308 [.ref 128, .int a2, .int a1, .int (1 - b5), .int b4] w5 fun x8 w7 => ((x6 < x8 → zRun (d + 2) false zcX12_rests 1 Q 68 [(0, .ref 128), (1, .int a1), (2, .int a2), (3, .int (b3 ||| 0)), (4, .int b4), (5, .int (b5 + 1))] [] w7) ∧ (¬ x6 < x8 → zRun (d + 2) false zcX12_rests 1 Q 68 [(0, .ref 128), (1, .int a1), (2, .int a2), (3, .int (b3 ||| ((1 : Int32) <<< (((2 * b4) + b5) &&& 31)))), (4, .int b4), (5, .int (b5 + 1))] [] w7))))))))))) : zRun (d + 2) false zcX12_rests 1 Q 68 [(0, .ref 128), (1, .int a1), (2, .int a2), (3, .int b3), (4, .int b4), (5, .int b5)] [] u := zGo_in 2000 [59, 68] (And.intro (fun c11 => (zRun_wk [1, 2, 3, 4, 0] rfl (h.1 c11))) (fun c11 => (And.intro rfl (And.intro (Nat.le_of_ble_eq_true rfl) (Or.inl (zCI_go (fun x2 w1 hh => (And.intro rfl (And.intro (Nat.le_of_ble_eq_true rfl) (Or.inl (zCI_go (fun x4 w3 hh => (And.intro (fun c10 => (And.intro (fun _ => (zRun_wk [3, 4, 5, 1, 6, 0] rfl (hh.1 c10))) (fun c => absurd (by decide) c))) (fun c10 => (And.intro rfl (And.intro (Nat.le_of_ble_eq_true rfl) (Or.inl (zCI_go (fun x6 w5 hh => (And.intro rfl (And.intro (Nat.le_of_ble_eq_true rfl) (Or.inl (zCI_go (fun x8 w7 hh => (And.intro (fun c9 => (And.intro (fun _ => (zRun_wk [3, 4, 5, 1, 6, 0] rfl (hh.1 c9))) (fun c => absurd (by decide) c))) (fun c9 => (And.intro (fun c => absurd c (by decide)) (fun _ => (zRun_wk [3, 4, 5, 1, 6, 0] rfl (hh.2 c9))))))) hh))))) (hh.2 c10)))))))) hh))))) (h.2 c11)))))))
/-! rests -/
def hasN (W : Nat → Int32) (s o : Nat) (c e : Bool) : Int32 := if c = true then 2 * W (163 + 9 * s + 4) + (if e = true then 3 else 0) else 2 * W (163 + 9 * s + 3) + W (163 + 9 * s + 4) - (if e = true then W (163 + 9 * o + 4) else 0)
def i01 (c : Bool) : Int32 := if c = true then 1 else 0
theorem i01_n (c : Bool) : 1 - i01 c = i01 (!c) := by cases c <;> decide
theorem s_has {d s o : Nat} {c e : Bool} {W : Nat → Int32} {a3 a4 : Int32} {u : zM} {Q : Option Value → zM → Prop} (e3 : a3 = i01 c) (e4 : a4 = i01 e) (hs : s < 8) (ho : o < 8) (hV : ∀ t w, t < 8 → w < 9 → u 5 (w * 8 + t) = W (163 + 9 * t + w)) (h : Q (some (.int (hasN W s o c e))) u) : zCall (d + 2) false 178 [.ref 0, .int (nI s), .int (nI o), .int a3, .int a4] u Q := by
  subst e3; subst e4
  have vs : vp_in (nI s) 8 := vp_in_nI (by omega) (by decide)
  have vo : vp_in (nI o) 8 := vp_in_nI (by omega) (by decide)
  have c3 : ((3 : Int32) * 8) + nI s = nI (3 * 8 + s) := dv_ix 3 s
  have c4 : ((4 : Int32) * 8) + nI s = nI (4 * 8 + s) := dv_ix 4 s
  have c5 : ((4 : Int32) * 8) + nI o = nI (4 * 8 + o) := dv_ix 4 o
  refine tX11_has ⟨vs, ?_⟩
  rw [c3, c4, c5, nI_clamp (n := 3 * 8 + s) (by omega), nI_clamp (n := 4 * 8 + s) (by omega), nI_clamp (n := 4 * 8 + o) (by omega), hV s 3 hs (by decide), hV s 4 hs (by decide), hV o 4 ho (by decide)]
  cases c <;> cases e
  · exact ⟨fun _ => ⟨fun _ => ⟨vs, h⟩, fun q => absurd q (by decide)⟩, fun q => absurd q (by decide)⟩
  · exact ⟨fun q => absurd rfl q, fun _ => ⟨fun _ => ⟨vo, vs, h⟩, fun q => absurd q (by decide)⟩⟩
  · exact ⟨fun _ => ⟨fun q => absurd rfl q, fun _ => h⟩, fun q => absurd q (by decide)⟩
  · exact ⟨fun q => absurd rfl q, fun _ => ⟨fun q => absurd rfl q, fun _ => h⟩⟩
theorem s_hasBy {d s o : Nat} {c e : Bool} {a3 a4 : Int32} {u : zM} {Q : Option Value → zM → Prop} (e3 : a3 = i01 c) (e4 : a4 = i01 e) (hs : s < 8) (ho : o < 8) (h : Q (some (.int (hasN (u 129) s o c e))) u) : zCall (d + 3) false 308 [.ref 128, .int (nI s), .int (nI o), .int a3, .int a4] u Q := by
  subst e3; subst e4
  have b3 : (163 + (9 * nI s)) + 3 = nI (163 + 9 * s + 3) := ix_w s 3
  have b4 : (163 + (9 * nI s)) + 4 = nI (163 + 9 * s + 4) := ix_w s 4
  have b5 : (163 + (9 * nI o)) + 4 = nI (163 + 9 * o + 4) := ix_w o 4
  have m : i01 e * u 129 (163 + 9 * o + 4) = if e = true then u 129 (163 + 9 * o + 4) else 0 := by
    cases e
    · exact Int32.zero_mul
    · exact Int32.one_mul _
  have m2 : 3 * i01 e = if e = true then 3 else 0 := by cases e <;> decide
  refine tX12_hasBy ?_
  rw [b3, b4, b5, ix_c (s := s) (w := 3) hs (by decide), ix_c (s := s) (w := 4) hs (by decide), ix_c (s := o) (w := 4) ho (by decide), m, m2]
  cases c
  · exact ⟨fun _ => ⟨ix_v hs (by decide), ix_v hs (by decide), ix_v ho (by decide), h⟩, fun q => absurd q (by decide)⟩
  · exact ⟨fun q => absurd rfl q, fun _ => ⟨ix_v hs (by decide), h⟩⟩
def rsF (W : Nat → Int32) (a o : Nat) (b : Int32) (c e : Bool) : Int32 := if hasN W a o c e < hasN W a o (!c) e then b else if hasN W o a e c < hasN W o a (!e) c then b else b ||| ((1 : Int32) <<< (((2 * i01 c) + i01 e) &&& 31))
def rsAll (W : Nat → Int32) (a o : Nat) : Int32 := rsF W a o (rsF W a o (rsF W a o (rsF W a o 0 false false) false true) true false) true true
theorem rests_d {a o : Nat} {c e : Bool} {b3 b4 b5 : Int32} {W : Nat → Int32} {u : zM} {Q : Option Value → zM → Prop} (e4 : b4 = i01 c) (e5 : b5 = i01 e) (ha : a < 8) (ho : o < 8) (hV : ∀ t w, t < 8 → w < 9 → u 5 (w * 8 + t) = W (163 + 9 * t + w))
    (h : zRun 59 false zcX11_rests 1 Q 29 [(0, .ref 0), (1, .int (nI a)), (2, .int (nI o)), (3, .int (rsF W a o b3 c e)), (4, .int b4), (5, .int (b5 + 1))] [] u) : zRun 59 false zcX11_rests 1 Q 29 [(0, .ref 0), (1, .int (nI a)), (2, .int (nI o)), (3, .int b3), (4, .int b4), (5, .int b5)] [] u := by
  subst e4; subst e5
  refine tX11_rests_29 ?_
  rw [i01_n, i01_n]
  refine br_f (by cases e <;> decide) ?_
  refine s_has (W := W) rfl rfl ha ho hV ⟨_, rfl, ?_⟩
  refine s_has (W := W) rfl rfl ha ho hV ⟨_, rfl, ?_⟩
  unfold rsF at h
  refine ⟨fun q => by rw [if_pos q] at h; exact h, fun q => ?_⟩
  rw [if_neg q] at h
  refine s_has (W := W) rfl rfl ho ha hV ⟨_, rfl, ?_⟩
  refine s_has (W := W) rfl rfl ho ha hV ⟨_, rfl, ?_⟩
  exact ⟨fun q2 => by rw [if_pos q2] at h; exact h, fun q2 => by rw [if_neg q2] at h; exact h⟩
theorem rests_r {a o : Nat} {c e : Bool} {b3 b4 b5 : Int32} {u : zM} {Q : Option Value → zM → Prop} (e4 : b4 = i01 c) (e5 : b5 = i01 e) (ha : a < 8) (ho : o < 8)
    (h : zRun 59 false zcX12_rests 1 Q 68 [(0, .ref 128), (1, .int (nI a)), (2, .int (nI o)), (3, .int (rsF (u 129) a o b3 c e)), (4, .int b4), (5, .int (b5 + 1))] [] u) : zRun 59 false zcX12_rests 1 Q 68 [(0, .ref 128), (1, .int (nI a)), (2, .int (nI o)), (3, .int b3), (4, .int b4), (5, .int b5)] [] u := by
  subst e4; subst e5
  refine t2X12_rests_68 ?_
  rw [i01_n, i01_n, Int32.or_zero]
  refine br_f (by cases e <;> decide) ?_
  refine s_hasBy rfl rfl ha ho ⟨_, rfl, ?_⟩
  refine s_hasBy rfl rfl ha ho ⟨_, rfl, ?_⟩
  unfold rsF at h
  refine ⟨fun q => by rw [if_pos q] at h; exact h, fun q => ?_⟩
  rw [if_neg q] at h
  refine s_hasBy rfl rfl ho ha ⟨_, rfl, ?_⟩
  refine s_hasBy rfl rfl ho ha ⟨_, rfl, ?_⟩
  exact ⟨fun q2 => by rw [if_pos q2] at h; exact h, fun q2 => by rw [if_neg q2] at h; exact h⟩
theorem n_top {n s : Nat} (h8 : n ≤ 8) (hs : s < n) : ¬ nI n - 1 < nI s := by
  rw [nI_lit, nI_sub (by show 1 ≤ n; omega), nI_ltI (by omega) (by omega)]
  show ¬ n - 1 < s
  omega
theorem op_rests (a b : Int32) : zAskT 146 309 [.int a, .int b] [(2, 1), (1, 2)] := by
  intro u n hC
  have h8 := hC.1.1.1
  have hn := hC.1.1.2
  have hu : u 4 3 = nI n := hC.2.2.1.1.1.trans hn
  have hV := hC.2.2.1.2.1
  rcases i_cases a n (by omega) with ⟨s, hs, rfl⟩ | ha
  · have pos := nI_pos' (n := s) (by omega)
    have lt : nI s < u 4 3 := by rw [hu]; exact nI_lt hs (by omega)
    have ns := n_top h8 hs
    rcases i_cases b n (by omega) with ⟨t, ht, rfl⟩ | hb
    · have pos2 := nI_pos' (n := t) (by omega)
      have lt2 : nI t < u 4 3 := by rw [hu]; exact nI_lt ht (by omega)
      have ns2 := n_top h8 ht
      by_cases q : s = t
      · subst q
        refine Or.inr (tTX11_rests (Or.inr ⟨pos, lt, Or.inr ⟨pos2, lt2, Or.inl ⟨rfl, zSame.rf u, ?_⟩⟩⟩))
        refine t2X12_rests (fun m1 e1 => ?_)
        have n0 : m1 129 0 = nI n := by rw [e1, zUp_k _ _ (by decide)]; exact hn
        rw [n0]
        exact br_f (nI_pos (by omega)) (br_f ns (br_f (nI_pos (by omega)) (br_f ns ⟨fun q => absurd rfl q, fun _ => zThr e1 (by simp)⟩)))
      · have ne : ¬ nI s = nI t := nI_ne (a := s) (b := t) (by omega) (by omega) q
        refine Or.inl (tX11_rests ⟨pos, lt, pos2, lt2, ne, ?_⟩)
        refine tX11_rests_20 (br_f (by decide) ?_)
        refine rests_d (c := false) (e := false) (W := u 129) rfl rfl (by omega) (by omega) hV ?_
        refine rests_d (c := false) (e := true) (W := u 129) rfl (by decide) (by omega) (by omega) hV ?_
        refine tX11_rests_29 (br_t (by decide) ?_)
        refine tX11_rests_20 (br_f (by decide) ?_)
        refine rests_d (c := true) (e := false) (W := u 129) (by decide) rfl (by omega) (by omega) hV ?_
        refine rests_d (c := true) (e := true) (W := u 129) (by decide) (by decide) (by omega) (by omega) hV ?_
        refine tX11_rests_29 (br_t (by decide) ?_)
        refine tX11_rests_20 (br_t (by decide) ⟨zSame.rf u, fun o => ?_⟩)
        refine t2X12_rests (fun m1 e1 => ?_)
        have m9 : m1 129 = u 129 := by rw [e1, zUp_k _ _ (by decide), zUp_k _ _ (by decide)]
        rw [m9, hn]
        refine br_f (nI_pos (by omega)) (br_f ns (br_f (nI_pos (by omega)) (br_f ns2 ⟨fun _ => ?_, fun z => absurd z ne⟩)))
        refine t2X12_rests_59 (br_f (by decide) ?_)
        refine rests_r (c := false) (e := false) rfl rfl (by omega) (by omega) ?_
        refine rests_r (c := false) (e := true) rfl (by decide) (by omega) (by omega) ?_
        refine t2X12_rests_68 (br_t (by decide) ?_)
        refine t2X12_rests_59 (br_f (by decide) ?_)
        refine rests_r (c := true) (e := false) (by decide) rfl (by omega) (by omega) ?_
        refine rests_r (c := true) (e := true) (by decide) (by decide) (by omega) (by omega) ?_
        refine t2X12_rests_68 (br_t (by decide) ?_)
        refine t2X12_rests_59 (br_t (by decide) ⟨by rw [m9], by rw [e1, zUp_at], by rw [e1]; exact (zSame.o o).tr (zSame.m (j := 0) 0 (by decide))⟩)
    · refine Or.inr (tTX11_rests (Or.inr ⟨pos, lt, Or.inl ⟨by rw [hu]; exact hb, zSame.rf u, ?_⟩⟩))
      refine t2X12_rests (fun m1 e1 => ?_)
      have n0 : m1 129 0 = nI n := by rw [e1, zUp_k _ _ (by decide)]; exact hn
      rw [n0]
      exact br_f (nI_pos (by omega)) (br_f ns ⟨fun _ => zThr e1 (by simp), fun q => ⟨fun _ => zThr e1 (by simp), fun q2 => absurd (i_top2 h8 hb q) q2⟩⟩)
  · refine Or.inr (tTX11_rests (Or.inl ⟨by rw [hu]; exact ha, zSame.rf u, ?_⟩))
    refine t2X12_rests (fun m1 e1 => ?_)
    have n0 : m1 129 0 = nI n := by rw [e1, zUp_k _ _ (by decide)]; exact hn
    rw [n0]
    exact ⟨fun _ => zThr e1 (by simp), fun q => ⟨fun _ => zThr e1 (by simp), fun q2 => absurd (i_top2 h8 ha q) q2⟩⟩
/-! what weighing changes -/
def zWg (u w : zM) : Prop := (∀ c, c ≠ 12 → c ≠ 18 → w c = u c) ∧ ∀ j, j ≠ 8 → w 12 j = u 12 j
theorem zWg.inv {u w : zM} {n : Nat} (h : zWg u w) (hI : zInv u n) : zInv w n := by
  obtain ⟨c, l, t, p, i, k⟩ := hI
  have f := h.1
  have e9 : w 129 = u 129 := f 129 (by decide) (by decide)
  refine ⟨⟨by rw [e9]; exact c.1, fun a b ha hb => ?_, ?_, ?_⟩, ?_, ?_, ?_, ?_, ?_⟩
  · rw [f 134 (by decide) (by decide), e9]; exact c.2.1 a b ha hb
  · rw [e9]; exact c.2.2.1.congr (fun x a b => f x (by omega) (by omega))
  · rw [e9]; exact c.2.2.2.congr (f 10 (by decide) (by decide)) (f 11 (by decide) (by decide))
  · rw [e9]; exact l.congr (h.2 6 (by decide)) (fun x a b => f x (by omega) (by omega))
  · exact t.congr (by rw [f 1 (by decide) (by decide)]) (by rw [f 1 (by decide) (by decide)]) (f 2 (by decide) (by decide)) (f 135 (by decide) (by decide)) (by rw [f 128 (by decide) (by decide)]) (by rw [f 128 (by decide) (by decide)])
  · exact p.congr (by rw [f 0 (by decide) (by decide)]) (by rw [f 0 (by decide) (by decide)]) (by rw [f 128 (by decide) (by decide)]) (f 133 (by decide) (by decide)) e9 (fun x a b => f x (by omega) (by omega))
  · exact i.congr (by rw [f 0 (by decide) (by decide)]) (by rw [f 128 (by decide) (by decide)]) (f 130 (by decide) (by decide)) (fun x a b => f x (by omega) (by omega))
  · unfold zTrK zTrT
    rw [f 121 (by decide) (by decide), f 122 (by decide) (by decide), f 124 (by decide) (by decide), e9]
    exact k
theorem zThrI {u m1 : zM} {n : Nat} {E c : Int32} {L : List (Int32 × Int32)} (hI : zInv u n) (e1 : m1 = zUp u 128 0 0) (h : (E, c) ∈ L) : zIv (zUp m1 128 0 c) ∧ ∃ E' c' : Int32, (some (Value.int E) : Option Value) = some (.int E') ∧ (E', c') ∈ L ∧ zUp m1 128 0 c 128 0 = c' := ⟨⟨n, (zThr e1 h).1.inv hI⟩, (zThr e1 h).2⟩
theorem s_weighI {d n kd s : Nat} {a1 a3 : Int32} {u : zM} {Q : Option Value → zM → Prop} (hI : zInv u n) (e1 : a1 = nI (kd + 9)) (e3 : a3 = nI s) (hkd : kd ≤ 2) (hs : s < 8) (h : ∀ w, zWg u w → Q (some (.int (lwBy (u 129) kd s))) w) : zCall (d + 4) false 32 [.ref 12, .int a1, .ref 4, .int a3] u Q := by
  have D := hI.1.2.2.1
  exact s_weigh (k0 := 12) (k3 := 4) (kd := kd) (W := u 129) rfl rfl (by decide) e1 e3 hkd hs hI.1.1 hI.2.1 D.1.2.2.2.2.2.1 D.1.2.2.2.2.2.2.1 D.1.2.2.2.2.2.2.2.1 (fun w hw => D.2.1 s w hs hw) (fun w f g => h w ⟨fun c a b => f c a b, g⟩)
/-! odds -/
def odV (p : Int32) : Nat → Int32
  | 0 => 10000
  | i + 1 => odV p i * p / 100
theorem K0 {w1 z : zM} {n : Nat} {o : Int32} (hI : zInv w1 n) (f : ∀ c, c ≠ 137 → z c = (zUp (zUp w1 142 0 o) 128 0 0) c) : z 128 0 = 0 ∧ zIv z :=
  ⟨by rw [f 128 (by decide), zUp_at], n, (((zSame.o o).tr (zSame.m (j := 0) 0 (by decide))).tr (zSame.row (k := 137) rfl (by decide) (by decide) f)).inv hI⟩
theorem m_odds {n s m : Nat} {w1 : zM} (hI : zInv w1 n) (hs : s < n) (hm : m ≤ 4) (o : Int32) : zCall 60 false 317 [.ref 128, .int (nI s), .int (nI m)] (zUp w1 142 0 o) fun v2 w2 => v2 = some (.int (odV (100 - (if lwBy (w1 129) 1 s < 100 then lwBy (w1 129) 1 s else 100)) m)) ∧ w2 128 0 = 0 ∧ zIv w2 := by
  have hR := hI.1.1
  have hw := hI.2.1.wf
  have h8 := hR.1.1
  have ns := n_top h8 hs
  refine tX12_odds (fun m1 e1 => ?_)
  have m9 : m1 129 = w1 129 := by rw [e1, zUp_k _ _ (by decide), zUp_k _ _ (by decide)]
  rw [m9, hR.1.2]
  refine br_f (nI_pos (by omega)) (br_f ns (br_f (nI_pos (by omega)) (br_f (by rw [nI_lit, nI_ltI (by omega) (by omega)]; omega) ?_)))
  refine s_byLaw (n := n) (kd := 1) rfl rfl (by decide) (by omega) (by rw [m9]; exact hR) (by rw [m9]; exact hw) (fun w2 f2 => ⟨_, rfl, ?_⟩)
  dsimp only
  rw [m9]
  obtain ⟨p, ep⟩ : ∃ p, p = 100 - (if lwBy (w1 129) 1 s < 100 then lwBy (w1 129) 1 s else 100) := ⟨_, rfl⟩
  rw [← ep]
  refine zFor (σ := Int32) (Pr := fun i x => zRun 59 false zcX12_odds 1 _ 65 [(0, .ref 128), (1, .int (nI s)), (2, .int (nI m)), (3, .int p), (4, .int x), (5, .int (nI i))] [] w2) (fun i x => x = odV p i) m (fun x hx => ?_) (fun i x hi hx ih => ?_) 10000 rfl
  · exact tX12_odds_65 (br_t (Int32.le_refl _) ⟨by rw [hx], K0 hI (fun c hc => by rw [f2 c hc, e1])⟩)
  · refine tX12_odds_65 (br_f (by rw [nI_leI (by omega) (by omega)]; omega) ?_)
    rw [nI_1 i]
    exact ih _ (by rw [hx]; rfl)
theorem op_odds (a b : Int32) : zOkT 154 317 [.int a, .int b] [(2, 1), (1, 2)] := by
  intro u ⟨n, hI⟩
  have hR := hI.1.1
  have h8 := hR.1.1
  have hu : u 4 3 = nI n := hI.1.2.2.1.1.1.trans hR.1.2
  rcases i_cases a n (by omega) with ⟨s, hs, rfl⟩ | ha
  · have pos := nI_pos' (n := s) (by omega)
    have lt : nI s < u 4 3 := by rw [hu]; exact nI_lt hs (by omega)
    have ns := n_top h8 hs
    rcases i_cases b 5 (by decide) with ⟨m, hm, rfl⟩ | hb
    · refine Or.inl (tX11_odds ⟨pos, lt, br_f (nI_pos (by omega)) (br_t (by rw [nI_lit, nI_leI (by omega) (by omega)]; omega) ?_)⟩)
      refine s_weighI (kd := 1) hI rfl rfl (by decide) (by omega) (fun w1 G => ⟨_, rfl, ?_⟩)
      dsimp only
      have e9 : w1 129 = u 129 := G.1 129 (by decide) (by decide)
      obtain ⟨p, ep⟩ : ∃ p, p = 100 - (if lwBy (u 129) 1 s < 100 then lwBy (u 129) 1 s else 100) := ⟨_, rfl⟩
      rw [← ep]
      refine zFor (σ := Int32) (Pr := fun i x => zRun 59 false zcX11_odds 1 _ 62 [(0, .ref 0), (1, .int (nI s)), (2, .int (nI m)), (3, .int p), (4, .int x), (5, .int (nI i))] [] w1) (fun i x => x = odV p i) m (fun x hx => ?_) (fun i x hi hx ih => ?_) 10000 rfl
      · refine tX11_odds_62 (br_t (Int32.le_refl _) (fun o => ?_))
        have := m_odds (G.inv hI) hs (m := m) (by omega) o
        rw [e9, ← ep, ← hx] at this
        exact this
      · refine tX11_odds_62 (br_f (by rw [nI_leI (by omega) (by omega)]; omega) ?_)
        rw [nI_1 i]
        exact ih _ (by rw [hx]; rfl)
    · have fin : zCall 60 false 317 [.ref 128, .int (nI s), .int b] u fun _ w2 => zIv w2 ∧ ∃ E c : Int32, (some (Value.int 1) : Option Value) = some (.int E) ∧ (E, c) ∈ [((2 : Int32), (1 : Int32)), (1, 2)] ∧ w2 128 0 = c := by
        refine tX12_odds (fun m1 e1 => ?_)
        have n0 : m1 129 0 = nI n := by rw [e1, zUp_k _ _ (by decide)]; exact hR.1.2
        rw [n0]
        exact br_f (nI_pos (by omega)) (br_f ns ⟨fun _ => zThrI hI e1 (by simp), fun q => ⟨fun _ => zThrI hI e1 (by simp), fun q2 => absurd (i_lim (n := 4) (by decide) hb q) q2⟩⟩)
      exact Or.inr (tTX11_odds (Or.inr ⟨pos, lt, fun _ => fin, fun q => ⟨fun q2 => absurd (i_lim (n := 4) (by decide) hb q) (Int32.not_lt.mpr q2), fun _ => fin⟩⟩))
  · refine Or.inr (tTX11_odds (Or.inl ⟨by rw [hu]; exact ha, ?_⟩))
    refine tX12_odds (fun m1 e1 => ?_)
    have n0 : m1 129 0 = nI n := by rw [e1, zUp_k _ _ (by decide)]; exact hR.1.2
    rw [n0]
    exact ⟨fun _ => zThrI hI e1 (by simp), fun q => ⟨fun _ => zThrI hI e1 (by simp), fun q2 => absurd (i_top2 h8 ha q) q2⟩⟩
