theorem t2X4_put {d : Nat} {k0 : Nat} {k1 : Nat} {u : zM} {Q : Option Value → zM → Prop} (hk0 : zShapes[k0]? = some (.inl 4)) (hk1 : zShapes[k1]? = some (.inl 6)) (h : zRun (d + 1) false zcX4_put 0 Q 12 [(0, .ref k0), (1, .ref k1), (2, .int ((1 : Int32) <<< ((u (k1 + 1) 3) &&& 31))), (3, .int 1)] [] u) : zCall (d + 2) false 45 [.ref k0, .ref k1] u Q := zCall_of zcX4_put 0 rfl (Nat.le_of_ble_eq_true rfl) rfl rfl (zGo_in 2000 [12, 58] (And.intro hk1 (And.intro (zs6_1 hk1) (zRun_wk [2, 3, 1, 0] rfl h))))
theorem t2X4_put_12 {d : Nat} {k0 : Nat} {k1 : Nat} {b2 : Int32} {b3 : Int32}  {u : zM} {Q : Option Value → zM → Prop} (hk0 : zShapes[k0]? = some (.inl 4)) (hk1 : zShapes[k1]? = some (.inl 6)) (h : ((b2 ≤ b3 → Q none u) ∧ (¬ b2 ≤ b3 → ((256 ≤ b3 → Q none u) ∧ (¬ 256 ≤ b3 → (zCI (d + 1) 58 [.int b3] u fun x2 w1 => (vp_in (b3 &&& (((1 : Int32) <<< (x2 &&& 31)) ^^^ ((-1)))) 256 ∧ (vp_in b3 256 ∧ zRun (d + 1) false zcX4_put 0 Q 58 [(0, .ref k0), (1, .ref k1), (2, .int b2), (3, .int b3), (4, .int x2), (5, .int (b3 &&& (((1 : Int32) <<< (x2 &&& 31)) ^^^ ((-1))))), (6, .int (x2 + 1))] [] (zUp w1 (k0 + 1) b3.toNatClampNeg (w1 (k0 + 1) ((b3 &&& (((1 : Int32) <<< (x2 &&& 31)) ^^^ ((-1)))).toNatClampNeg))))))))))) : zRun (d + 1) false zcX4_put 0 Q 12 [(0, .ref k0), (1, .ref k1), (2, .int b2), (3, .int b3)] [] u := zGo_in 2000 [12, 58] (And.intro (fun c4 => (And.intro rfl (And.intro rfl (And.intro rfl (h.1 c4))))) (fun c4 => (And.intro (fun c3 => (And.intro rfl (And.intro rfl (And.intro rfl ((h.2 c4).1 c3))))) (fun c3 => (And.intro (Nat.le_of_ble_eq_true rfl) (Or.inl (zCI_go (fun x2 w1 hh => (And.intro hk0 (And.intro hk0 (And.intro (Nat.le_of_ble_eq_true rfl) (Or.inl (s_best hk0 hh.1 (And.intro (Exists.intro 256 (And.intro (zs4_1 hk0) hh.2.1)) (zRun_wk [3, 4, 5, 6, 2, 1, 0] rfl hh.2.2)))))))) ((h.2 c4).2 c3))))))))
theorem t2X4_put_58 {d : Nat} {k0 : Nat} {k1 : Nat} {b2 : Int32} {b3 : Int32} {b4 : Int32} {b5 : Int32} {b6 : Int32}  {u : zM} {Q : Option Value → zM → Prop} (hk0 : zShapes[k0]? = some (.inl 4)) (hk1 : zShapes[k1]? = some (.inl 6)) (h : (((u (k1 + 1) 3) ≤ b6 → zRun (d + 1) false zcX4_put 0 Q 12 [(0, .ref k0), (1, .ref k1), (2, .int b2), (3, .int (b3 + 1))] [] u) ∧ (¬ (u (k1 + 1) 3) ≤ b6 → ((((b5 >>> (b6 &&& 31)) &&& 1) = 0 → zRun (d + 1) false zcX4_put 0 Q 58 [(0, .ref k0), (1, .ref k1), (2, .int b2), (3, .int b3), (4, .int b4), (5, .int b5), (6, .int (b6 + 1))] [] u) ∧ (¬ ((b5 >>> (b6 &&& 31)) &&& 1) = 0 → (vp_in b3 256 ∧ (zCI (d + 1) 46 [.ref k0, .ref k1, .int b3, .int b4, .int b6] u fun x2 w1 => (vp_in b3 256 ∧ zRun (d + 1) false zcX4_put 0 Q 58 [(0, .ref k0), (1, .ref k1), (2, .int b2), (3, .int b3), (4, .int b4), (5, .int b5), (6, .int (b6 + 1))] [] (zUp w1 (k0 + 1) b3.toNatClampNeg (if (u (k0 + 1) b3.toNatClampNeg) < x2 then x2 else (u (k0 + 1) b3.toNatClampNeg))))))))))) : zRun (d + 1) false zcX4_put 0 Q 58 [(0, .ref k0), (1, .ref k1), (2, .int b2), (3, .int b3), (4, .int b4), (5, .int b5), (6, .int b6)] [] u := zGo_in 2000 [12, 58] (And.intro hk1 (And.intro (zs6_1 hk1) (And.intro (fun c4 => (zRun_wk [1, 2, 3, 0] rfl (h.1 c4))) (fun c4 => (And.intro (fun c3 => (zRun_wk [1, 2, 3, 4, 5, 6, 0] rfl ((h.2 c4).1 c3))) (fun c3 => (And.intro hk0 (And.intro hk0 (And.intro (Exists.intro 256 (And.intro (zs4_1 hk0) ((h.2 c4).2 c3).1)) (And.intro hk0 (And.intro (Nat.le_of_ble_eq_true rfl) (Or.inl (zCI_go (fun x2 w1 hh => (And.intro (Nat.le_of_ble_eq_true rfl) (And.intro (Exists.intro 256 (And.intro (zs4_1 hk0) hh.1)) (zRun_wk [1, 2, 3, 4, 5, 6, 0] rfl hh.2)))) ((h.2 c4).2 c3).2)))))))))))))
theorem t2X4_withPair {d : Nat} {k0 : Nat} {k1 : Nat} {a2 : Int32} {a3 : Int32} {a4 : Int32} {u : zM} {Q : Option Value → zM → Prop} (hk0 : zShapes[k0]? = some (.inl 4)) (hk1 : zShapes[k1]? = some (.inl 6)) (h : (vp_in a3 8 ∧ (vp_in a4 8 ∧ (vp_in (u (k1 + 1 + 1) ((((0 : Int32) * 8) + a3).toNatClampNeg)) 12 ∧ vp_in (u (k1 + 1 + 1) ((((0 : Int32) * 8) + a4).toNatClampNeg)) 12 ∧ ((1000 ≤ (u (k1 + 6 + 2) ((((u (k1 + 1 + 1) ((((0 : Int32) * 8) + a3).toNatClampNeg)) * 12) + (u (k1 + 1 + 1) ((((0 : Int32) * 8) + a4).toNatClampNeg))).toNatClampNeg)) → Q (some (.int ((-1)))) u) ∧ (¬ 1000 ≤ (u (k1 + 6 + 2) ((((u (k1 + 1 + 1) ((((0 : Int32) * 8) + a3).toNatClampNeg)) * 12) + (u (k1 + 1 + 1) ((((0 : Int32) * 8) + a4).toNatClampNeg))).toNatClampNeg)) → (vp_in ((a2 &&& (((1 : Int32) <<< (a3 &&& 31)) ^^^ ((-1)))) &&& (((1 : Int32) <<< (a4 &&& 31)) ^^^ ((-1)))) 256 ∧ Q (some (.int (((u (k0 + 1) (((a2 &&& (((1 : Int32) <<< (a3 &&& 31)) ^^^ ((-1)))) &&& (((1 : Int32) <<< (a4 &&& 31)) ^^^ ((-1)))).toNatClampNeg)) + 1000) - (u (k1 + 6 + 2) ((((u (k1 + 1 + 1) ((((0 : Int32) * 8) + a3).toNatClampNeg)) * 12) + (u (k1 + 1 + 1) ((((0 : Int32) * 8) + a4).toNatClampNeg))).toNatClampNeg))))) u))))))) : zCall (d + 3) false 46 [.ref k0, .ref k1, .int a2, .int a3, .int a4] u Q := zCall_of zcX4_withPair 1 rfl (Nat.le_of_ble_eq_true rfl) rfl rfl (zGo_in 2000 [] (And.intro hk1 (And.intro hk1 (And.intro (zs6_1 hk1) (And.intro (Nat.le_of_ble_eq_true rfl) (Or.inl (s_get (zs6_1 hk1) (vpl 0 9 rfl) h.1 (And.intro hk1 (And.intro (zs6_1 hk1) (And.intro (Nat.le_of_ble_eq_true rfl) (Or.inl (s_get (zs6_1 hk1) (vpl 0 9 rfl) h.2.1 (And.intro (zs6_6 hk1) (And.intro (Nat.le_of_ble_eq_true rfl) (Or.inl (s_between (zs6_6 hk1) h.2.2.1 h.2.2.2.1 (And.intro (fun c1 => (And.intro rfl (And.intro rfl (h.2.2.2.2.1 c1)))) (fun c1 => (And.intro hk0 (And.intro (Nat.le_of_ble_eq_true rfl) (Or.inl (s_best hk0 (h.2.2.2.2.2 c1).1 (And.intro rfl (And.intro rfl (h.2.2.2.2.2 c1).2))))))))))))))))))))))))
theorem t2X4_partnerOf {d : Nat} {k0 : Nat} {k1 : Nat} {a2 : Int32} {u : zM} {Q : Option Value → zM → Prop} (hk0 : zShapes[k0]? = some (.inl 4)) (hk1 : zShapes[k1]? = some (.inl 6)) (h : zRun (d + 1) false zcX4_partnerOf 1 Q 15 [(0, .ref k0), (1, .ref k1), (2, .int a2), (3, .int (((1 : Int32) <<< ((u (k1 + 1) 3) &&& 31)) - 1)), (4, .int 0)] [] u) : zCall (d + 2) false 47 [.ref k0, .ref k1, .int a2] u Q := zCall_of zcX4_partnerOf 1 rfl (Nat.le_of_ble_eq_true rfl) rfl rfl (zGo_in 2000 [15] (And.intro hk1 (And.intro (zs6_1 hk1) (zRun_wk [2, 3, 4, 1, 0] rfl h))))
theorem t2X4_partnerOf_15 {d : Nat} {k0 : Nat} {k1 : Nat} {a2 : Int32} {b3 : Int32} {b4 : Int32}  {u : zM} {Q : Option Value → zM → Prop} (hk0 : zShapes[k0]? = some (.inl 4)) (hk1 : zShapes[k1]? = some (.inl 6)) (h : ((8 ≤ b4 → Q (some (.int ((-1)))) u) ∧ (¬ 8 ≤ b4 → ((b3 = 0 → Q (some (.int ((-1)))) u) ∧ (¬ b3 = 0 → (zCI (d + 1) 58 [.int b3] u fun x2 w1 => (zCI (d + 1) 48 [.ref k0, .ref k1, .int b3, .int x2] w1 fun x4 w3 => ((¬ x2 = a2 → ((¬ x4 = a2 → ((¬ x4 = ((-1)) → zRun (d + 1) false zcX4_partnerOf 1 Q 15 [(0, .ref k0), (1, .ref k1), (2, .int a2), (3, .int ((b3 &&& (((1 : Int32) <<< (x2 &&& 31)) ^^^ ((-1)))) &&& (((1 : Int32) <<< (x4 &&& 31)) ^^^ ((-1))))), (4, .int (b4 + 1))] [] w3) ∧ (x4 = ((-1)) → zRun (d + 1) false zcX4_partnerOf 1 Q 15 [(0, .ref k0), (1, .ref k1), (2, .int a2), (3, .int (b3 &&& (((1 : Int32) <<< (x2 &&& 31)) ^^^ ((-1))))), (4, .int (b4 + 1))] [] w3))) ∧ (x4 = a2 → Q (some (.int x2)) w3))) ∧ (x2 = a2 → Q (some (.int x4)) w3))))))))) : zRun (d + 1) false zcX4_partnerOf 1 Q 15 [(0, .ref k0), (1, .ref k1), (2, .int a2), (3, .int b3), (4, .int b4)] [] u := zGo_in 2000 [15] (And.intro (fun c9 => (And.intro rfl (And.intro rfl (h.1 c9)))) (fun c9 => (And.intro (fun c8 => (And.intro rfl (And.intro rfl ((h.2 c9).1 c8)))) (fun c8 => (And.intro (Nat.le_of_ble_eq_true rfl) (Or.inl (zCI_go (fun x2 w1 hh => (And.intro hk0 (And.intro (Nat.le_of_ble_eq_true rfl) (Or.inl (zCI_go (fun x4 w3 hh => (And.intro (fun c7 => (And.intro (fun c6 => (And.intro (fun c5 => (zRun_wk [4, 5, 6, 1, 0] rfl (((hh.1 c7).1 c6).1 c5))) (fun c5 => (zRun_wk [4, 5, 6, 1, 0] rfl (((hh.1 c7).1 c6).2 c5))))) (fun c6 => (And.intro rfl (And.intro rfl ((hh.1 c7).2 c6)))))) (fun c7 => (And.intro rfl (And.intro rfl (hh.2 c7)))))) hh))))) ((h.2 c9).2 c8))))))))
theorem t2X4_firstPartner {d : Nat} {k0 : Nat} {k1 : Nat} {a2 : Int32} {a3 : Int32} {u : zM} {Q : Option Value → zM → Prop} (hk0 : zShapes[k0]? = some (.inl 4)) (hk1 : zShapes[k1]? = some (.inl 6)) (h : zRun (d + 1) false zcX4_firstPartner 1 Q 5 [(0, .ref k0), (1, .ref k1), (2, .int a2), (3, .int a3), (4, .int (a3 + 1))] [] u) : zCall (d + 2) false 48 [.ref k0, .ref k1, .int a2, .int a3] u Q := zCall_of zcX4_firstPartner 1 rfl (Nat.le_of_ble_eq_true rfl) rfl rfl (zGo_in 2000 [5] (zRun_wk [1, 2, 3, 4, 0] rfl h))
theorem t2X4_firstPartner_5 {d : Nat} {k0 : Nat} {k1 : Nat} {a2 : Int32} {a3 : Int32} {b4 : Int32}  {u : zM} {Q : Option Value → zM → Prop} (hk0 : zShapes[k0]? = some (.inl 4)) (hk1 : zShapes[k1]? = some (.inl 6)) (h : (((u (k1 + 1) 3) ≤ b4 → Q (some (.int ((-1)))) u) ∧ (¬ (u (k1 + 1) 3) ≤ b4 → ((((a2 >>> (b4 &&& 31)) &&& 1) = 0 → zRun (d + 1) false zcX4_firstPartner 1 Q 5 [(0, .ref k0), (1, .ref k1), (2, .int a2), (3, .int a3), (4, .int (b4 + 1))] [] u) ∧ (¬ ((a2 >>> (b4 &&& 31)) &&& 1) = 0 → (zCI (d + 1) 46 [.ref k0, .ref k1, .int a2, .int a3, .int b4] u fun x2 w1 => (vp_in a2 256 ∧ ((¬ x2 = (w1 (k0 + 1) (a2.toNatClampNeg)) → zRun (d + 1) false zcX4_firstPartner 1 Q 5 [(0, .ref k0), (1, .ref k1), (2, .int a2), (3, .int a3), (4, .int (b4 + 1))] [] w1) ∧ (x2 = (w1 (k0 + 1) (a2.toNatClampNeg)) → Q (some (.int b4)) w1))))))))) : zRun (d + 1) false zcX4_firstPartner 1 Q 5 [(0, .ref k0), (1, .ref k1), (2, .int a2), (3, .int a3), (4, .int b4)] [] u := zGo_in 2000 [5] (And.intro hk1 (And.intro (zs6_1 hk1) (And.intro (fun c5 => (And.intro rfl (And.intro rfl (h.1 c5)))) (fun c5 => (And.intro (fun c4 => (And.intro (fun _ => (zRun_wk [2, 3, 4, 5, 0] rfl ((h.2 c5).1 c4))) (fun c => absurd (by decide) c))) (fun c4 => (And.intro (fun c => absurd c (by decide)) (fun _ => (And.intro hk0 (And.intro (Nat.le_of_ble_eq_true rfl) (Or.inl (zCI_go (fun x2 w1 hh => (And.intro hk0 (And.intro (Nat.le_of_ble_eq_true rfl) (Or.inl (s_best hk0 hh.1 (And.intro (fun c3 => (zRun_wk [2, 3, 4, 5, 0] rfl (hh.2.1 c3))) (fun c3 => (And.intro rfl (And.intro rfl (hh.2.2 c3)))))))))) ((h.2 c5).2 c4)))))))))))))
theorem lo_rm : ∀ set, set < 256 → 0 < set → ∀ i, i < loN set + 1 → (set - 2 ^ loN set).testBit i = false := by decide +kernel
theorem bit_lt_n {n set s : Nat} (h : set < 2 ^ n) (hb : set.testBit s = true) : s < n := by
  have h1 : 2 ^ s ≤ set := Nat.ge_two_pow_of_testBit hb
  by_cases q : s < n
  · exact q
  · have : 2 ^ n ≤ 2 ^ s := Nat.pow_le_pow_right (by decide) (by omega)
    omega
theorem pr_le {W : Nat → Int32} {n set : Nat} (hR : zRg W n) (h : set < 2 ^ n) : prV 1000 W n set ≤ 4000 ∧ prV 10000 W n set ≤ 40000 := by
  obtain ⟨P, f, a1, a2, a3, a4⟩ := pr_rel hR (set + 1) set (by omega) h
  have := pc8_le set
  omega
theorem zTu.congr3 {u w : zM} {W : Nat → Int32} {n : Nat} (f4 : w 4 = u 4) (f5 : w 5 = u 5) (f11 : w 11 = u 11) (h : zTu u W n) : zTu w W n := by
  unfold zTu
  rw [f4, f5, f11]
  exact h
theorem s_withPair {d n set lo o D : Nat} {W : Nat → Int32} {u : zM} {Q : Option Value → zM → Prop} (hU : zTu u W n) (h2 : set < 256) (hl : lo < 8) (ho : o < 8) (hb : set.testBit lo = true) (hb2 : (set - 2 ^ lo).testBit o = true) (hD : D ≤ 4000) (ht : u 124 (set - 2 ^ lo - 2 ^ o) = nI D)
    (h : Q (some (.int (if zFar W (cnN W lo) (cnN W o) < 1000 then nI (D + 1000 - zFar W (cnN W lo) (cnN W o)) else -1))) u) : zCall (d + 3) false 46 [.ref 123, .ref 3, .int (nI set), .int (nI lo), .int (nI o)] u Q := by
  obtain ⟨hR, hu, hV, hS⟩ := hU
  have l1 := cnN_lt W lo
  have l2 := cnN_lt W o
  have b1 := bit_lt hb
  have b2 := bit_lt hb2
  have c1 : ((0 : Int32) * 8) + nI lo = nI (0 * 8 + lo) := dv_ix 0 lo
  have c2 : ((0 : Int32) * 8) + nI o = nI (0 * 8 + o) := dv_ix 0 o
  have e1 : nI (cnN W lo) * 12 + nI (cnN W o) = nI (cnN W lo * 12 + cnN W o) := by rw [nI_lit, nI_mul, nI_add]
  have f99 := zFar_99 hR _ _ l1 l2
  refine t2X4_withPair (k0 := 123) (k1 := 3) rfl rfl ?_
  simp only [Nat.reduceAdd]
  rw [c1, c2, nI_clamp (n := 0 * 8 + lo) (by omega), nI_clamp (n := 0 * 8 + o) (by omega), hV lo hl, hV o ho, e1, nI_clamp (n := cnN W lo * 12 + cnN W o) (by omega), hS _ _ l1 l2, bit_rm set h2 lo hl hb, bit_rm (set - 2 ^ lo) (by omega) o ho hb2, nI_clamp (n := set - 2 ^ lo - 2 ^ o) (by omega), ht]
  refine ⟨vp_in_nI (by omega) (by decide), vp_in_nI (by omega) (by decide), ⟨vp_in_nI l1 (by decide), vp_in_nI l2 (by decide), fun q => ?_, fun q => ⟨vp_in_nI (by omega) (by decide), ?_⟩⟩⟩
  · rw [nI_lit, nI_leI (by omega) (by omega)] at q
    rw [if_neg (by omega)] at h
    exact h
  · rw [nI_lit, nI_leI (by omega) (by omega)] at q
    rw [if_pos (by omega)] at h
    have e : nI D + 1000 - nI (min 1000 (zFar W (cnN W lo) (cnN W o))) = nI (D + 1000 - zFar W (cnN W lo) (cnN W o)) := by
      rw [nI_lit, nI_add, nI_sub (by show min 1000 (zFar W (cnN W lo) (cnN W o)) ≤ D + 1000; omega)]
      have e2 : min 1000 (zFar W (cnN W lo) (cnN W o)) = zFar W (cnN W lo) (cnN W o) := by omega
      rw [e2]
    rw [e]
    exact h
/-- the class's pairs -/
theorem s_put {d n : Nat} {W : Nat → Int32} {u : zM} {Q : Option Value → zM → Prop} (hU : zTu u W n) (h0 : u 124 0 = 0) (h : ∀ w, (∀ c, c ≠ 124 → w c = u c) → (∀ s, s < 2 ^ n → w 124 s = nI (prV 1000 W n s)) → Q none w) : zCall (d + 4) false 45 [.ref 123, .ref 3] u Q := by
  have hU' := hU
  obtain ⟨hR, hu, hV, hS⟩ := hU'
  have h8 := hR.1.1
  have p2 := p2_le h8
  have pp := Nat.two_pow_pos n
  have i0 : ∀ s, s < 0 + 1 → u 124 s = nI (prV 1000 W n s) := fun s hs => by
    obtain rfl : s = 0 := by omega
    rw [h0]; rfl
  refine t2X4_put (k0 := 123) (k1 := 3) rfl rfl ?_
  rw [show (3 + 1 : Nat) = 4 from rfl, hu, sl_n n h8]
  refine zFor (σ := zM) (Pr := fun i m => zRun (d + 3) false zcX4_put 0 Q 12 [(0, .ref 123), (1, .ref 3), (2, .int (nI (2 ^ n))), (3, .int (nI (i + 1)))] [] m) (fun i m => (∀ c, c ≠ 124 → m c = u c) ∧ ∀ s, s < i + 1 → m 124 s = nI (prV 1000 W n s)) (2 ^ n - 1) (fun m hm => ?_) (fun i m hi hm ih => ?_) u ⟨fun _ _ => rfl, i0⟩
  · exact t2X4_put_12 (k0 := 123) (k1 := 3) rfl rfl (br_t (by rw [nI_leI (by omega) (by omega)]; omega) (h m hm.1 (fun s hs => hm.2 s (by omega))))
  · obtain ⟨f, T⟩ := hm
    obtain ⟨set, es⟩ : ∃ set, set = i + 1 := ⟨_, rfl⟩
    rw [← es] at T ih ⊢
    have h256 : set < 256 := by omega
    obtain ⟨l8, lb, ll⟩ := lo_ok set h256 (by omega)
    have ln := bit_lt_n (n := n) (by omega) lb
    have lr := lo_rm set h256 (by omega)
    have lt := bit_lt lb
    refine t2X4_put_12 (k0 := 123) (k1 := 3) rfl rfl (br_f (by rw [nI_leI (by omega) (by omega)]; omega) (br_f (by rw [nI_lit, nI_leI (by omega) (by omega)]; omega) ?_))
    refine s_low (set := set) rfl h256 (by omega) ⟨_, rfl, ?_⟩
    dsimp only
    obtain ⟨lo, elo⟩ : ∃ lo, lo = loN set := ⟨_, rfl⟩
    rw [← elo] at l8 lb ll ln lr lt ⊢
    rw [show (123 + 1 : Nat) = 124 from rfl, bit_rm set h256 lo l8 lb, nI_clamp (n := set) (by omega), nI_clamp (n := set - 2 ^ lo) (by omega), nI_1 lo]
    refine ⟨vp_in_nI (by omega) (by decide), vp_in_nI (by omega) (by decide), ?_⟩
    have x0e := T (set - 2 ^ lo) lt
    rw [x0e]
    obtain ⟨p, ep⟩ : ∃ p, p = ppV W set := ⟨_, rfl⟩
    obtain ⟨g, eg⟩ : ∃ g : Nat → Nat, g = fun o => prV 1000 W n (set - 2 ^ lo - 2 ^ o) + 1000 - zFar W (cnN W lo) (cnN W o) := ⟨_, rfl⟩
    obtain ⟨x0, ex0⟩ : ∃ x0, x0 = prV 1000 W n (set - 2 ^ lo) := ⟨_, rfl⟩
    rw [← ex0]
    have val : prV 1000 W n set = pMx p g x0 n := by rw [prV_s (by omega) h256, ep, eg, ex0, elo]
    have pe : ∀ o, p o = ((set - 2 ^ lo).testBit o && decide (zFar W (cnN W lo) (cnN W o) < 1000)) := fun o => by rw [ep, elo]; rfl
    have ini : pMx p g x0 (lo + 1) = x0 := pMx_skip _ (fun o ho z => by rw [pe, lr o ho] at z; exact absurd z (by simp))
    have bnd : ∀ k, pMx p g x0 k ≤ 5000 := fun k => by
      induction k with
      | zero => show x0 ≤ 5000; have := (pr_le hR (set := set - 2 ^ lo) (by omega)).1; omega
      | succ k ihk =>
        unfold pMx
        by_cases q : p k = true
        · rw [if_pos q]
          rw [pe] at q
          have lt2 := bit_lt (Bool.and_eq_true_iff.mp q).1
          have := (pr_le hR (set := set - 2 ^ lo - 2 ^ k) (by omega)).1
          have : g k ≤ 5000 := by rw [eg]; dsimp only; omega
          omega
        · rw [if_neg q]; exact ihk
    refine zFor (σ := zM) (Pr := fun j m => zRun (d + 3) false zcX4_put 0 Q 58 [(0, .ref 123), (1, .ref 3), (2, .int (nI (2 ^ n))), (3, .int (nI set)), (4, .int (nI lo)), (5, .int (nI (set - 2 ^ lo))), (6, .int (nI (lo + 1 + j)))] [] m) (fun j m => (∀ c, c ≠ 124 → m c = u c) ∧ (∀ s, s < set → m 124 s = nI (prV 1000 W n s)) ∧ m 124 set = nI (pMx p g x0 (lo + 1 + j))) (n - (lo + 1)) (fun m hm => ?_) (fun j m hj hm ih2 => ?_) _ ⟨fun c a => (zUp_k _ _ a).trans (f c a), fun s hs => (zUp_j _ _ (by omega)).trans (T s hs), by rw [zUp_at, ini]⟩
    · obtain ⟨f, T, x⟩ := hm
      refine t2X4_put_58 (k0 := 123) (k1 := 3) rfl rfl (br_t (by rw [show (3 + 1 : Nat) = 4 from rfl, f 4 (by decide), hu, nI_leI (by omega) (by omega)]; omega) ?_)
      rw [nI_1 set]
      refine ih m ⟨f, fun s hs => ?_⟩
      by_cases z : s = set
      · subst z
        rw [x, val]
        congr 2
        omega
      · exact T s (by omega)
    · obtain ⟨f, T, x⟩ := hm
      obtain ⟨o, eo⟩ : ∃ o, o = lo + 1 + j := ⟨_, rfl⟩
      rw [← eo] at x ⊢
      have ih2' : ∀ m' : zM, (∀ c, c ≠ 124 → m' c = u c) → (∀ s, s < set → m' 124 s = nI (prV 1000 W n s)) → m' 124 set = nI (pMx p g x0 (o + 1)) → zRun (d + 3) false zcX4_put 0 Q 58 [(0, .ref 123), (1, .ref 3), (2, .int (nI (2 ^ n))), (3, .int (nI set)), (4, .int (nI lo)), (5, .int (nI (set - 2 ^ lo))), (6, .int (nI (o + 1)))] [] m' := fun m' a b c => by
        have e : o + 1 = lo + 1 + (j + 1) := by omega
        rw [e] at c ⊢
        exact ih2 m' ⟨a, b, c⟩
      have l : pMx p g x0 (o + 1) = if p o = true then max (pMx p g x0 o) (g o) else pMx p g x0 o := rfl
      have v : vp_in (nI set) 256 := vp_in_nI h256 (by decide)
      refine t2X4_put_58 (k0 := 123) (k1 := 3) rfl rfl (br_f (by rw [show (3 + 1 : Nat) = 4 from rfl, f 4 (by decide), hu, nI_leI (by omega) (by omega)]; omega) ?_)
      rw [bit_at (set - 2 ^ lo) (by omega) o (by omega), nI_1 o, show (123 + 1 : Nat) = 124 from rfl, nI_clamp (n := set) (by omega), x]
      cases b : (set - 2 ^ lo).testBit o
      · refine ⟨fun _ => ih2' m f T ?_, fun z => absurd rfl z⟩
        rw [x, l, if_neg (by rw [pe, b]; simp)]
      · refine ⟨fun z => absurd z (by decide), fun _ => ⟨v, ?_⟩⟩
        have lt2 := bit_lt b
        have dl := (pr_le hR (set := set - 2 ^ lo - 2 ^ o) (by omega)).1
        have bo := bnd o
        refine s_withPair (W := W) (D := prV 1000 W n (set - 2 ^ lo - 2 ^ o)) (hU.congr3 (f 4 (by decide)) (f 5 (by decide)) (f 11 (by decide))) h256 l8 (by omega) lb b dl (T _ (by omega)) ⟨_, rfl, v, ?_⟩
        · refine ih2' _ (fun c a => (zUp_k _ _ a).trans (f c a)) (fun s hs => (zUp_j _ _ (by omega)).trans (T s hs)) ?_
          rw [zUp_at, l, pe, b, Bool.true_and]
          by_cases z : zFar W (cnN W lo) (cnN W o) < 1000
          · rw [if_pos z, if_pos (decide_eq_true z)]
            have ge : g o = prV 1000 W n (set - 2 ^ lo - 2 ^ o) + 1000 - zFar W (cnN W lo) (cnN W o) := by rw [eg]
            rw [← ge]
            have g5 : g o ≤ 5000 := by rw [ge]; omega
            by_cases y : pMx p g x0 o < g o
            · rw [if_pos (by rw [nI_ltI (by omega) (by omega)]; exact y)]
              have e : max (pMx p g x0 o) (g o) = g o := by omega
              rw [e]
            · rw [if_neg (by rw [nI_ltI (by omega) (by omega)]; exact y)]
              have e : max (pMx p g x0 o) (g o) = pMx p g x0 o := by omega
              rw [e]
          · rw [if_neg z, if_neg (fun y => z (of_decide_eq_true y)), if_neg (fun y => absurd (Int32.lt_trans y (by decide : (-1 : Int32) < 0)) (nI_pos (by omega)))]
