theorem op_log (a b : Int32) : zAskT 157 323 [.int a, .int b] [(5, 1)] := by
  intro u n hC
  obtain ⟨L, N, h60, hN60, hL, hN, hW, hc⟩ := hC.2.2.1.2.2.2
  have low : ∀ m1 : zM, ∀ o : Int32, m1 = zUp (zUp u 142 0 o) 128 0 0 → m1 129 = u 129 ∧ m1 128 0 = 0 ∧ zSame u m1 := fun m1 o e1 =>
    ⟨by rw [e1, zUp_k _ _ (by decide), zUp_k _ _ (by decide)], by rw [e1]; exact zUp_at _ _ _ _, by rw [e1]; exact (zSame.o o).tr (zSame.m _ (by decide))⟩
  rcases i_cases b 4 (by decide) with ⟨c, hc4, rfl⟩ | hout
  · have hb0 : ¬ nI c < 0 := nI_pos (by omega)
    have hb4 : nI c < 4 := by rw [nI_lit, nI_ltI (by omega) (by omega)]; exact hc4
    have hb3 : ¬ (3 : Int32) < nI c := by rw [nI_lit, nI_ltI (by omega) (by omega)]; omega
    refine Or.inl ?_
    have e4 : nI L - 1 = nI L - 1 := rfl
    rcases i_cases a L (by omega) with ⟨i, hi, rfl⟩ | ha
    · refine tX11_log ⟨fun q => absurd q hb0, fun _ => ⟨fun _ => ?_, fun q => absurd hb4 q⟩⟩
      refine s_cell (i := i) (c := c) rfl rfl rfl hL hN h60 hN60 hi hc4 ⟨_, rfl, zSame.rf u, fun o => ?_⟩
      refine tX12_log (fun m1 e1 => ?_)
      obtain ⟨e2, f1, f2⟩ := low m1 o e1
      have e5 : nI L - 1 = nI (L - 1) := nI_sub (b := 1) (by omega)
      have e3 : (235 + (4 * nI i)) + nI c = nI (235 + 4 * i + c) := by rw [nI_lit, nI_lit, nI_mul, nI_add, nI_add]
      rw [e2, hW, e5, e3, nI_clamp (by omega)]
      refine ⟨fun q => absurd q hb0, fun _ => ⟨fun q => absurd q hb3, fun _ => ⟨fun q => absurd q (nI_pos (by omega)), fun _ => ⟨fun q => absurd q (by rw [nI_ltI (by omega) (by omega)]; omega), fun _ => ⟨vp_in_nI (by omega) (by decide), ?_, f1, f2⟩⟩⟩⟩⟩
      rw [hc i c hi hc4]
    · refine tX11_log ⟨fun q => absurd q hb0, fun _ => ⟨fun _ => ?_, fun q => absurd hb4 q⟩⟩
      refine s_cellN rfl hL ha ⟨_, rfl, zSame.rf u, fun o => ?_⟩
      refine tX12_log (fun m1 e1 => ?_)
      obtain ⟨e2, f1, f2⟩ := low m1 o e1
      rw [e2, hW]
      refine ⟨fun q => absurd q hb0, fun _ => ⟨fun q => absurd q hb3, fun _ => ⟨fun _ => ⟨rfl, f1, f2⟩, fun q => ⟨fun _ => ⟨rfl, f1, f2⟩, fun q2 => absurd ?_ q2⟩⟩⟩⟩
      have h3 := ha.resolve_left q
      rcases Nat.eq_zero_or_pos L with e0 | e0
      · subst e0
        have h4 : ¬ a < 0 := q
        have h5 : (0 : Int32) ≤ a := Int32.not_lt.mp h4
        exact Int32.lt_of_lt_of_le (by decide) h5
      · have e5 : nI L - 1 = nI (L - 1) := nI_sub (b := 1) (by omega)
        rw [e5]
        exact Int32.lt_of_lt_of_le (nI_lt (by omega) (by omega)) h3
  · refine Or.inr (tTX11_log ⟨fun q => ⟨zSame.rf u, ?_⟩, fun q => ⟨fun q2 => absurd q2 (Int32.not_lt.mpr (hout.resolve_left q)), fun _ => ⟨zSame.rf u, ?_⟩⟩⟩) <;>
    · refine tX12_log (fun m1 e1 => ?_)
      have fin : zSame u (zUp m1 128 0 1) ∧ ∃ E c : Int32, (some (Value.int 5) : Option Value) = some (.int E) ∧ (E, c) ∈ [((5 : Int32), (1 : Int32))] ∧ zUp m1 128 0 1 128 0 = c := ⟨by rw [e1]; exact zSame.mm _ _ (by decide) (by decide), 5, 1, rfl, by simp, zUp_at _ _ _ _⟩
      refine ⟨fun _ => fin, fun c => ⟨fun _ => fin, fun c2 => absurd (hout.resolve_left c) ?_⟩⟩
      intro c3
      exact c2 (Int32.lt_of_lt_of_le (by decide) c3)
/-- two numbers of a row change places -/
def zEx (u : zM) (k i j : Nat) : zM := zUp (zUp u k i (u k j)) k j (u k i)
theorem zEx_k (u : zM) {k i j c : Nat} (h : c ≠ k) : zEx u k i j c = u c := by unfold zEx; rw [zUp_k _ _ h, zUp_k _ _ h]
theorem zEx_v (u : zM) (k i j x : Nat) : zEx u k i j k x = if x = j then u k i else if x = i then u k j else u k x := by
  unfold zEx
  by_cases h : x = j
  · subst h; rw [zUp_at, if_pos rfl]
  · rw [zUp_j _ _ h, if_neg h]
    by_cases g : x = i
    · subst g; rw [zUp_at, if_pos rfl]
    · rw [zUp_j _ _ g, if_neg g]
theorem zEx_back (u : zM) (k i j : Nat) : zEx (zEx u k i j) k i j = u := by
  funext c
  by_cases hc : c = k
  · subst hc
    funext x
    rw [zEx_v]
    simp only [zEx_v]
    by_cases h1 : x = j
    · subst h1
      by_cases h2 : i = x
      · subst h2; simp
      · simp [h2]
    · by_cases h2 : x = i
      · subst h2; simp [h1]
      · simp [h1, h2]
  · rw [zEx_k _ hc, zEx_k _ hc]
/-- the way of the reference's round with two places changed -/
theorem s_wayE {d n p q : Nat} {u : zM} {Q : Option Value → zM → Prop} (hR : zRg (u 129) n) (hf : ∀ a b, a < 12 → b < 12 → u 134 (12 * a + b) = nI (zFar (u 129) a b)) (hp : p < n) (hq : q < n)
    (h : Q (some (.int (nI (min 1000000 (zWay (zFar (u 129)) (fun k => gN (u 129) (zSw2 p q k)) n))))) (zEx u 129 (155 + p) (155 + q))) : zCall (d + 3) false 272 [.ref 128] (zEx u 129 (155 + p) (155 + q)) Q := by
  have h8 := hR.1.1
  refine s_wayM (W := u 129) (st := fun k => zSw2 p q k) hR (by rw [zEx_k _ (by decide)]; exact hf) (by rw [zEx_v, if_neg (by omega), if_neg (by omega)]) (fun s hs => by rw [zEx_v, if_neg (by omega), if_neg (by omega)]) (fun k hk => ?_) h
  have hs : zSw2 p q k < n := by unfold zSw2; split <;> (try split) <;> omega
  refine ⟨hs, ?_⟩
  rw [← (stN_eq hR hs).1, zEx_v]
  unfold zSw2
  by_cases h1 : k = p
  · subst h1
    by_cases h2 : k = q
    · subst h2; rw [if_pos rfl, if_pos rfl]
    · rw [if_neg (by omega), if_pos rfl, if_pos rfl]
  · by_cases h2 : k = q
    · subst h2; rw [if_pos rfl, if_neg h1, if_pos rfl]
    · rw [if_neg (by omega), if_neg (by omega), if_neg h1, if_neg h2]
