theorem s_tells {d s : Nat} {a1 a2 a3 : Int32} {u : zM} {Q : Option Value → zM → Prop} (e1 : a1 = nI s) (h : ∀ w : zM, (∀ c, c ≠ 129 → w c = u c) → w 129 = pTell (u 129) s a2 a3 → Q none w) : zCall (d + 1) false 245 [.ref 128, .int a1, .int a2, .int a3] u Q := by
  subst e1
  refine tX12_tells ?_
  refine zFor (σ := zM) (Pr := fun j w => zRun d false zcX12_tells 0 Q 5 [(0, .ref 128), (1, .int (nI s)), (2, .int a2), (3, .int a3), (4, .int (nI (239 - j)))] [] w)
    (fun j w => (∀ c, c ≠ 129 → w c = u c) ∧ ∀ k, w 129 k = if 474 - j < k ∧ k < 475 then u 129 (k - 4) else u 129 k) 236 (fun w hw => ?_) (fun j w hj hw ih => ?_) u ⟨fun _ _ => rfl, fun k => by rw [if_neg (by omega)]⟩
  · obtain ⟨g1, g2⟩ := hw
    refine tX12_tells_5 (br_t (by decide) (fun m1 i1 m2 i2 m3 i3 m4 i4 => ?_))
    have r9 : m4 129 9 = u 129 9 := by rw [i4, zUp_j _ _ (by decide), i3, zUp_j _ _ (by decide), i2, zUp_j _ _ (by decide), i1, zUp_j _ _ (by decide), g2, if_neg (by omega)]
    have r3 : w 129 3 = u 129 3 := by rw [g2, if_neg (by omega)]
    rw [r3] at i1
    rw [r9]
    refine h _ (fun c hc => by rw [zUp_k _ _ hc, i4, zUp_k _ _ hc, i3, zUp_k _ _ hc, i2, zUp_k _ _ hc, i1, zUp_k _ _ hc]; exact g1 c hc) ?_
    funext k
    rw [zUp_row, i4, zUp_row, i3, zUp_row, i2, zUp_row, i1, zUp_row]
    unfold pTell
    by_cases k9 : k = 9
    · rw [if_pos k9, k9, upd_at]
    · rw [if_neg k9, upd_ne _ _ k9]
      by_cases k5 : k = 235
      · rw [if_pos k5, k5, upd_ne _ _ (by decide), upd_ne _ _ (by decide), upd_ne _ _ (by decide), upd_at]
      · rw [if_neg k5]
        by_cases k6 : k = 236
        · rw [if_pos k6, k6, upd_ne _ _ (by decide), upd_ne _ _ (by decide), upd_at]
        · rw [if_neg k6]
          by_cases k7 : k = 237
          · rw [if_pos k7, k7, upd_ne _ _ (by decide), upd_at]
          · rw [if_neg k7]
            by_cases k8 : k = 238
            · rw [if_pos k8, k8, upd_at]
            · rw [if_neg k8, upd_ne _ _ k8, upd_ne _ _ k7, upd_ne _ _ k6, upd_ne _ _ k5, g2]
              by_cases q : 239 ≤ k ∧ k < 475
              · rw [if_pos q, if_pos (by omega)]
              · rw [if_neg q, if_neg (by omega)]
  · obtain ⟨g1, g2⟩ := hw
    have k1 : 235 + nI (239 - j) = nI (474 - j) := by rw [nI_lit, nI_add]; congr 1; show 235 + (239 - j) = 474 - j; omega
    have k2 : nI (474 - j) - 4 = nI (470 - j) := by rw [nI_lit, nI_sub (by show 4 ≤ 474 - j; omega)]; congr 1; show 474 - j - 4 = 470 - j; omega
    have k3 : nI (239 - j) + (-1) = nI (239 - (j + 1)) := by rw [show 239 - j = 239 - (j + 1) + 1 by omega]; exact pk_m1 _
    refine tX12_tells_5 ?_
    rw [k1, k2, k3, nI_clamp (n := 474 - j) (by omega), nI_clamp (n := 470 - j) (by omega)]
    refine br_f (by rw [nI_lit, nI_ltI (by omega) (by omega)]; show ¬ 239 - j < 4; omega) ⟨vp_in_nI (by omega) (by decide), vp_in_nI (by omega) (by decide), ?_⟩
    refine ih _ ⟨fun c hc => (zUp_k _ _ hc).trans (g1 c hc), fun k => ?_⟩
    rw [zUp_row]
    by_cases q : k = 474 - j
    · rw [q, upd_at, g2, if_neg (by omega), if_pos (by omega)]; congr 1; omega
    · rw [upd_ne _ _ q, g2]
      by_cases q2 : 474 - j < k ∧ k < 475
      · rw [if_pos q2, if_pos (by omega)]
      · rw [if_neg q2, if_neg (by omega)]
