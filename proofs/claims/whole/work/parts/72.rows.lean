/-! one MORNING's changes of a row, as the reference makes them -/
def pGet1 (W : Nat → Int32) (s : Nat) : Nat → Int32 :=
  if W (163 + 9 * s + 2) < W 6 then upd W (163 + 9 * s + 4) (if W (163 + 9 * s + 4) + 1 < 9 then W (163 + 9 * s + 4) + 1 else 9)
  else upd (upd W (163 + 9 * s + 2) (W (163 + 9 * s + 2) - W 6)) (163 + 9 * s + 3) (if W (163 + 9 * s + 3) + 1 < 9 then W (163 + 9 * s + 3) + 1 else 9)
def pGets (W : Nat → Int32) (s : Nat) : Nat → Nat → Int32
  | 0 => W
  | b + 1 => pGet1 (pGets W s b) s
def pRecv (W : Nat → Int32) (s b : Nat) : Nat → Int32 := upd (pGets W s b) (163 + 9 * s + 5) 0
def pDrink (W : Nat → Int32) (s : Nat) : Nat → Int32 :=
  if W (163 + 9 * s + 4) ≤ 0 then
    (if W (163 + 9 * s + 3) ≤ 0 then upd (upd W (163 + 9 * s + 5) (if W (163 + 9 * s + 5) + 0 < 99 then W (163 + 9 * s + 5) + 0 else 99)) (163 + 9 * s + 6) (if W (163 + 9 * s + 6) + 1 < 99 then W (163 + 9 * s + 6) + 1 else 99)
    else upd (upd (upd W (163 + 9 * s + 3) (W (163 + 9 * s + 3) - 1)) (163 + 9 * s + 5) (if W (163 + 9 * s + 5) + 1 < 99 then W (163 + 9 * s + 5) + 1 else 99)) (163 + 9 * s + 6) 0)
  else upd (upd (upd W (163 + 9 * s + 4) (W (163 + 9 * s + 4) - 1)) (163 + 9 * s + 5) (if W (163 + 9 * s + 5) + 1 < 99 then W (163 + 9 * s + 5) + 1 else 99)) (163 + 9 * s + 6) 0
def pTurn0 (W : Nat → Int32) (s : Nat) (x : Int32) : Int32 := if 0 < W (163 + 9 * s + 4) - x then W (163 + 9 * s + 4) - x else 0
def pTurn (W : Nat → Int32) (s : Nat) (x : Int32) : Nat → Int32 :=
  upd (upd (upd W (163 + 9 * s + 4) (pTurn0 W s x)) (163 + 9 * s + 4) (if pTurn0 W s x + W (163 + 9 * s + 3) < 9 then pTurn0 W s x + W (163 + 9 * s + 3) else 9)) (163 + 9 * s + 3) 0
def pSeed (W : Nat → Int32) : Nat → Int32 := upd W 10 ((1103515245 * W 10) + 12345)
def pDraw (W : Nat → Int32) : Int32 := ((W 10 >>> ((16 : Int32) &&& 31)) &&& 32767) - ((W 10 >>> ((16 : Int32) &&& 31)) &&& 32767) / 100 * 100
def pBreak (W : Nat → Int32) (s : Nat) : Nat → Int32 :=
  if W (163 + 9 * s + 3) ≤ 0 then W else if lwBy (pSeed W) 1 s ≤ pDraw (pSeed W) then pSeed W else upd (pSeed W) (163 + 9 * s + 3) (W (163 + 9 * s + 3) - 1)
def pPeck (W : Nat → Int32) (s : Nat) : Nat → Int32 :=
  if lwBy (pSeed W) 0 s ≤ pDraw (pSeed W) then pSeed W else upd (upd (pSeed W) (163 + 9 * s + 3) (W (163 + 9 * s + 3) - 1)) (163 + 9 * s + 4) (if W (163 + 9 * s + 4) + 1 < 9 then W (163 + 9 * s + 4) + 1 else 9)
def pBird (W : Nat → Int32) (s : Nat) : Nat → Int32 := if W (163 + 9 * s + 3) = 0 then W else pBreak (pPeck W s) s
def pAll (g : (Nat → Int32) → Nat → Nat → Int32) (W : Nat → Int32) : Nat → Nat → Int32
  | 0 => W
  | i + 1 => g (pAll g W i) i
def pDay (W : Nat → Int32) : Nat → Int32 := upd W 3 (if W 3 + 1 < 9999 then W 3 + 1 else 9999)
def pSour (W : Nat → Int32) (s : Nat) : Nat → Int32 := pTurn W s (lwBy W 2 s)
def pEve (W : Nat → Int32) (n : Nat) : Nat → Int32 := pDay (pAll pSour (pAll pDrink W n) n)
/-- the float's ride on a row -/
def pRide (W : Nat → Int32) (i : Nat) : zR := zRdF W (W 5).toNatClampNeg (W 4).toNatClampNeg i
def pCome (r : zR) (V : Nat → Int32) (s : Nat) : Nat → Int32 := if tb r.came s = true then pRecv V s (r.lf s).toNatClampNeg else V
def pDel (W : Nat → Int32) (n : Nat) : Nat → Int32 := pAll (pCome (pRide W n)) W n
def pTell (V : Nat → Int32) (s : Nat) (a b : Int32) : Nat → Int32 := fun k => if k = 9 then (if V 9 + 1 < 60 then V 9 + 1 else 60) else if k = 235 then V 3 else if k = 236 then nI s else if k = 237 then a else if k = 238 then b else if 239 ≤ k ∧ k < 475 then V (k - 4) else V k
def pLog1 (st : Nat → Nat) (r : zR) (V : Nat → Int32) (i : Nat) : Nat → Int32 := if 0 < r.lf (st i) then pTell V (st i) (r.lf (st i)) (r.rs (st i)) else V
def pLogs (W : Nat → Int32) (r : zR) (V : Nat → Int32) (i : Nat) : Nat → Int32 := pAll (pLog1 (stN W) r) V i
def pDelL (W : Nat → Int32) (n : Nat) : Nat → Int32 := pLogs W (pRide W n) (pDel W n) n
def pMorn (calm : Bool) (W : Nat → Int32) (n : Nat) : Nat → Int32 := pEve (if calm = true then pDelL W n else pAll pBird (pDelL W n) n) n
/-- the quiet morning without its log -/
def pMornQ (calm : Bool) (W : Nat → Int32) (n : Nat) : Nat → Int32 := pEve (if calm = true then pDel W n else pAll pBird (pDel W n) n) n
/-! what a morning leaves as it is -/
def zFx (W V : Nat → Int32) : Prop := (∀ k, k < 163 → k ≠ 3 → k ≠ 9 → k ≠ 10 → V k = W k) ∧ (∀ k, 475 ≤ k → V k = W k) ∧ ∀ s, s < 8 → V (163 + 9 * s) = W (163 + 9 * s) ∧ V (163 + 9 * s + 1) = W (163 + 9 * s + 1) ∧ V (163 + 9 * s + 7) = W (163 + 9 * s + 7) ∧ V (163 + 9 * s + 8) = W (163 + 9 * s + 8)
theorem zFx.rf (W : Nat → Int32) : zFx W W := ⟨fun _ _ _ _ _ => rfl, fun _ _ => rfl, fun _ _ => ⟨rfl, rfl, rfl, rfl⟩⟩
theorem zFx.tr {W V U : Nat → Int32} (h1 : zFx W V) (h2 : zFx V U) : zFx W U := ⟨fun k a b c d => (h2.1 k a b c d).trans (h1.1 k a b c d), fun k a => (h2.2.1 k a).trans (h1.2.1 k a), fun s hs => ⟨(h2.2.2 s hs).1.trans (h1.2.2 s hs).1, (h2.2.2 s hs).2.1.trans (h1.2.2 s hs).2.1, (h2.2.2 s hs).2.2.1.trans (h1.2.2 s hs).2.2.1, (h2.2.2 s hs).2.2.2.trans (h1.2.2 s hs).2.2.2⟩⟩
theorem zFx.val {W : Nat → Int32} (s w : Nat) (v : Int32) (hs : s < 8) (h1 : 2 ≤ w) (h2 : w ≤ 6) : zFx W (upd W (163 + 9 * s + w) v) := ⟨fun k a _ _ _ => upd_ne _ _ (by omega), fun k a => upd_ne _ _ (by omega), fun t ht => ⟨upd_ne _ _ (by omega), upd_ne _ _ (by omega), upd_ne _ _ (by omega), upd_ne _ _ (by omega)⟩⟩
theorem zFx.num {W : Nat → Int32} (j : Nat) (v : Int32) (hj : j = 3 ∨ j = 9 ∨ j = 10 ∨ (235 ≤ j ∧ j < 475)) : zFx W (upd W j v) := ⟨fun k a b c d => upd_ne _ _ (by omega), fun k a => upd_ne _ _ (by omega), fun t ht => ⟨upd_ne _ _ (by omega), upd_ne _ _ (by omega), upd_ne _ _ (by omega), upd_ne _ _ (by omega)⟩⟩
/-- the bounds of the values -/
def zVs (V : Nat → Int32) : Prop := ∀ s w, s < 8 → 2 ≤ w → w ≤ 6 → ∃ c, c ≤ zVb w ∧ V (163 + 9 * s + w) = nI c
theorem zVs.up1 {V : Nat → Int32} {s w c : Nat} {v : Int32} (h : zVs V) (h2 : 2 ≤ w) (h6 : w ≤ 6) (hc : c ≤ zVb w) (e : v = nI c) : zVs (upd V (163 + 9 * s + w) v) := fun t x ht hx hy => by
  by_cases q : 163 + 9 * t + x = 163 + 9 * s + w
  · obtain rfl : x = w := by omega
    exact ⟨c, hc, by rw [q, upd_at]; exact e⟩
  · rw [upd_ne _ _ q]; exact h t x ht hx hy
theorem zVs.num {V : Nat → Int32} {j : Nat} {v : Int32} (h : zVs V) (hj : j < 163 ∨ 235 ≤ j) : zVs (upd V j v) := fun t x ht hx hy => by
  rw [upd_ne _ _ (by omega)]; exact h t x ht hx hy
theorem zRg.vs {W : Nat → Int32} {n : Nat} (h : zRg W n) : zVs W := fun s w hs h2 h6 => h.2.2.2.2.2.2.2.2.2.2.2.2.2.2.1 s w hs (by omega) (by omega)
theorem zRg.fx {W V : Nat → Int32} {n : Nat} (h : zRg W n) (hF : zFx W V) (hv : zVs V) (hd : ∃ t, t ≤ 9999 ∧ V 3 = nI t) : zRg V n := by
  obtain ⟨g0, g1, g2, g3, g4, g5, g6, g7, g8, g9, ga, gb, gc, gd, ge, gf⟩ := h
  obtain ⟨f1, f2, f3⟩ := hF
  have f : ∀ k, k < 163 → k ≠ 3 → k ≠ 9 → k ≠ 10 → V k = W k := f1
  have r : ∀ a b, a < 12 → b < 12 → V (11 + 12 * a + b) = W (11 + 12 * a + b) := fun a b ha hb => f _ (by omega) (by omega) (by omega) (by omega)
  refine ⟨?_, ?_, ?_, hd, ?_, ?_, ?_, ?_, ?_, fun a b ha hb => ?_, fun a b ha hb => ?_, fun a ha => ?_, fun p hp => ?_, fun p q hp hq => ?_, fun s w hs hw h7 => ?_, fun s hs => ?_⟩
  · rw [f 0 (by decide) (by decide) (by decide) (by decide)]; exact g0
  · rw [f 1 (by decide) (by decide) (by decide) (by decide)]; exact g1
  · rw [f 2 (by decide) (by decide) (by decide) (by decide)]; exact g2
  · rw [f 4 (by decide) (by decide) (by decide) (by decide)]; exact g4
  · rw [f 5 (by decide) (by decide) (by decide) (by decide)]; exact g5
  · rw [f 6 (by decide) (by decide) (by decide) (by decide)]; exact g6
  · rw [f 7 (by decide) (by decide) (by decide) (by decide)]; exact g7
  · rw [f 8 (by decide) (by decide) (by decide) (by decide)]; exact g8
  · rw [r a b ha hb]; exact g9 a b ha hb
  · rw [r a b ha hb, r b a hb ha]; exact ga a b ha hb
  · rw [r a a ha ha]; exact gb a ha
  · rw [f (155 + p) (by omega) (by omega) (by omega) (by omega)]; exact gc p hp
  · rw [f (155 + p) (by omega) (by omega) (by omega) (by omega), f (155 + q) (by omega) (by omega) (by omega) (by omega)]; exact gd p q hp hq
  · by_cases q : 2 ≤ w ∧ w ≤ 6
    · exact hv s w hs q.1 q.2
    · have g := ge s w hs hw h7
      have : w = 0 ∨ w = 1 ∨ w = 8 := by omega
      rcases this with rfl | rfl | rfl
      · rw [show 163 + 9 * s + 0 = 163 + 9 * s from rfl, (f3 s hs).1]; exact g
      · rw [(f3 s hs).2.1]; exact g
      · rw [(f3 s hs).2.2.2]; exact g
  · rw [(f3 s hs).2.2.1]; exact gf s hs
/-- what hangs on the fixed alone -/
theorem zFx.far {W V : Nat → Int32} (h : zFx W V) : zFar V = zFar W := by
  have : rdN V = rdN W := by
    funext a b
    unfold rdN
    by_cases q : a < 12 ∧ b < 12
    · rw [if_pos q, if_pos q, h.1 (11 + 12 * a + b) (by omega) (by omega) (by omega) (by omega)]
    · rw [if_neg q, if_neg q]
  unfold zFar
  rw [this]
theorem zFx.wf {W V : Nat → Int32} (h : zFx W V) (hw : lwWf W) : lwWf V := by
  have e : ∀ k, 475 ≤ k → V k = W k := h.2.1
  intro q
  rw [h.1 2 (by decide) (by decide) (by decide) (by decide)] at q
  obtain ⟨L, S, o1, o2, o3, o4, o5⟩ := hw q
  have c : ∀ i, lwC V i = lwC W i := fun i => by unfold lwC; rw [e _ (by omega)]
  have cf : lwC V = lwC W := funext c
  have v : ∀ i, lwV V i = lwV W i := fun i => by unfold lwV; rw [e _ (by omega)]
  refine ⟨L, S, o1, o2, by rw [e 475 (by decide)]; exact o3, fun i hi => ?_, fun l hl => ?_⟩
  · rw [c, v, e _ (by omega), e _ (by omega)]; exact o4 i hi
  · have k : lwK V l = lwK W l := by unfold lwK; rw [e _ (by omega)]
    have a : lwA V l = lwA W l := by unfold lwA; rw [e _ (by omega)]
    have b : lwB V l = lwB W l := by unfold lwB; rw [e _ (by omega)]
    have d : lwE V l = lwE W l := by unfold lwE; rw [e _ (by omega)]
    rw [k, a, b, d, cf, e _ (by omega), e _ (by omega), e _ (by omega), e _ (by omega)]; exact o5 l hl
theorem lwRel.row {u : zM} {k : Nat} {W V : Nat → Int32} (h2 : V 2 = W 2) (e : ∀ k, 475 ≤ k → V k = W k) (h : lwRel u k W) : lwRel u k V := by
  refine ⟨fun q => h.1 (by rw [← h2]; exact q), fun q => ?_⟩
  obtain ⟨L, S, ok, r6, rc, rl⟩ := h.2 (by rw [← h2]; exact q)
  obtain ⟨o1, o2, o3, o4, o5⟩ := ok
  have c : ∀ i, lwC V i = lwC W i := fun i => by unfold lwC; rw [e _ (by omega)]
  have cf : lwC V = lwC W := funext c
  have v : ∀ i, lwV V i = lwV W i := fun i => by unfold lwV; rw [e _ (by omega)]
  have kk : ∀ l, lwK V l = lwK W l := fun l => by unfold lwK; rw [e _ (by omega)]
  have aa : ∀ l, lwA V l = lwA W l := fun l => by unfold lwA; rw [e _ (by omega)]
  have bb : ∀ l, lwB V l = lwB W l := fun l => by unfold lwB; rw [e _ (by omega)]
  have dd : ∀ l, lwE V l = lwE W l := fun l => by unfold lwE; rw [e _ (by omega)]
  refine ⟨L, S, ⟨o1, o2, by rw [e 475 (by decide)]; exact o3, fun i hi => ?_, fun l hl => ?_⟩, r6, fun i hi => by rw [c, v]; exact rc i hi, fun l hl => by rw [kk, aa, bb, dd]; exact rl l hl⟩
  · rw [c, v, e _ (by omega), e _ (by omega)]; exact o4 i hi
  · rw [kk, aa, bb, dd, cf, e _ (by omega), e _ (by omega), e _ (by omega), e _ (by omega)]; exact o5 l hl
theorem lwRel.wf {u : zM} {k : Nat} {W : Nat → Int32} (h : lwRel u k W) : lwWf W := fun q => by
  obtain ⟨L, S, ok, -⟩ := h.2 q
  exact ⟨L, S, ok⟩
theorem lwRel.congr {u w : zM} {k : Nat} {W : Nat → Int32} (h0 : w k 6 = u k 6) (h : ∀ c, k + 1 ≤ c → c ≤ k + 5 → w c = u c) (hr : lwRel u k W) : lwRel w k W := by
  refine ⟨fun q => by rw [h0]; exact hr.1 q, fun q => ?_⟩
  obtain ⟨L, S, ok, r6, rc, rl⟩ := hr.2 q
  refine ⟨L, S, ok, by rw [h0]; exact r6, fun i hi => by rw [h (k + 5) (by omega) (by omega)]; exact rc i hi, fun l hl => ?_⟩
  rw [h (k + 1) (by omega) (by omega), h (k + 2) (by omega) (by omega), h (k + 3) (by omega) (by omega), h (k + 4) (by omega) (by omega)]
  exact rl l hl
