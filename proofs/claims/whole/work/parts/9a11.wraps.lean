/-! the wrappers of the law, each with its call of the reference -/
def wN (m : Nat) (as : List Value) : Option Value → zM → Prop := fun v w => ∀ o : Int32, zCall 60 false m (.ref 128 :: as) (zUp w 142 0 o) fun v2 w2 => v2 = v ∧ w2 128 0 = 0 ∧ zIv w2
def wT (m : Nat) (as : List Value) (codes : List (Int32 × Int32)) : Option Value → zM → Prop := fun v w => zCall 60 false m (.ref 128 :: as) w fun _ w2 => zIv w2 ∧ ∃ E c, v = some (.int E) ∧ (E, c) ∈ codes ∧ w2 128 0 = c
/-- what the law may hold of a pair of calls, between them -/
def wU (m : Nat) (as : List Value) : Option Value → zM → Prop := fun v w2 => (v = some (.int 0) ∧ zCall 60 false m (.ref 128 :: as) w2 fun v2 w3 => v2 = some (.int (w2 142 0)) ∧ w3 128 0 = 0 ∧ zIv w3) ∨ (∃ c : Int32, c ≠ 0 ∧ v = some (.int c) ∧ zCall 60 false m (.ref 128 :: as) w2 fun _ w3 => zIv w3 ∧ w3 128 0 = c)
theorem wV_U {hd : wHd} {m : Nat} {as : List Value} {codes : List (Int32 × Int32)} (hz : (hd.all fun q => decide (q.2.2.2 ≠ 0)) = true) (hu : (hd.all fun q => codes.all fun p => !decide (p.1 = q.2.2.1) || decide (p.2 = q.2.2.2)) = true) {v : Option Value} {w2 : zM} (h : wV hd (wN m as) (wT m as codes) v w2) : wU m as v w2 := by
  rcases h with ⟨o, w, hN, rfl, rfl⟩ | ⟨q, hq, rfl, hT⟩
  · refine Or.inl ⟨rfl, ?_⟩
    have e : zUp w 142 0 o 142 0 = o := by simp [zUp, zRow, upd]
    rw [e]
    exact hN o
  · refine Or.inr ⟨q.2.2.2, of_decide_eq_true (List.all_eq_true.mp hz q hq), rfl, zCall_m 60 false _ _ _ _ _ (fun _ w3 g => ⟨g.1, ?_⟩) hT⟩
    obtain ⟨-, E, c, e1, e2, e3⟩ := g
    have e4 : q.2.2.1 = E := by simpa using e1
    have h5 := List.all_eq_true.mp (List.all_eq_true.mp hu q hq) _ e2
    simp only [Bool.or_eq_true, Bool.not_eq_true', decide_eq_false_iff_not, decide_eq_true_eq] at h5
    rcases h5 with h5 | h5
    · exact absurd e4.symm h5
    · rw [e3, h5]
theorem wOp {hd : wHd} {x m : Nat} {as : List Value} {codes : List (Int32 × Int32)} {u : zM} (hok : zOkT x m as codes) (hu : zIv u) : zCall 60 false x (.ref 0 :: as) u (wN m as) ∨ zCall 60 true x (.ref 0 :: as) u (wT m as codes) := hok u hu
theorem wTh {hd : wHd} {m : Nat} {as : List Value} {codes : List (Int32 × Int32)} (hc : codes = hd.map fun q => (q.2.2.1, q.2.2.2)) (v : Option Value) (w : zM) (h : wT m as codes v w) : ∃ q ∈ hd, v = some (.int q.2.2.1) := by
  obtain ⟨E, c, e1, e2⟩ : ∃ E c, v = some (.int E) ∧ (E, c) ∈ codes := zCall_pure 60 m _ w (zCall_m 60 false _ _ _ _ _ (fun _ _ g => by
    obtain ⟨-, E, c, e1, e2, -⟩ := g
    exact ⟨E, c, e1, e2⟩) h)
  rw [hc] at e2
  obtain ⟨q, hq, e3⟩ := List.mem_map.mp e2
  exact ⟨q, hq, by rw [e1]; cases e3; rfl⟩
def wD_suburb : wHd := [(11, 13, 1, 1), (14, 15, 4, 2)]
theorem w_suburb (l : Launch) (hlt : l.stackTraces = false) (E : zE) {u : zM} (hu : zIv u) : wMet l E yL_suburb cL_suburb 0 wD_suburb [] u (wV wD_suburb (wN 229 []) (wT 229 [] [(1, 1), (4, 2)])) := wMet0 l hlt E (idx := 7) (a := 109) (pE := 17) (by decide +kernel) rfl (by decide +kernel) (wOp (hd := wD_suburb) (op_suburb) hu) (wTh (by decide))
def wD_law : wHd := [(11, 13, 1, 1)]
theorem w_law (l : Launch) (hlt : l.stackTraces = false) (E : zE) {u : zM} (hu : zIv u) : wMet l E yL_law cL_law 0 wD_law [] u (wV wD_law (wN 230 []) (wT 230 [] [(1, 1)])) := wMet0 l hlt E (idx := 17) (a := 110) (pE := 14) (by decide +kernel) rfl (by decide +kernel) (wOp (hd := wD_law) (op_law) hu) (wTh (by decide))
def wD_step : wHd := [(13, 24, 2, 1), (17, 26, 5, 2)]
theorem w_step (l : Launch) (hlt : l.stackTraces = false) (E : zE) (a : Int32) (b : Int32) {u : zM} (hu : zIv u) : wMet l E yL_step cL_step 2 wD_step [.int a, .int b] u (wV wD_step (wN 239 [.int a, .int b]) (wT 239 [.int a, .int b] [(2, 1), (5, 2)])) := wMet2 l hlt E (idx := 20) (a := 112) (pE := 21) (by decide +kernel) rfl (by decide +kernel) (wOp (hd := wD_step) (op_step a b) hu) (wTh (by decide))
def wD_far : wHd := [(13, 24, 2, 1)]
theorem w_far (l : Launch) (hlt : l.stackTraces = false) (E : zE) (a : Int32) (b : Int32) {u : zM} (hu : zIv u) : wMet l E yL_far cL_far 2 wD_far [.int a, .int b] u (wV wD_far (wN 241 [.int a, .int b]) (wT 241 [.int a, .int b] [(2, 1)])) := wMet2 l hlt E (idx := 28) (a := 113) (pE := 17) (by decide +kernel) rfl (by decide +kernel) (wOp (hd := wD_far) (op_far a b).ok hu) (wTh (by decide))
def wD_road : wHd := [(13, 24, 2, 1)]
theorem w_road (l : Launch) (hlt : l.stackTraces = false) (E : zE) (a : Int32) (b : Int32) {u : zM} (hu : zIv u) : wMet l E yL_road cL_road 2 wD_road [.int a, .int b] u (wV wD_road (wN 242 [.int a, .int b]) (wT 242 [.int a, .int b] [(2, 1)])) := wMet2 l hlt E (idx := 31) (a := 114) (pE := 17) (by decide +kernel) rfl (by decide +kernel) (wOp (hd := wD_road) (op_road a b).ok hu) (wTh (by decide))
def wD_round : wHd := [(12, 24, 2, 1)]
theorem w_round (l : Launch) (hlt : l.stackTraces = false) (E : zE) (a : Int32) {u : zM} (hu : zIv u) : wMet l E yL_round cL_round 1 wD_round [.int a] u (wV wD_round (wN 244 [.int a]) (wT 244 [.int a] [(2, 1)])) := wMet1 l hlt E (idx := 34) (a := 115) (pE := 15) (by decide +kernel) rfl (by decide +kernel) (wOp (hd := wD_round) (op_round a).ok hu) (wTh (by decide))
def wD_mornings : wHd := [(12, 13, 1, 1)]
theorem w_mornings (l : Launch) (hlt : l.stackTraces = false) (E : zE) (a : Int32) {u : zM} (hu : zIv u) : wMet l E yL_mornings cL_mornings 1 wD_mornings [.int a] u (wV wD_mornings (wN 259 [.int a]) (wT 259 [.int a] [(1, 1)])) := wMet1 l hlt E (idx := 38) (a := 116) (pE := 15) (by decide +kernel) rfl (by decide +kernel) (wOp (hd := wD_mornings) (op_mornings a) hu) (wTh (by decide))
def wD_pay : wHd := [(13, 24, 2, 1), (17, 13, 1, 2)]
theorem w_pay (l : Launch) (hlt : l.stackTraces = false) (E : zE) (a : Int32) (b : Int32) {u : zM} (hu : zIv u) : wMet l E yL_pay cL_pay 2 wD_pay [.int a, .int b] u (wV wD_pay (wN 260 [.int a, .int b]) (wT 260 [.int a, .int b] [(2, 1), (1, 2)])) := wMet2 l hlt E (idx := 41) (a := 117) (pE := 21) (by decide +kernel) rfl (by decide +kernel) (wOp (hd := wD_pay) (op_pay a b) hu) (wTh (by decide))
def wD_note : wHd := [(13, 24, 2, 1)]
theorem w_note (l : Launch) (hlt : l.stackTraces = false) (E : zE) (a : Int32) (b : Int32) {u : zM} (hu : zIv u) : wMet l E yL_note cL_note 2 wD_note [.int a, .int b] u (wV wD_note (wN 262 [.int a, .int b]) (wT 262 [.int a, .int b] [(2, 1)])) := wMet2 l hlt E (idx := 44) (a := 118) (pE := 17) (by decide +kernel) rfl (by decide +kernel) (wOp (hd := wD_note) (op_note a b) hu) (wTh (by decide))
def wD_kind : wHd := [(13, 24, 2, 1)]
theorem w_kind (l : Launch) (hlt : l.stackTraces = false) (E : zE) (a : Int32) (b : Int32) {u : zM} (hu : zIv u) : wMet l E yL_kind cL_kind 2 wD_kind [.int a, .int b] u (wV wD_kind (wN 263 [.int a, .int b]) (wT 263 [.int a, .int b] [(2, 1)])) := wMet2 l hlt E (idx := 47) (a := 119) (pE := 17) (by decide +kernel) rfl (by decide +kernel) (wOp (hd := wD_kind) (op_kind a b) hu) (wTh (by decide))
def wD_change : wHd := [(13, 24, 2, 1), (17, 13, 1, 2)]
theorem w_change (l : Launch) (hlt : l.stackTraces = false) (E : zE) (a : Int32) (b : Int32) {u : zM} (hu : zIv u) : wMet l E yL_change cL_change 2 wD_change [.int a, .int b] u (wV wD_change (wN 265 [.int a, .int b]) (wT 265 [.int a, .int b] [(2, 1), (1, 2)])) := wMet2 l hlt E (idx := 50) (a := 120) (pE := 21) (by decide +kernel) rfl (by decide +kernel) (wOp (hd := wD_change) (op_change a b) hu) (wTh (by decide))
def wD_charge : wHd := [(12, 13, 1, 1)]
theorem w_charge (l : Launch) (hlt : l.stackTraces = false) (E : zE) (a : Int32) {u : zM} (hu : zIv u) : wMet l E yL_charge cL_charge 1 wD_charge [.int a] u (wV wD_charge (wN 266 [.int a]) (wT 266 [.int a] [(1, 1)])) := wMet1 l hlt E (idx := 53) (a := 121) (pE := 15) (by decide +kernel) rfl (by decide +kernel) (wOp (hd := wD_charge) (op_charge a) hu) (wTh (by decide))
def wD_crates : wHd := [(12, 13, 1, 1)]
theorem w_crates (l : Launch) (hlt : l.stackTraces = false) (E : zE) (a : Int32) {u : zM} (hu : zIv u) : wMet l E yL_crates cL_crates 1 wD_crates [.int a] u (wV wD_crates (wN 267 [.int a]) (wT 267 [.int a] [(1, 1)])) := wMet1 l hlt E (idx := 56) (a := 122) (pE := 15) (by decide +kernel) rfl (by decide +kernel) (wOp (hd := wD_crates) (op_crates a) hu) (wTh (by decide))
def wD_lend : wHd := [(13, 24, 2, 1), (17, 13, 1, 2), (21, 62, 3, 3)]
theorem w_lend (l : Launch) (hlt : l.stackTraces = false) (E : zE) (a : Int32) (b : Int32) {u : zM} (hu : zIv u) : wMet l E yL_lend cL_lend 2 wD_lend [.int a, .int b] u (wV wD_lend (wN 268 [.int a, .int b]) (wT 268 [.int a, .int b] [(2, 1), (1, 2), (3, 3)])) := wMet2 l hlt E (idx := 59) (a := 123) (pE := 25) (by decide +kernel) rfl (by decide +kernel) (wOp (hd := wD_lend) (op_lend a b) hu) (wTh (by decide))
def wD_cut : wHd := [(12, 24, 2, 1)]
theorem w_cut (l : Launch) (hlt : l.stackTraces = false) (E : zE) (a : Int32) {u : zM} (hu : zIv u) : wMet l E yL_cut cL_cut 1 wD_cut [.int a] u (wV wD_cut (wN 287 [.int a]) (wT 287 [.int a] [(2, 1)])) := wMet1 l hlt E (idx := 64) (a := 133) (pE := 15) (by decide +kernel) rfl (by decide +kernel) (wOp (hd := wD_cut) (op_cut a).ok hu) (wTh (by decide))
def wD_owes : wHd := [(12, 24, 2, 1)]
theorem w_owes (l : Launch) (hlt : l.stackTraces = false) (E : zE) (a : Int32) {u : zM} (hu : zIv u) : wMet l E yL_owes cL_owes 1 wD_owes [.int a] u (wV wD_owes (wN 291 [.int a]) (wT 291 [.int a] [(2, 1)])) := wMet1 l hlt E (idx := 67) (a := 135) (pE := 15) (by decide +kernel) rfl (by decide +kernel) (wOp (hd := wD_owes) (op_owes a).ok hu) (wTh (by decide))
def wD_pays : wHd := [(13, 24, 2, 1), (17, 13, 1, 2)]
theorem w_pays (l : Launch) (hlt : l.stackTraces = false) (E : zE) (a : Int32) (b : Int32) {u : zM} (hu : zIv u) : wMet l E yL_pays cL_pays 2 wD_pays [.int a, .int b] u (wV wD_pays (wN 292 [.int a, .int b]) (wT 292 [.int a, .int b] [(2, 1), (1, 2)])) := wMet2 l hlt E (idx := 70) (a := 136) (pE := 21) (by decide +kernel) rfl (by decide +kernel) (wOp (hd := wD_pays) (op_pays a b).ok hu) (wTh (by decide))
def wD_holds : wHd := [(12, 13, 1, 1)]
theorem w_holds (l : Launch) (hlt : l.stackTraces = false) (E : zE) (a : Int32) {u : zM} (hu : zIv u) : wMet l E yL_holds cL_holds 1 wD_holds [.int a] u (wV wD_holds (wN 294 [.int a]) (wT 294 [.int a] [(1, 1)])) := wMet1 l hlt E (idx := 73) (a := 137) (pE := 15) (by decide +kernel) rfl (by decide +kernel) (wOp (hd := wD_holds) (op_holds a).ok hu) (wTh (by decide))
def wD_seen : wHd := [(12, 13, 1, 1)]
theorem w_seen (l : Launch) (hlt : l.stackTraces = false) (E : zE) (a : Int32) {u : zM} (hu : zIv u) : wMet l E yL_seen cL_seen 1 wD_seen [.int a] u (wV wD_seen (wN 299 [.int a]) (wT 299 [.int a] [(1, 1)])) := wMet1 l hlt E (idx := 76) (a := 141) (pE := 15) (by decide +kernel) rfl (by decide +kernel) (wOp (hd := wD_seen) (op_seen a) hu) (wTh (by decide))
def wD_ask : wHd := [(11, 13, 1, 1)]
theorem w_ask (l : Launch) (hlt : l.stackTraces = false) (E : zE) {u : zM} (hu : zIv u) : wMet l E yL_ask cL_ask 0 wD_ask [] u (wV wD_ask (wN 300 []) (wT 300 [] [(1, 1)])) := wMet0 l hlt E (idx := 80) (a := 142) (pE := 14) (by decide +kernel) rfl (by decide +kernel) (wOp (hd := wD_ask) (op_ask) hu) (wTh (by decide))
def wD_neighbour : wHd := [(12, 24, 2, 1)]
theorem w_neighbour (l : Launch) (hlt : l.stackTraces = false) (E : zE) (a : Int32) {u : zM} (hu : zIv u) : wMet l E yL_neighbour cL_neighbour 1 wD_neighbour [.int a] u (wV wD_neighbour (wN 306 [.int a]) (wT 306 [.int a] [(2, 1)])) := wMet1 l hlt E (idx := 83) (a := 144) (pE := 15) (by decide +kernel) rfl (by decide +kernel) (wOp (hd := wD_neighbour) (op_neighbour a) hu) (wTh (by decide))
def wD_gutter : wHd := [(13, 24, 2, 1), (17, 13, 1, 2)]
theorem w_gutter (l : Launch) (hlt : l.stackTraces = false) (E : zE) (a : Int32) (b : Int32) {u : zM} (hu : zIv u) : wMet l E yL_gutter cL_gutter 2 wD_gutter [.int a, .int b] u (wV wD_gutter (wN 307 [.int a, .int b]) (wT 307 [.int a, .int b] [(2, 1), (1, 2)])) := wMet2 l hlt E (idx := 86) (a := 145) (pE := 21) (by decide +kernel) rfl (by decide +kernel) (wOp (hd := wD_gutter) (op_gutter a b).ok hu) (wTh (by decide))
def wD_rests : wHd := [(13, 24, 2, 1), (17, 13, 1, 2)]
theorem w_rests (l : Launch) (hlt : l.stackTraces = false) (E : zE) (a : Int32) (b : Int32) {u : zM} (hu : zIv u) : wMet l E yL_rests cL_rests 2 wD_rests [.int a, .int b] u (wV wD_rests (wN 309 [.int a, .int b]) (wT 309 [.int a, .int b] [(2, 1), (1, 2)])) := wMet2 l hlt E (idx := 89) (a := 146) (pE := 21) (by decide +kernel) rfl (by decide +kernel) (wOp (hd := wD_rests) (op_rests a b).ok hu) (wTh (by decide))
def wD_foil : wHd := [(12, 24, 2, 1)]
theorem w_foil (l : Launch) (hlt : l.stackTraces = false) (E : zE) (a : Int32) {u : zM} (hu : zIv u) : wMet l E yL_foil cL_foil 1 wD_foil [.int a] u (wV wD_foil (wN 311 [.int a]) (wT 311 [.int a] [(2, 1)])) := wMet1 l hlt E (idx := 92) (a := 149) (pE := 15) (by decide +kernel) rfl (by decide +kernel) (wOp (hd := wD_foil) (op_foil a).ok hu) (wTh (by decide))
def wD_noted : wHd := [(12, 24, 2, 1)]
theorem w_noted (l : Launch) (hlt : l.stackTraces = false) (E : zE) (a : Int32) {u : zM} (hu : zIv u) : wMet l E yL_noted cL_noted 1 wD_noted [.int a] u (wV wD_noted (wN 313 [.int a]) (wT 313 [.int a] [(2, 1)])) := wMet1 l hlt E (idx := 95) (a := 151) (pE := 15) (by decide +kernel) rfl (by decide +kernel) (wOp (hd := wD_noted) (op_noted a).ok hu) (wTh (by decide))
def wD_odds : wHd := [(13, 24, 2, 1), (17, 13, 1, 2)]
theorem w_odds (l : Launch) (hlt : l.stackTraces = false) (E : zE) (a : Int32) (b : Int32) {u : zM} (hu : zIv u) : wMet l E yL_odds cL_odds 2 wD_odds [.int a, .int b] u (wV wD_odds (wN 317 [.int a, .int b]) (wT 317 [.int a, .int b] [(2, 1), (1, 2)])) := wMet2 l hlt E (idx := 98) (a := 154) (pE := 21) (by decide +kernel) rfl (by decide +kernel) (wOp (hd := wD_odds) (op_odds a b) hu) (wTh (by decide))
def wD_ahead : wHd := [(15, 24, 2, 1), (19, 13, 1, 2), (23, 26, 5, 3)]
theorem w_ahead (l : Launch) (hlt : l.stackTraces = false) (E : zE) (a : Int32) (b : Int32) (c : Int32) {u : zM} (hu : zIv u) : wMet l E yL_ahead cL_ahead 3 wD_ahead [.int a, .int b, .int c] u (wV wD_ahead (wN 295 [.int a, .int b, .int c]) (wT 295 [.int a, .int b, .int c] [(2, 1), (1, 2), (5, 3)])) := wMet3 l hlt E (idx := 101) (a := 138) (pE := 27) (by decide +kernel) rfl (by decide +kernel) (wOp (hd := wD_ahead) (op_ahead a b c).ok hu) (wTh (by decide))
def wD_trial : wHd := [(13, 13, 1, 1)]
theorem w_trial (l : Launch) (hlt : l.stackTraces = false) (E : zE) (a : Int32) (b : Int32) {u : zM} (hu : zIv u) : wMet l E yL_trial cL_trial 2 wD_trial [.int a, .int b] u (wV wD_trial (wN 319 [.int a, .int b]) (wT 319 [.int a, .int b] [(1, 1)])) := wMet2 l hlt E (idx := 105) (a := 139) (pE := 17) (by decide +kernel) rfl (by decide +kernel) (wOp (hd := wD_trial) (op_trial a b).ok hu) (wTh (by decide))
def wD_span : wHd := [(13, 13, 1, 1)]
theorem w_span (l : Launch) (hlt : l.stackTraces = false) (E : zE) (a : Int32) (b : Int32) {u : zM} (hu : zIv u) : wMet l E yL_span cL_span 2 wD_span [.int a, .int b] u (wV wD_span (wN 320 [.int a, .int b]) (wT 320 [.int a, .int b] [(1, 1)])) := wMet2 l hlt E (idx := 109) (a := 140) (pE := 17) (by decide +kernel) rfl (by decide +kernel) (wOp (hd := wD_span) (op_span a b).ok hu) (wTh (by decide))
def wD_led : wHd := [(13, 24, 2, 1)]
theorem w_led (l : Launch) (hlt : l.stackTraces = false) (E : zE) (a : Int32) (b : Int32) {u : zM} (hu : zIv u) : wMet l E yL_led cL_led 2 wD_led [.int a, .int b] u (wV wD_led (wN 322 [.int a, .int b]) (wT 322 [.int a, .int b] [(2, 1)])) := wMet2 l hlt E (idx := 112) (a := 156) (pE := 17) (by decide +kernel) rfl (by decide +kernel) (wOp (hd := wD_led) (op_led a b).ok hu) (wTh (by decide))
def wD_log : wHd := [(13, 26, 5, 1)]
theorem w_log (l : Launch) (hlt : l.stackTraces = false) (E : zE) (a : Int32) (b : Int32) {u : zM} (hu : zIv u) : wMet l E yL_log cL_log 2 wD_log [.int a, .int b] u (wV wD_log (wN 323 [.int a, .int b]) (wT 323 [.int a, .int b] [(5, 1)])) := wMet2 l hlt E (idx := 115) (a := 157) (pE := 17) (by decide +kernel) rfl (by decide +kernel) (wOp (hd := wD_log) (op_log a b).ok hu) (wTh (by decide))
