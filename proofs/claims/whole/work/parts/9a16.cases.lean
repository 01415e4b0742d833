/-! the law's 56 cases, and its loop -/
abbrev cLL : ByteArray := code
section LL
variable {p : Program} {l : Launch} {e : Env} {R : Room} {s : State} {m : MethodId} {args : Array Value} {below : List Frame} {meth : Method} {c : Code} {H : Heap} {locs : List Loc} {cells slots : Nat} {Z : State → Prop} {E : zE} {u : zM} {pc b i L0 : Nat} {L : Array Slot} {xs : Nat → Int32}
/-- what a case is given -/
def lawG (p : Program) (l : Launch) (e : Env) (R : Room) (s : State) (m : MethodId) (args : Array Value) (below : List Frame) (meth : Method) (c : Code) (H : Heap) (locs : List Loc) (cells slots : Nat) (Z : State → Prop) (E : zE) (u : zM) (b i L0 : Nat) (L : Array Slot) (xs : Nat → Int32) : Prop := lawF p s m args c R E cLL ∧ (cells + 1 ≤ R.cells ∧ slots + 6 ≤ R.slots) ∧ lawS s E b L0 xs ∧ i + 6 ≤ L0 ∧ lawNx p l e R s m args below meth c cells slots Z E b i ∧ zIv u ∧ yH 143 E u H ∧ va_S (zA E) s.heap H locs ∧ lv_has L 7 (lawB E b i)
theorem lawC0 (hlt : l.stackTraces = false) (G : lawG p l e R s m args below meth c H locs cells slots Z E u b i L0 L xs) : W p l e R s m args below meth c H locs cells slots Z (F0 m 280 L []) := by
  obtain ⟨hF, hcs, hX, hi, hN, hu, hH, hS, hL⟩ := G
  exact lawCaseA (ks := [false, false, false, false, false]) (ix := 122) (im := 126) (x := 107) (y := 201) hF hcs hX hi hN (by decide) (by decide +kernel) (by decide +kernel) (by decide +kernel) (by decide +kernel) (by decide +kernel) (by decide +kernel) (by decide +kernel) (op_feed _ _ _ _ _) hu hH hS hL
theorem lawC1 (hlt : l.stackTraces = false) (G : lawG p l e R s m args below meth c H locs cells slots Z E u b i L0 L xs) : W p l e R s m args below meth c H locs cells slots Z (F0 m 353 L []) := by
  obtain ⟨hF, hcs, hX, hi, hN, hu, hH, hS, hL⟩ := G
  exact lawCaseA (ks := [false]) (ix := 127) (im := 131) (x := 108) (y := 202) hF hcs hX hi hN (by decide) (by decide +kernel) (by decide +kernel) (by decide +kernel) (by decide +kernel) (by decide +kernel) (by decide +kernel) (by decide +kernel) (op_end _) hu hH hS hL
theorem lawC2 (hlt : l.stackTraces = false) (G : lawG p l e R s m args below meth c H locs cells slots Z E u b i L0 L xs) : W p l e R s m args below meth c H locs cells slots Z (F0 m 378 L []) := by
  obtain ⟨hF, hcs, hX, hi, hN, hu, hH, hS, hL⟩ := G
  exact lawCaseT (ks := []) (iw := 132) (im := 137) (y := 229) hF hcs hX hi hN (by decide) (by decide +kernel) (by decide +kernel) (by decide +kernel) (by decide +kernel) (w_suburb l hlt E hu) (by decide) (by decide) (List.mem_append_left _ (zWq_in (q := 184) (by decide +kernel))) (List.mem_append_left _ (zWq_in (q := 185) (by decide +kernel))) (List.mem_append_left _ (zWq_in (q := 187) (by decide +kernel))) (List.mem_append_left _ (zWq_in (q := 186) (by decide +kernel))) (by decide +kernel) hH hS hL
theorem lawC3 (hlt : l.stackTraces = false) (G : lawG p l e R s m args below meth c H locs cells slots Z E u b i L0 L xs) : W p l e R s m args below meth c H locs cells slots Z (F0 m 422 L []) := by
  obtain ⟨hF, hcs, hX, hi, hN, hu, hH, hS, hL⟩ := G
  exact lawCaseT (ks := []) (iw := 141) (im := 143) (y := 230) hF hcs hX hi hN (by decide) (by decide +kernel) (by decide +kernel) (by decide +kernel) (by decide +kernel) (w_law l hlt E hu) (by decide) (by decide) (List.mem_append_left _ (zWq_in (q := 525) (by decide +kernel))) (List.mem_append_left _ (zWq_in (q := 526) (by decide +kernel))) (List.mem_append_left _ (zWq_in (q := 527) (by decide +kernel))) (List.mem_append_left _ (zWq_in (q := 186) (by decide +kernel))) (by decide +kernel) hH hS hL
theorem lawC4 (hlt : l.stackTraces = false) (G : lawG p l e R s m args below meth c H locs cells slots Z E u b i L0 L xs) : W p l e R s m args below meth c H locs cells slots Z (F0 m 466 L []) := by
  obtain ⟨hF, hcs, hX, hi, hN, hu, hH, hS, hL⟩ := G
  exact lawCaseA (ks := []) (ix := 144) (im := 147) (x := 111) (y := 212) hF hcs hX hi hN (by decide) (by decide +kernel) (by decide +kernel) (by decide +kernel) (by decide +kernel) (by decide +kernel) (by decide +kernel) (by decide +kernel) (op_fault).ok hu hH hS hL
theorem lawC5 (hlt : l.stackTraces = false) (G : lawG p l e R s m args below meth c H locs cells slots Z E u b i L0 L xs) : W p l e R s m args below meth c H locs cells slots Z (F0 m 479 L []) := by
  obtain ⟨hF, hcs, hX, hi, hN, hu, hH, hS, hL⟩ := G
  exact lawCaseT (ks := [false, false]) (iw := 148) (im := 151) (y := 239) hF hcs hX hi hN (by decide) (by decide +kernel) (by decide +kernel) (by decide +kernel) (by decide +kernel) (w_step l hlt E _ _ hu) (by decide) (by decide) (List.mem_append_left _ (zWq_in (q := 588) (by decide +kernel))) (List.mem_append_left _ (zWq_in (q := 589) (by decide +kernel))) (List.mem_append_left _ (zWq_in (q := 590) (by decide +kernel))) (List.mem_append_left _ (zWq_in (q := 186) (by decide +kernel))) (by decide +kernel) hH hS hL
theorem lawC6 (hlt : l.stackTraces = false) (G : lawG p l e R s m args below meth c H locs cells slots Z E u b i L0 L xs) : W p l e R s m args below meth c H locs cells slots Z (F0 m 547 L []) := by
  obtain ⟨hF, hcs, hX, hi, hN, hu, hH, hS, hL⟩ := G
  exact lawCaseT (ks := [false, false]) (iw := 152) (im := 154) (y := 241) hF hcs hX hi hN (by decide) (by decide +kernel) (by decide +kernel) (by decide +kernel) (by decide +kernel) (w_far l hlt E _ _ hu) (by decide) (by decide) (List.mem_append_left _ (zWq_in (q := 728) (by decide +kernel))) (List.mem_append_left _ (zWq_in (q := 729) (by decide +kernel))) (List.mem_append_left _ (zWq_in (q := 730) (by decide +kernel))) (List.mem_append_left _ (zWq_in (q := 186) (by decide +kernel))) (by decide +kernel) hH hS hL
theorem lawC7 (hlt : l.stackTraces = false) (G : lawG p l e R s m args below meth c H locs cells slots Z E u b i L0 L xs) : W p l e R s m args below meth c H locs cells slots Z (F0 m 615 L []) := by
  obtain ⟨hF, hcs, hX, hi, hN, hu, hH, hS, hL⟩ := G
  exact lawCaseT (ks := [false, false]) (iw := 155) (im := 157) (y := 242) hF hcs hX hi hN (by decide) (by decide +kernel) (by decide +kernel) (by decide +kernel) (by decide +kernel) (w_road l hlt E _ _ hu) (by decide) (by decide) (List.mem_append_left _ (zWq_in (q := 752) (by decide +kernel))) (List.mem_append_left _ (zWq_in (q := 753) (by decide +kernel))) (List.mem_append_left _ (zWq_in (q := 754) (by decide +kernel))) (List.mem_append_left _ (zWq_in (q := 186) (by decide +kernel))) (by decide +kernel) hH hS hL
theorem lawC8 (hlt : l.stackTraces = false) (G : lawG p l e R s m args below meth c H locs cells slots Z E u b i L0 L xs) : W p l e R s m args below meth c H locs cells slots Z (F0 m 683 L []) := by
  obtain ⟨hF, hcs, hX, hi, hN, hu, hH, hS, hL⟩ := G
  exact lawCaseT (ks := [false]) (iw := 158) (im := 161) (y := 244) hF hcs hX hi hN (by decide) (by decide +kernel) (by decide +kernel) (by decide +kernel) (by decide +kernel) (w_round l hlt E _ hu) (by decide) (by decide) (List.mem_append_left _ (zWq_in (q := 767) (by decide +kernel))) (List.mem_append_left _ (zWq_in (q := 768) (by decide +kernel))) (List.mem_append_left _ (zWq_in (q := 769) (by decide +kernel))) (List.mem_append_left _ (zWq_in (q := 186) (by decide +kernel))) (by decide +kernel) hH hS hL
theorem lawC9 (hlt : l.stackTraces = false) (G : lawG p l e R s m args below meth c H locs cells slots Z E u b i L0 L xs) : W p l e R s m args below meth c H locs cells slots Z (F0 m 739 L []) := by
  obtain ⟨hF, hcs, hX, hi, hN, hu, hH, hS, hL⟩ := G
  exact lawCaseT (ks := [false]) (iw := 162) (im := 164) (y := 259) hF hcs hX hi hN (by decide) (by decide +kernel) (by decide +kernel) (by decide +kernel) (by decide +kernel) (w_mornings l hlt E _ hu) (by decide) (by decide) (List.mem_append_left _ (zWq_in (q := 783) (by decide +kernel))) (List.mem_append_left _ (zWq_in (q := 784) (by decide +kernel))) (List.mem_append_left _ (zWq_in (q := 785) (by decide +kernel))) (List.mem_append_left _ (zWq_in (q := 186) (by decide +kernel))) (by decide +kernel) hH hS hL
theorem lawC10 (hlt : l.stackTraces = false) (G : lawG p l e R s m args below meth c H locs cells slots Z E u b i L0 L xs) : W p l e R s m args below meth c H locs cells slots Z (F0 m 795 L []) := by
  obtain ⟨hF, hcs, hX, hi, hN, hu, hH, hS, hL⟩ := G
  exact lawCaseT (ks := [false, false]) (iw := 165) (im := 167) (y := 260) hF hcs hX hi hN (by decide) (by decide +kernel) (by decide +kernel) (by decide +kernel) (by decide +kernel) (w_pay l hlt E _ _ hu) (by decide) (by decide) (List.mem_append_left _ (zWq_in (q := 956) (by decide +kernel))) (List.mem_append_left _ (zWq_in (q := 957) (by decide +kernel))) (List.mem_append_left _ (zWq_in (q := 958) (by decide +kernel))) (List.mem_append_left _ (zWq_in (q := 186) (by decide +kernel))) (by decide +kernel) hH hS hL
theorem lawC11 (hlt : l.stackTraces = false) (G : lawG p l e R s m args below meth c H locs cells slots Z E u b i L0 L xs) : W p l e R s m args below meth c H locs cells slots Z (F0 m 863 L []) := by
  obtain ⟨hF, hcs, hX, hi, hN, hu, hH, hS, hL⟩ := G
  exact lawCaseT (ks := [false, false]) (iw := 168) (im := 170) (y := 262) hF hcs hX hi hN (by decide) (by decide +kernel) (by decide +kernel) (by decide +kernel) (by decide +kernel) (w_note l hlt E _ _ hu) (by decide) (by decide) (List.mem_append_left _ (zWq_in (q := 968) (by decide +kernel))) (List.mem_append_left _ (zWq_in (q := 969) (by decide +kernel))) (List.mem_append_left _ (zWq_in (q := 970) (by decide +kernel))) (List.mem_append_left _ (zWq_in (q := 186) (by decide +kernel))) (by decide +kernel) hH hS hL
theorem lawC12 (hlt : l.stackTraces = false) (G : lawG p l e R s m args below meth c H locs cells slots Z E u b i L0 L xs) : W p l e R s m args below meth c H locs cells slots Z (F0 m 931 L []) := by
  obtain ⟨hF, hcs, hX, hi, hN, hu, hH, hS, hL⟩ := G
  exact lawCaseT (ks := [false, false]) (iw := 171) (im := 173) (y := 263) hF hcs hX hi hN (by decide) (by decide +kernel) (by decide +kernel) (by decide +kernel) (by decide +kernel) (w_kind l hlt E _ _ hu) (by decide) (by decide) (List.mem_append_left _ (zWq_in (q := 990) (by decide +kernel))) (List.mem_append_left _ (zWq_in (q := 991) (by decide +kernel))) (List.mem_append_left _ (zWq_in (q := 992) (by decide +kernel))) (List.mem_append_left _ (zWq_in (q := 186) (by decide +kernel))) (by decide +kernel) hH hS hL
theorem lawC13 (hlt : l.stackTraces = false) (G : lawG p l e R s m args below meth c H locs cells slots Z E u b i L0 L xs) : W p l e R s m args below meth c H locs cells slots Z (F0 m 999 L []) := by
  obtain ⟨hF, hcs, hX, hi, hN, hu, hH, hS, hL⟩ := G
  exact lawCaseT (ks := [false, false]) (iw := 174) (im := 176) (y := 265) hF hcs hX hi hN (by decide) (by decide +kernel) (by decide +kernel) (by decide +kernel) (by decide +kernel) (w_change l hlt E _ _ hu) (by decide) (by decide) (List.mem_append_left _ (zWq_in (q := 1004) (by decide +kernel))) (List.mem_append_left _ (zWq_in (q := 1005) (by decide +kernel))) (List.mem_append_left _ (zWq_in (q := 1006) (by decide +kernel))) (List.mem_append_left _ (zWq_in (q := 186) (by decide +kernel))) (by decide +kernel) hH hS hL
theorem lawC14 (hlt : l.stackTraces = false) (G : lawG p l e R s m args below meth c H locs cells slots Z E u b i L0 L xs) : W p l e R s m args below meth c H locs cells slots Z (F0 m 1067 L []) := by
  obtain ⟨hF, hcs, hX, hi, hN, hu, hH, hS, hL⟩ := G
  exact lawCaseT (ks := [false]) (iw := 177) (im := 179) (y := 266) hF hcs hX hi hN (by decide) (by decide +kernel) (by decide +kernel) (by decide +kernel) (by decide +kernel) (w_charge l hlt E _ hu) (by decide) (by decide) (List.mem_append_left _ (zWq_in (q := 1026) (by decide +kernel))) (List.mem_append_left _ (zWq_in (q := 1027) (by decide +kernel))) (List.mem_append_left _ (zWq_in (q := 1028) (by decide +kernel))) (List.mem_append_left _ (zWq_in (q := 186) (by decide +kernel))) (by decide +kernel) hH hS hL
theorem lawC15 (hlt : l.stackTraces = false) (G : lawG p l e R s m args below meth c H locs cells slots Z E u b i L0 L xs) : W p l e R s m args below meth c H locs cells slots Z (F0 m 1123 L []) := by
  obtain ⟨hF, hcs, hX, hi, hN, hu, hH, hS, hL⟩ := G
  exact lawCaseT (ks := [false]) (iw := 180) (im := 182) (y := 267) hF hcs hX hi hN (by decide) (by decide +kernel) (by decide +kernel) (by decide +kernel) (by decide +kernel) (w_crates l hlt E _ hu) (by decide) (by decide) (List.mem_append_left _ (zWq_in (q := 1038) (by decide +kernel))) (List.mem_append_left _ (zWq_in (q := 1039) (by decide +kernel))) (List.mem_append_left _ (zWq_in (q := 1040) (by decide +kernel))) (List.mem_append_left _ (zWq_in (q := 186) (by decide +kernel))) (by decide +kernel) hH hS hL
theorem lawC16 (hlt : l.stackTraces = false) (G : lawG p l e R s m args below meth c H locs cells slots Z E u b i L0 L xs) : W p l e R s m args below meth c H locs cells slots Z (F0 m 1179 L []) := by
  obtain ⟨hF, hcs, hX, hi, hN, hu, hH, hS, hL⟩ := G
  exact lawCaseT (ks := [false, false]) (iw := 183) (im := 185) (y := 268) hF hcs hX hi hN (by decide) (by decide +kernel) (by decide +kernel) (by decide +kernel) (by decide +kernel) (w_lend l hlt E _ _ hu) (by decide) (by decide) (List.mem_append_left _ (zWq_in (q := 1050) (by decide +kernel))) (List.mem_append_left _ (zWq_in (q := 1051) (by decide +kernel))) (List.mem_append_left _ (zWq_in (q := 1052) (by decide +kernel))) (List.mem_append_left _ (zWq_in (q := 186) (by decide +kernel))) (by decide +kernel) hH hS hL
theorem lawC17 (hlt : l.stackTraces = false) (G : lawG p l e R s m args below meth c H locs cells slots Z E u b i L0 L xs) : W p l e R s m args below meth c H locs cells slots Z (F0 m 1247 L []) := by
  obtain ⟨hF, hcs, hX, hi, hN, hu, hH, hS, hL⟩ := G
  exact lawCaseA (ks := []) (ix := 186) (im := 189) (x := 124) (y := 269) hF hcs hX hi hN (by decide) (by decide +kernel) (by decide +kernel) (by decide +kernel) (by decide +kernel) (by decide +kernel) (by decide +kernel) (by decide +kernel) (op_leaves).ok hu hH hS hL
theorem lawC18 (hlt : l.stackTraces = false) (G : lawG p l e R s m args below meth c H locs cells slots Z E u b i L0 L xs) : W p l e R s m args below meth c H locs cells slots Z (F0 m 1260 L []) := by
  obtain ⟨hF, hcs, hX, hi, hN, hu, hH, hS, hL⟩ := G
  exact lawCaseA (ks := []) (ix := 190) (im := 193) (x := 125) (y := 270) hF hcs hX hi hN (by decide) (by decide +kernel) (by decide +kernel) (by decide +kernel) (by decide +kernel) (by decide +kernel) (by decide +kernel) (by decide +kernel) (op_passed).ok hu hH hS hL
theorem lawC19 (hlt : l.stackTraces = false) (G : lawG p l e R s m args below meth c H locs cells slots Z E u b i L0 L xs) : W p l e R s m args below meth c H locs cells slots Z (F0 m 1273 L []) := by
  obtain ⟨hF, hcs, hX, hi, hN, hu, hH, hS, hL⟩ := G
  exact lawCaseA (ks := []) (ix := 194) (im := 197) (x := 126) (y := 271) hF hcs hX hi hN (by decide) (by decide +kernel) (by decide +kernel) (by decide +kernel) (by decide +kernel) (by decide +kernel) (by decide +kernel) (by decide +kernel) (op_home).ok hu hH hS hL
theorem lawC20 (hlt : l.stackTraces = false) (G : lawG p l e R s m args below meth c H locs cells slots Z E u b i L0 L xs) : W p l e R s m args below meth c H locs cells slots Z (F0 m 1286 L []) := by
  obtain ⟨hF, hcs, hX, hi, hN, hu, hH, hS, hL⟩ := G
  exact lawCaseA (ks := []) (ix := 198) (im := 201) (x := 127) (y := 273) hF hcs hX hi hN (by decide) (by decide +kernel) (by decide +kernel) (by decide +kernel) (by decide +kernel) (by decide +kernel) (by decide +kernel) (by decide +kernel) (op_way).ok hu hH hS hL
theorem lawC21 (hlt : l.stackTraces = false) (G : lawG p l e R s m args below meth c H locs cells slots Z E u b i L0 L xs) : W p l e R s m args below meth c H locs cells slots Z (F0 m 1299 L []) := by
  obtain ⟨hF, hcs, hX, hi, hN, hu, hH, hS, hL⟩ := G
  exact lawCaseA (ks := [false]) (ix := 202) (im := 205) (x := 128) (y := 278) hF hcs hX hi hN (by decide) (by decide +kernel) (by decide +kernel) (by decide +kernel) (by decide +kernel) (by decide +kernel) (by decide +kernel) (by decide +kernel) (op_shortest _) hu hH hS hL
theorem lawC22 (hlt : l.stackTraces = false) (G : lawG p l e R s m args below meth c H locs cells slots Z E u b i L0 L xs) : W p l e R s m args below meth c H locs cells slots Z (F0 m 1324 L []) := by
  obtain ⟨hF, hcs, hX, hi, hN, hu, hH, hS, hL⟩ := G
  exact lawCaseA (ks := []) (ix := 206) (im := 209) (x := 129) (y := 279) hF hcs hX hi hN (by decide) (by decide +kernel) (by decide +kernel) (by decide +kernel) (by decide +kernel) (by decide +kernel) (by decide +kernel) (by decide +kernel) (op_most) hu hH hS hL
theorem lawC23 (hlt : l.stackTraces = false) (G : lawG p l e R s m args below meth c H locs cells slots Z E u b i L0 L xs) : W p l e R s m args below meth c H locs cells slots Z (F0 m 1337 L []) := by
  obtain ⟨hF, hcs, hX, hi, hN, hu, hH, hS, hL⟩ := G
  exact lawCaseA (ks := []) (ix := 210) (im := 213) (x := 130) (y := 280) hF hcs hX hi hN (by decide) (by decide +kernel) (by decide +kernel) (by decide +kernel) (by decide +kernel) (by decide +kernel) (by decide +kernel) (by decide +kernel) (op_least).ok hu hH hS hL
theorem lawC24 (hlt : l.stackTraces = false) (G : lawG p l e R s m args below meth c H locs cells slots Z E u b i L0 L xs) : W p l e R s m args below meth c H locs cells slots Z (F0 m 1350 L []) := by
  obtain ⟨hF, hcs, hX, hi, hN, hu, hH, hS, hL⟩ := G
  exact lawCaseA (ks := []) (ix := 214) (im := 217) (x := 131) (y := 283) hF hcs hX hi hN (by decide) (by decide +kernel) (by decide +kernel) (by decide +kernel) (by decide +kernel) (by decide +kernel) (by decide +kernel) (by decide +kernel) (op_dairy).ok hu hH hS hL
theorem lawC25 (hlt : l.stackTraces = false) (G : lawG p l e R s m args below meth c H locs cells slots Z E u b i L0 L xs) : W p l e R s m args below meth c H locs cells slots Z (F0 m 1363 L []) := by
  obtain ⟨hF, hcs, hX, hi, hN, hu, hH, hS, hL⟩ := G
  exact lawCaseA (ks := []) (ix := 218) (im := 221) (x := 132) (y := 286) hF hcs hX hi hN (by decide) (by decide +kernel) (by decide +kernel) (by decide +kernel) (by decide +kernel) (by decide +kernel) (by decide +kernel) (by decide +kernel) (op_bridges).ok hu hH hS hL
theorem lawC26 (hlt : l.stackTraces = false) (G : lawG p l e R s m args below meth c H locs cells slots Z E u b i L0 L xs) : W p l e R s m args below meth c H locs cells slots Z (F0 m 1376 L []) := by
  obtain ⟨hF, hcs, hX, hi, hN, hu, hH, hS, hL⟩ := G
  exact lawCaseT (ks := [false]) (iw := 222) (im := 224) (y := 287) hF hcs hX hi hN (by decide) (by decide +kernel) (by decide +kernel) (by decide +kernel) (by decide +kernel) (w_cut l hlt E _ hu) (by decide) (by decide) (List.mem_append_left _ (zWq_in (q := 1251) (by decide +kernel))) (List.mem_append_left _ (zWq_in (q := 1252) (by decide +kernel))) (List.mem_append_left _ (zWq_in (q := 1253) (by decide +kernel))) (List.mem_append_left _ (zWq_in (q := 186) (by decide +kernel))) (by decide +kernel) hH hS hL
theorem lawC27 (hlt : l.stackTraces = false) (G : lawG p l e R s m args below meth c H locs cells slots Z E u b i L0 L xs) : W p l e R s m args below meth c H locs cells slots Z (F0 m 1432 L []) := by
  obtain ⟨hF, hcs, hX, hi, hN, hu, hH, hS, hL⟩ := G
  exact lawCaseA (ks := [true]) (ix := 225) (im := 228) (x := 134) (y := 290) hF hcs hX hi hN (by decide) (by decide +kernel) (by decide +kernel) (by decide +kernel) (by decide +kernel) (by decide +kernel) (by decide +kernel) (by decide +kernel) (op_dries _).ok hu hH hS hL
theorem lawC28 (hlt : l.stackTraces = false) (G : lawG p l e R s m args below meth c H locs cells slots Z E u b i L0 L xs) : W p l e R s m args below meth c H locs cells slots Z (F0 m 1473 L []) := by
  obtain ⟨hF, hcs, hX, hi, hN, hu, hH, hS, hL⟩ := G
  exact lawCaseT (ks := [false]) (iw := 229) (im := 231) (y := 291) hF hcs hX hi hN (by decide) (by decide +kernel) (by decide +kernel) (by decide +kernel) (by decide +kernel) (w_owes l hlt E _ hu) (by decide) (by decide) (List.mem_append_left _ (zWq_in (q := 1292) (by decide +kernel))) (List.mem_append_left _ (zWq_in (q := 1293) (by decide +kernel))) (List.mem_append_left _ (zWq_in (q := 1294) (by decide +kernel))) (List.mem_append_left _ (zWq_in (q := 186) (by decide +kernel))) (by decide +kernel) hH hS hL
theorem lawC29 (hlt : l.stackTraces = false) (G : lawG p l e R s m args below meth c H locs cells slots Z E u b i L0 L xs) : W p l e R s m args below meth c H locs cells slots Z (F0 m 1529 L []) := by
  obtain ⟨hF, hcs, hX, hi, hN, hu, hH, hS, hL⟩ := G
  exact lawCaseT (ks := [false, false]) (iw := 232) (im := 234) (y := 292) hF hcs hX hi hN (by decide) (by decide +kernel) (by decide +kernel) (by decide +kernel) (by decide +kernel) (w_pays l hlt E _ _ hu) (by decide) (by decide) (List.mem_append_left _ (zWq_in (q := 1304) (by decide +kernel))) (List.mem_append_left _ (zWq_in (q := 1305) (by decide +kernel))) (List.mem_append_left _ (zWq_in (q := 1306) (by decide +kernel))) (List.mem_append_left _ (zWq_in (q := 186) (by decide +kernel))) (by decide +kernel) hH hS hL
theorem lawC30 (hlt : l.stackTraces = false) (G : lawG p l e R s m args below meth c H locs cells slots Z E u b i L0 L xs) : W p l e R s m args below meth c H locs cells slots Z (F0 m 1597 L []) := by
  obtain ⟨hF, hcs, hX, hi, hN, hu, hH, hS, hL⟩ := G
  exact lawCaseT (ks := [false]) (iw := 235) (im := 237) (y := 294) hF hcs hX hi hN (by decide) (by decide +kernel) (by decide +kernel) (by decide +kernel) (by decide +kernel) (w_holds l hlt E _ hu) (by decide) (by decide) (List.mem_append_left _ (zWq_in (q := 1322) (by decide +kernel))) (List.mem_append_left _ (zWq_in (q := 1323) (by decide +kernel))) (List.mem_append_left _ (zWq_in (q := 1324) (by decide +kernel))) (List.mem_append_left _ (zWq_in (q := 186) (by decide +kernel))) (by decide +kernel) hH hS hL
theorem lawC31 (hlt : l.stackTraces = false) (G : lawG p l e R s m args below meth c H locs cells slots Z E u b i L0 L xs) : W p l e R s m args below meth c H locs cells slots Z (F0 m 1653 L []) := by
  obtain ⟨hF, hcs, hX, hi, hN, hu, hH, hS, hL⟩ := G
  exact lawCaseT (ks := [true]) (iw := 238) (im := 241) (y := 299) hF hcs hX hi hN (by decide) (by decide +kernel) (by decide +kernel) (by decide +kernel) (by decide +kernel) (w_seen l hlt E _ hu) (by decide) (by decide) (List.mem_append_left _ (zWq_in (q := 1342) (by decide +kernel))) (List.mem_append_left _ (zWq_in (q := 1343) (by decide +kernel))) (List.mem_append_left _ (zWq_in (q := 1344) (by decide +kernel))) (List.mem_append_left _ (zWq_in (q := 186) (by decide +kernel))) (by decide +kernel) hH hS hL
theorem lawC32 (hlt : l.stackTraces = false) (G : lawG p l e R s m args below meth c H locs cells slots Z E u b i L0 L xs) : W p l e R s m args below meth c H locs cells slots Z (F0 m 1725 L []) := by
  obtain ⟨hF, hcs, hX, hi, hN, hu, hH, hS, hL⟩ := G
  exact lawCaseT (ks := []) (iw := 242) (im := 244) (y := 300) hF hcs hX hi hN (by decide) (by decide +kernel) (by decide +kernel) (by decide +kernel) (by decide +kernel) (w_ask l hlt E hu) (by decide) (by decide) (List.mem_append_left _ (zWq_in (q := 1392) (by decide +kernel))) (List.mem_append_left _ (zWq_in (q := 1393) (by decide +kernel))) (List.mem_append_left _ (zWq_in (q := 1394) (by decide +kernel))) (List.mem_append_left _ (zWq_in (q := 186) (by decide +kernel))) (by decide +kernel) hH hS hL
theorem lawC33 (hlt : l.stackTraces = false) (G : lawG p l e R s m args below meth c H locs cells slots Z E u b i L0 L xs) : W p l e R s m args below meth c H locs cells slots Z (F0 m 1769 L []) := by
  obtain ⟨hF, hcs, hX, hi, hN, hu, hH, hS, hL⟩ := G
  exact lawCaseA (ks := [true]) (ix := 245) (im := 248) (x := 143) (y := 305) hF hcs hX hi hN (by decide) (by decide +kernel) (by decide +kernel) (by decide +kernel) (by decide +kernel) (by decide +kernel) (by decide +kernel) (by decide +kernel) (op_neighbours _) hu hH hS hL
theorem lawC34 (hlt : l.stackTraces = false) (G : lawG p l e R s m args below meth c H locs cells slots Z E u b i L0 L xs) : W p l e R s m args below meth c H locs cells slots Z (F0 m 1810 L []) := by
  obtain ⟨hF, hcs, hX, hi, hN, hu, hH, hS, hL⟩ := G
  exact lawCaseT (ks := [false]) (iw := 249) (im := 251) (y := 306) hF hcs hX hi hN (by decide) (by decide +kernel) (by decide +kernel) (by decide +kernel) (by decide +kernel) (w_neighbour l hlt E _ hu) (by decide) (by decide) (List.mem_append_left _ (zWq_in (q := 1455) (by decide +kernel))) (List.mem_append_left _ (zWq_in (q := 1456) (by decide +kernel))) (List.mem_append_left _ (zWq_in (q := 1457) (by decide +kernel))) (List.mem_append_left _ (zWq_in (q := 186) (by decide +kernel))) (by decide +kernel) hH hS hL
theorem lawC35 (hlt : l.stackTraces = false) (G : lawG p l e R s m args below meth c H locs cells slots Z E u b i L0 L xs) : W p l e R s m args below meth c H locs cells slots Z (F0 m 1866 L []) := by
  obtain ⟨hF, hcs, hX, hi, hN, hu, hH, hS, hL⟩ := G
  exact lawCaseT (ks := [false, false]) (iw := 252) (im := 254) (y := 307) hF hcs hX hi hN (by decide) (by decide +kernel) (by decide +kernel) (by decide +kernel) (by decide +kernel) (w_gutter l hlt E _ _ hu) (by decide) (by decide) (List.mem_append_left _ (zWq_in (q := 1478) (by decide +kernel))) (List.mem_append_left _ (zWq_in (q := 1479) (by decide +kernel))) (List.mem_append_left _ (zWq_in (q := 1480) (by decide +kernel))) (List.mem_append_left _ (zWq_in (q := 186) (by decide +kernel))) (by decide +kernel) hH hS hL
theorem lawC36 (hlt : l.stackTraces = false) (G : lawG p l e R s m args below meth c H locs cells slots Z E u b i L0 L xs) : W p l e R s m args below meth c H locs cells slots Z (F0 m 1934 L []) := by
  obtain ⟨hF, hcs, hX, hi, hN, hu, hH, hS, hL⟩ := G
  exact lawCaseT (ks := [false, false]) (iw := 255) (im := 257) (y := 309) hF hcs hX hi hN (by decide) (by decide +kernel) (by decide +kernel) (by decide +kernel) (by decide +kernel) (w_rests l hlt E _ _ hu) (by decide) (by decide) (List.mem_append_left _ (zWq_in (q := 1494) (by decide +kernel))) (List.mem_append_left _ (zWq_in (q := 1495) (by decide +kernel))) (List.mem_append_left _ (zWq_in (q := 1496) (by decide +kernel))) (List.mem_append_left _ (zWq_in (q := 186) (by decide +kernel))) (by decide +kernel) hH hS hL
theorem lawC37 (hlt : l.stackTraces = false) (G : lawG p l e R s m args below meth c H locs cells slots Z E u b i L0 L xs) : W p l e R s m args below meth c H locs cells slots Z (F0 m 2002 L []) := by
  obtain ⟨hF, hcs, hX, hi, hN, hu, hH, hS, hL⟩ := G
  exact lawCaseA (ks := []) (ix := 258) (im := 261) (x := 147) (y := 281) hF hcs hX hi hN (by decide) (by decide +kernel) (by decide +kernel) (by decide +kernel) (by decide +kernel) (by decide +kernel) (by decide +kernel) (by decide +kernel) (op_cross).ok hu hH hS hL
theorem lawC38 (hlt : l.stackTraces = false) (G : lawG p l e R s m args below meth c H locs cells slots Z E u b i L0 L xs) : W p l e R s m args below meth c H locs cells slots Z (F0 m 2015 L []) := by
  obtain ⟨hF, hcs, hX, hi, hN, hu, hH, hS, hL⟩ := G
  exact lawCaseA (ks := []) (ix := 262) (im := 265) (x := 148) (y := 282) hF hcs hX hi hN (by decide) (by decide +kernel) (by decide +kernel) (by decide +kernel) (by decide +kernel) (by decide +kernel) (by decide +kernel) (by decide +kernel) (op_swap).ok hu hH hS hL
theorem lawC39 (hlt : l.stackTraces = false) (G : lawG p l e R s m args below meth c H locs cells slots Z E u b i L0 L xs) : W p l e R s m args below meth c H locs cells slots Z (F0 m 2028 L []) := by
  obtain ⟨hF, hcs, hX, hi, hN, hu, hH, hS, hL⟩ := G
  exact lawCaseT (ks := [false]) (iw := 266) (im := 268) (y := 311) hF hcs hX hi hN (by decide) (by decide +kernel) (by decide +kernel) (by decide +kernel) (by decide +kernel) (w_foil l hlt E _ hu) (by decide) (by decide) (List.mem_append_left _ (zWq_in (q := 1529) (by decide +kernel))) (List.mem_append_left _ (zWq_in (q := 1530) (by decide +kernel))) (List.mem_append_left _ (zWq_in (q := 1531) (by decide +kernel))) (List.mem_append_left _ (zWq_in (q := 186) (by decide +kernel))) (by decide +kernel) hH hS hL
theorem lawC40 (hlt : l.stackTraces = false) (G : lawG p l e R s m args below meth c H locs cells slots Z E u b i L0 L xs) : W p l e R s m args below meth c H locs cells slots Z (F0 m 2084 L []) := by
  obtain ⟨hF, hcs, hX, hi, hN, hu, hH, hS, hL⟩ := G
  exact lawCaseA (ks := []) (ix := 269) (im := 272) (x := 150) (y := 312) hF hcs hX hi hN (by decide) (by decide +kernel) (by decide +kernel) (by decide +kernel) (by decide +kernel) (by decide +kernel) (by decide +kernel) (by decide +kernel) (op_dogs).ok hu hH hS hL
theorem lawC41 (hlt : l.stackTraces = false) (G : lawG p l e R s m args below meth c H locs cells slots Z E u b i L0 L xs) : W p l e R s m args below meth c H locs cells slots Z (F0 m 2097 L []) := by
  obtain ⟨hF, hcs, hX, hi, hN, hu, hH, hS, hL⟩ := G
  exact lawCaseT (ks := [false]) (iw := 273) (im := 275) (y := 313) hF hcs hX hi hN (by decide) (by decide +kernel) (by decide +kernel) (by decide +kernel) (by decide +kernel) (w_noted l hlt E _ hu) (by decide) (by decide) (List.mem_append_left _ (zWq_in (q := 1556) (by decide +kernel))) (List.mem_append_left _ (zWq_in (q := 1557) (by decide +kernel))) (List.mem_append_left _ (zWq_in (q := 1558) (by decide +kernel))) (List.mem_append_left _ (zWq_in (q := 186) (by decide +kernel))) (by decide +kernel) hH hS hL
theorem lawC42 (hlt : l.stackTraces = false) (G : lawG p l e R s m args below meth c H locs cells slots Z E u b i L0 L xs) : W p l e R s m args below meth c H locs cells slots Z (F0 m 2153 L []) := by
  obtain ⟨hF, hcs, hX, hi, hN, hu, hH, hS, hL⟩ := G
  exact lawCaseA (ks := []) (ix := 276) (im := 279) (x := 152) (y := 315) hF hcs hX hi hN (by decide) (by decide +kernel) (by decide +kernel) (by decide +kernel) (by decide +kernel) (by decide +kernel) (by decide +kernel) (by decide +kernel) (op_thirsty).ok hu hH hS hL
theorem lawC43 (hlt : l.stackTraces = false) (G : lawG p l e R s m args below meth c H locs cells slots Z E u b i L0 L xs) : W p l e R s m args below meth c H locs cells slots Z (F0 m 2166 L []) := by
  obtain ⟨hF, hcs, hX, hi, hN, hu, hH, hS, hL⟩ := G
  exact lawCaseA (ks := []) (ix := 280) (im := 283) (x := 153) (y := 316) hF hcs hX hi hN (by decide) (by decide +kernel) (by decide +kernel) (by decide +kernel) (by decide +kernel) (by decide +kernel) (by decide +kernel) (by decide +kernel) (op_rich).ok hu hH hS hL
theorem lawC44 (hlt : l.stackTraces = false) (G : lawG p l e R s m args below meth c H locs cells slots Z E u b i L0 L xs) : W p l e R s m args below meth c H locs cells slots Z (F0 m 2179 L []) := by
  obtain ⟨hF, hcs, hX, hi, hN, hu, hH, hS, hL⟩ := G
  exact lawCaseT (ks := [false, false]) (iw := 284) (im := 286) (y := 317) hF hcs hX hi hN (by decide) (by decide +kernel) (by decide +kernel) (by decide +kernel) (by decide +kernel) (w_odds l hlt E _ _ hu) (by decide) (by decide) (List.mem_append_left _ (zWq_in (q := 1591) (by decide +kernel))) (List.mem_append_left _ (zWq_in (q := 1592) (by decide +kernel))) (List.mem_append_left _ (zWq_in (q := 1593) (by decide +kernel))) (List.mem_append_left _ (zWq_in (q := 186) (by decide +kernel))) (by decide +kernel) hH hS hL
theorem lawC45 (hlt : l.stackTraces = false) (G : lawG p l e R s m args below meth c H locs cells slots Z E u b i L0 L xs) : W p l e R s m args below meth c H locs cells slots Z (F0 m 2247 L []) := by
  obtain ⟨hF, hcs, hX, hi, hN, hu, hH, hS, hL⟩ := G
  exact lawCaseA (ks := []) (ix := 287) (im := 290) (x := 155) (y := 318) hF hcs hX hi hN (by decide) (by decide +kernel) (by decide +kernel) (by decide +kernel) (by decide +kernel) (by decide +kernel) (by decide +kernel) (by decide +kernel) (op_twins).ok hu hH hS hL
theorem lawC46 (hlt : l.stackTraces = false) (G : lawG p l e R s m args below meth c H locs cells slots Z E u b i L0 L xs) : W p l e R s m args below meth c H locs cells slots Z (F0 m 2260 L []) := by
  obtain ⟨hF, hcs, hX, hi, hN, hu, hH, hS, hL⟩ := G
  exact lawCaseT (ks := [false, false, false]) (iw := 291) (im := 294) (y := 295) hF hcs hX hi hN (by decide) (by decide +kernel) (by decide +kernel) (by decide +kernel) (by decide +kernel) (w_ahead l hlt E _ _ _ hu) (by decide) (by decide) (List.mem_append_left _ (zWq_in (q := 1614) (by decide +kernel))) (List.mem_append_left _ (zWq_in (q := 1615) (by decide +kernel))) (List.mem_append_left _ (zWq_in (q := 1616) (by decide +kernel))) (List.mem_append_left _ (zWq_in (q := 186) (by decide +kernel))) (by decide +kernel) hH hS hL
theorem lawC47 (hlt : l.stackTraces = false) (G : lawG p l e R s m args below meth c H locs cells slots Z E u b i L0 L xs) : W p l e R s m args below meth c H locs cells slots Z (F0 m 2340 L []) := by
  obtain ⟨hF, hcs, hX, hi, hN, hu, hH, hS, hL⟩ := G
  exact lawCaseT (ks := [false, true]) (iw := 295) (im := 298) (y := 319) hF hcs hX hi hN (by decide) (by decide +kernel) (by decide +kernel) (by decide +kernel) (by decide +kernel) (w_trial l hlt E _ _ hu) (by decide) (by decide) (List.mem_append_left _ (zWq_in (q := 1625) (by decide +kernel))) (List.mem_append_left _ (zWq_in (q := 1626) (by decide +kernel))) (List.mem_append_left _ (zWq_in (q := 1627) (by decide +kernel))) (List.mem_append_left _ (zWq_in (q := 186) (by decide +kernel))) (by decide +kernel) hH hS hL
theorem lawC48 (hlt : l.stackTraces = false) (G : lawG p l e R s m args below meth c H locs cells slots Z E u b i L0 L xs) : W p l e R s m args below meth c H locs cells slots Z (F0 m 2424 L []) := by
  obtain ⟨hF, hcs, hX, hi, hN, hu, hH, hS, hL⟩ := G
  exact lawCaseT (ks := [false, true]) (iw := 299) (im := 301) (y := 320) hF hcs hX hi hN (by decide) (by decide +kernel) (by decide +kernel) (by decide +kernel) (by decide +kernel) (w_span l hlt E _ _ hu) (by decide) (by decide) (List.mem_append_left _ (zWq_in (q := 1645) (by decide +kernel))) (List.mem_append_left _ (zWq_in (q := 1646) (by decide +kernel))) (List.mem_append_left _ (zWq_in (q := 1647) (by decide +kernel))) (List.mem_append_left _ (zWq_in (q := 186) (by decide +kernel))) (by decide +kernel) hH hS hL
theorem lawC49 (hlt : l.stackTraces = false) (G : lawG p l e R s m args below meth c H locs cells slots Z E u b i L0 L xs) : W p l e R s m args below meth c H locs cells slots Z (F0 m 2508 L []) := by
  obtain ⟨hF, hcs, hX, hi, hN, hu, hH, hS, hL⟩ := G
  exact lawCaseT (ks := [false, true]) (iw := 302) (im := 304) (y := 322) hF hcs hX hi hN (by decide) (by decide +kernel) (by decide +kernel) (by decide +kernel) (by decide +kernel) (w_led l hlt E _ _ hu) (by decide) (by decide) (List.mem_append_left _ (zWq_in (q := 1657) (by decide +kernel))) (List.mem_append_left _ (zWq_in (q := 1658) (by decide +kernel))) (List.mem_append_left _ (zWq_in (q := 1659) (by decide +kernel))) (List.mem_append_left _ (zWq_in (q := 186) (by decide +kernel))) (by decide +kernel) hH hS hL
theorem lawC50 (hlt : l.stackTraces = false) (G : lawG p l e R s m args below meth c H locs cells slots Z E u b i L0 L xs) : W p l e R s m args below meth c H locs cells slots Z (F0 m 2592 L []) := by
  obtain ⟨hF, hcs, hX, hi, hN, hu, hH, hS, hL⟩ := G
  exact lawCaseT (ks := [false, false]) (iw := 305) (im := 307) (y := 323) hF hcs hX hi hN (by decide) (by decide +kernel) (by decide +kernel) (by decide +kernel) (by decide +kernel) (w_log l hlt E _ _ hu) (by decide) (by decide) (List.mem_append_left _ (zWq_in (q := 1685) (by decide +kernel))) (List.mem_append_left _ (zWq_in (q := 1686) (by decide +kernel))) (List.mem_append_left _ (zWq_in (q := 1687) (by decide +kernel))) (List.mem_append_left _ (zWq_in (q := 186) (by decide +kernel))) (by decide +kernel) hH hS hL
theorem lawC51 (hlt : l.stackTraces = false) (G : lawG p l e R s m args below meth c H locs cells slots Z E u b i L0 L xs) : W p l e R s m args below meth c H locs cells slots Z (F0 m 2660 L []) := by
  obtain ⟨hF, hcs, hX, hi, hN, hu, hH, hS, hL⟩ := G
  exact lawCaseA (ks := [false]) (ix := 308) (im := 311) (x := 158) (y := 324) hF hcs hX hi hN (by decide) (by decide +kernel) (by decide +kernel) (by decide +kernel) (by decide +kernel) (by decide +kernel) (by decide +kernel) (by decide +kernel) (op_seed _) hu hH hS hL
theorem lawC52 (hlt : l.stackTraces = false) (G : lawG p l e R s m args below meth c H locs cells slots Z E u b i L0 L xs) : W p l e R s m args below meth c H locs cells slots Z (F0 m 2685 L []) := by
  obtain ⟨hF, hcs, hX, hi, hN, hu, hH, hS, hL⟩ := G
  exact lawCaseA (ks := []) (ix := 312) (im := 316) (x := 159) (y := 186) hF hcs hX hi hN (by decide) (by decide +kernel) (by decide +kernel) (by decide +kernel) (by decide +kernel) (by decide +kernel) (by decide +kernel) (by decide +kernel) (op_undo) hu hH hS hL
theorem lawC53 (hlt : l.stackTraces = false) (G : lawG p l e R s m args below meth c H locs cells slots Z E u b i L0 L xs) : W p l e R s m args below meth c H locs cells slots Z (F0 m 2698 L []) := by
  obtain ⟨hF, hcs, hX, hi, hN, hu, hH, hS, hL⟩ := G
  have hF0 := hF
  obtain ⟨hx, hb, -⟩ := hF0
  refine lv_aload_n (i := 1) hx hb (show decode cLL 2698 = .ok (.aload_n 1, 1) by decide +kernel) rfl (hL.2.2 (1, .ref (zAd E 0)) (by simp [lawB])) ?_
  refine lcX (y := 160) (as := []) (r := []) hF ⟨by omega, by omega⟩ (by decide +kernel) (op_imageV u hu) (by decide +kernel) (by decide) rfl hH hS hL.1 (show decode cLL 2699 = .ok (.invokevirtual 317, 3) by decide +kernel) (fun v u1 H1 locs1 hz hq _ hH1 hS1 => ?_)
  obtain ⟨rfl, hq⟩ := hq
  refine lv_aload_n (i := 2) hx hb (show decode cLL 2702 = .ok (.aload_n 2, 1) by decide +kernel) rfl (hL.2.2 (2, .ref (zAd E 128)) (by simp [lawB])) ?_
  refine lcM (y := 183) (as := []) (r := []) hF ⟨by omega, by omega⟩ (by decide +kernel) hq (by decide +kernel) (by decide) (by rfl) rfl hH1 hS1 hL.1 (show decode cLL 2703 = .ok (.invokevirtual 320, 3) by decide +kernel) (fun v2 u2 H2 locs2 hz2 hq2 _ hH2 hS2 => ?_)
  obtain ⟨rfl, hI⟩ := hq2
  refine lv_goto (tgt := 2747) hx hb (show decode cLL 2706 = .ok (.goto 41, 3) by decide +kernel) (by decide) ?_
  exact W.widen (Nat.le_succ _) (Nat.le_add_right _ 6) (hN u2 H2 locs2 L hI hH2 hS2 hL)
theorem lawC54 (hlt : l.stackTraces = false) (G : lawG p l e R s m args below meth c H locs cells slots Z E u b i L0 L xs) : W p l e R s m args below meth c H locs cells slots Z (F0 m 2709 L []) := by
  obtain ⟨hF, hcs, hX, hi, hN, hu, hH, hS, hL⟩ := G
  exact lawCaseA (ks := []) (ix := 321) (im := 324) (x := 161) (y := 184) hF hcs hX hi hN (by decide) (by decide +kernel) (by decide +kernel) (by decide +kernel) (by decide +kernel) (by decide +kernel) (by decide +kernel) (by decide +kernel) (op_back) hu hH hS hL
theorem lawC55 (hlt : l.stackTraces = false) (G : lawG p l e R s m args below meth c H locs cells slots Z E u b i L0 L xs) : W p l e R s m args below meth c H locs cells slots Z (F0 m 2722 L []) := by
  obtain ⟨hF, hcs, hX, hi, hN, hu, hH, hS, hL⟩ := G
  exact lawCaseA (ks := [false]) (ix := 325) (im := 328) (x := 162) (y := 325) hF hcs hX hi hN (by decide) (by decide +kernel) (by decide +kernel) (by decide +kernel) (by decide +kernel) (by decide +kernel) (by decide +kernel) (by decide +kernel) (zAskP.ok (fun u n h => zInv.cnt h) (op_count _)) hu hH hS hL
def lawOf : Array Int := #[240, 313, 338, 382, 426, 439, 507, 575, 643, 699, 755, 823, 891, 959, 1027, 1083, 1139, 1207, 1220, 1233, 1246, 1259, 1284, 1297, 1310, 1323, 1336, 1392, 1433, 1489, 1557, 1613, 1685, 1729, 1770, 1826, 1894, 1962, 1975, 1988, 2044, 2057, 2113, 2126, 2139, 2207, 2220, 2300, 2384, 2468, 2552, 2620, 2645, 2658, 2669, 2682]
theorem lawAll (hlt : l.stackTraces = false) (G : lawG p l e R s m args below meth c H locs cells slots Z E u b i L0 L xs) : ∀ k : Nat, k < 56 → ∃ tgt : Nat, lawOf[k]? = some ((tgt : Int) - 40) ∧ W p l e R s m args below meth c H locs cells slots Z (F0 m tgt L [])
  | 0, _ => ⟨280, by decide +kernel, lawC0 hlt G⟩
  | 1, _ => ⟨353, by decide +kernel, lawC1 hlt G⟩
  | 2, _ => ⟨378, by decide +kernel, lawC2 hlt G⟩
  | 3, _ => ⟨422, by decide +kernel, lawC3 hlt G⟩
  | 4, _ => ⟨466, by decide +kernel, lawC4 hlt G⟩
  | 5, _ => ⟨479, by decide +kernel, lawC5 hlt G⟩
  | 6, _ => ⟨547, by decide +kernel, lawC6 hlt G⟩
  | 7, _ => ⟨615, by decide +kernel, lawC7 hlt G⟩
  | 8, _ => ⟨683, by decide +kernel, lawC8 hlt G⟩
  | 9, _ => ⟨739, by decide +kernel, lawC9 hlt G⟩
  | 10, _ => ⟨795, by decide +kernel, lawC10 hlt G⟩
  | 11, _ => ⟨863, by decide +kernel, lawC11 hlt G⟩
  | 12, _ => ⟨931, by decide +kernel, lawC12 hlt G⟩
  | 13, _ => ⟨999, by decide +kernel, lawC13 hlt G⟩
  | 14, _ => ⟨1067, by decide +kernel, lawC14 hlt G⟩
  | 15, _ => ⟨1123, by decide +kernel, lawC15 hlt G⟩
  | 16, _ => ⟨1179, by decide +kernel, lawC16 hlt G⟩
  | 17, _ => ⟨1247, by decide +kernel, lawC17 hlt G⟩
  | 18, _ => ⟨1260, by decide +kernel, lawC18 hlt G⟩
  | 19, _ => ⟨1273, by decide +kernel, lawC19 hlt G⟩
  | 20, _ => ⟨1286, by decide +kernel, lawC20 hlt G⟩
  | 21, _ => ⟨1299, by decide +kernel, lawC21 hlt G⟩
  | 22, _ => ⟨1324, by decide +kernel, lawC22 hlt G⟩
  | 23, _ => ⟨1337, by decide +kernel, lawC23 hlt G⟩
  | 24, _ => ⟨1350, by decide +kernel, lawC24 hlt G⟩
  | 25, _ => ⟨1363, by decide +kernel, lawC25 hlt G⟩
  | 26, _ => ⟨1376, by decide +kernel, lawC26 hlt G⟩
  | 27, _ => ⟨1432, by decide +kernel, lawC27 hlt G⟩
  | 28, _ => ⟨1473, by decide +kernel, lawC28 hlt G⟩
  | 29, _ => ⟨1529, by decide +kernel, lawC29 hlt G⟩
  | 30, _ => ⟨1597, by decide +kernel, lawC30 hlt G⟩
  | 31, _ => ⟨1653, by decide +kernel, lawC31 hlt G⟩
  | 32, _ => ⟨1725, by decide +kernel, lawC32 hlt G⟩
  | 33, _ => ⟨1769, by decide +kernel, lawC33 hlt G⟩
  | 34, _ => ⟨1810, by decide +kernel, lawC34 hlt G⟩
  | 35, _ => ⟨1866, by decide +kernel, lawC35 hlt G⟩
  | 36, _ => ⟨1934, by decide +kernel, lawC36 hlt G⟩
  | 37, _ => ⟨2002, by decide +kernel, lawC37 hlt G⟩
  | 38, _ => ⟨2015, by decide +kernel, lawC38 hlt G⟩
  | 39, _ => ⟨2028, by decide +kernel, lawC39 hlt G⟩
  | 40, _ => ⟨2084, by decide +kernel, lawC40 hlt G⟩
  | 41, _ => ⟨2097, by decide +kernel, lawC41 hlt G⟩
  | 42, _ => ⟨2153, by decide +kernel, lawC42 hlt G⟩
  | 43, _ => ⟨2166, by decide +kernel, lawC43 hlt G⟩
  | 44, _ => ⟨2179, by decide +kernel, lawC44 hlt G⟩
  | 45, _ => ⟨2247, by decide +kernel, lawC45 hlt G⟩
  | 46, _ => ⟨2260, by decide +kernel, lawC46 hlt G⟩
  | 47, _ => ⟨2340, by decide +kernel, lawC47 hlt G⟩
  | 48, _ => ⟨2424, by decide +kernel, lawC48 hlt G⟩
  | 49, _ => ⟨2508, by decide +kernel, lawC49 hlt G⟩
  | 50, _ => ⟨2592, by decide +kernel, lawC50 hlt G⟩
  | 51, _ => ⟨2660, by decide +kernel, lawC51 hlt G⟩
  | 52, _ => ⟨2685, by decide +kernel, lawC52 hlt G⟩
  | 53, _ => ⟨2698, by decide +kernel, lawC53 hlt G⟩
  | 54, _ => ⟨2709, by decide +kernel, lawC54 hlt G⟩
  | 55, _ => ⟨2722, by decide +kernel, lawC55 hlt G⟩
  | k + 56, h => absurd h (by omega)
end LL
