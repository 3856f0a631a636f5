/-! ===== the law's loop ===== -/
section LLP
variable {p : Program} {l : Launch} {e : Env} {R : Room} {s : State} {m : MethodId} {sargs : Array Value} {below : List Frame} {meth : Method} {c : Code} {Q : State → Prop}
variable {b B Ls pc cells slots i tb : Nat} {xs : Nat → Int32} {D : va_G} {G : GG} {L : GL} {adK adV adM : Nat → Nat} {hp : HP} {f : Nat → Int64} {g : Nat → UInt64} {H : Heap} {locs : List Loc} {sl : Array Slot}
def tgl : List Nat := [268, 341, 397, 410, 423, 436, 492, 548, 604, 672, 728, 772, 828, 884, 952, 1020, 1083, 1127, 1171, 1227, 1283, 1339, 1383, 1448, 1514, 1558, 1614, 1658, 1742, 1798, 1866, 1910, 1978, 2034, 2090, 2134, 2190, 2246, 2290, 2346, 2430, 2486, 2542, 2633, 2717, 2785, 2841, 2885, 2929, 2973, 2986, 3042]
def ofl : Array Int := #[223, 296, 352, 365, 378, 391, 447, 503, 559, 627, 683, 727, 783, 839, 907, 975, 1038, 1082, 1126, 1182, 1238, 1294, 1338, 1403, 1469, 1513, 1569, 1613, 1697, 1753, 1821, 1865, 1933, 1989, 2045, 2089, 2145, 2201, 2245, 2301, 2385, 2441, 2497, 2588, 2672, 2740, 2796, 2840, 2884, 2928, 2941, 2997]
theorem ofl_at : ∀ k, k < 52 → ofl[k]? = some (((tgl.getD k 3098 : Nat) : Int) - 45) := by decide +kernel
theorem law_sw : decode code 45 = .ok (.tableswitch 3053 0 51 ofl, 223) := by decide +kernel
theorem law_case0 (hX : LawX p l s m meth c R sargs b Ls xs B D G L adK adV adM) (hl : lv_has sl 9 (lwL b B i)) (hP : LwS B D G L hp f g H) (hS : va_S (ab B) s.heap H locs) (hi : i + 6 ≤ Ls) (hcells : cells + 1 ≤ R.cells) (hslots : slots + 6 ≤ R.slots) (htb : tb < 500000000) (hI : Inv tb hp hp) (kk : CKq p l e R s m sargs below meth c Q b B i tb cells slots D G L) : ∀ k, k < 13 → W p l e R s m sargs below meth c H locs cells slots Q (F0 m (tgl.getD (0 + k) 3098) sl []) := fun k hk => match k, hk with
  | 0, _ => ca_0 hX hl hP hS hi hcells hslots htb hI kk
  | 1, _ => ca_1 hX hl hP hS hi hcells hslots htb hI kk
  | 2, _ => ca_2 hX hl hP hS hi hcells hslots htb hI kk
  | 3, _ => ca_3 hX hl hP hS hi hcells hslots htb hI kk
  | 4, _ => ca_4 hX hl hP hS hi hcells hslots htb hI kk
  | 5, _ => ca_5 hX hl hP hS hi hcells hslots htb hI kk
  | 6, _ => ca_6 hX hl hP hS hi hcells hslots htb hI kk
  | 7, _ => ca_7 hX hl hP hS hi hcells hslots htb hI kk
  | 8, _ => ca_8 hX hl hP hS hi hcells hslots htb hI kk
  | 9, _ => ca_9 hX hl hP hS hi hcells hslots htb hI kk
  | 10, _ => ca_10 hX hl hP hS hi hcells hslots htb hI kk
  | 11, _ => ca_11 hX hl hP hS hi hcells hslots htb hI kk
  | 12, _ => ca_12 hX hl hP hS hi hcells hslots htb hI kk
  | k + 13, h => absurd h (by omega)
theorem law_case1 (hX : LawX p l s m meth c R sargs b Ls xs B D G L adK adV adM) (hl : lv_has sl 9 (lwL b B i)) (hP : LwS B D G L hp f g H) (hS : va_S (ab B) s.heap H locs) (hi : i + 6 ≤ Ls) (hcells : cells + 1 ≤ R.cells) (hslots : slots + 6 ≤ R.slots) (htb : tb < 500000000) (hI : Inv tb hp hp) (kk : CKq p l e R s m sargs below meth c Q b B i tb cells slots D G L) : ∀ k, k < 13 → W p l e R s m sargs below meth c H locs cells slots Q (F0 m (tgl.getD (13 + k) 3098) sl []) := fun k hk => match k, hk with
  | 0, _ => ca_13 hX hl hP hS hi hcells hslots htb hI kk
  | 1, _ => ca_14 hX hl hP hS hi hcells hslots htb hI kk
  | 2, _ => ca_15 hX hl hP hS hi hcells hslots htb hI kk
  | 3, _ => ca_16 hX hl hP hS hi hcells hslots htb hI kk
  | 4, _ => ca_17 hX hl hP hS hi hcells hslots htb hI kk
  | 5, _ => ca_18 hX hl hP hS hi hcells hslots htb hI kk
  | 6, _ => ca_19 hX hl hP hS hi hcells hslots htb hI kk
  | 7, _ => ca_20 hX hl hP hS hi hcells hslots htb hI kk
  | 8, _ => ca_21 hX hl hP hS hi hcells hslots htb hI kk
  | 9, _ => ca_22 hX hl hP hS hi hcells hslots htb hI kk
  | 10, _ => ca_23 hX hl hP hS hi hcells hslots htb hI kk
  | 11, _ => ca_24 hX hl hP hS hi hcells hslots htb hI kk
  | 12, _ => ca_25 hX hl hP hS hi hcells hslots htb hI kk
  | k + 13, h => absurd h (by omega)
theorem law_case2 (hX : LawX p l s m meth c R sargs b Ls xs B D G L adK adV adM) (hl : lv_has sl 9 (lwL b B i)) (hP : LwS B D G L hp f g H) (hS : va_S (ab B) s.heap H locs) (hi : i + 6 ≤ Ls) (hcells : cells + 1 ≤ R.cells) (hslots : slots + 6 ≤ R.slots) (htb : tb < 500000000) (hI : Inv tb hp hp) (kk : CKq p l e R s m sargs below meth c Q b B i tb cells slots D G L) : ∀ k, k < 13 → W p l e R s m sargs below meth c H locs cells slots Q (F0 m (tgl.getD (26 + k) 3098) sl []) := fun k hk => match k, hk with
  | 0, _ => ca_26 hX hl hP hS hi hcells hslots htb hI kk
  | 1, _ => ca_27 hX hl hP hS hi hcells hslots htb hI kk
  | 2, _ => ca_28 hX hl hP hS hi hcells hslots htb hI kk
  | 3, _ => ca_29 hX hl hP hS hi hcells hslots htb hI kk
  | 4, _ => ca_30 hX hl hP hS hi hcells hslots htb hI kk
  | 5, _ => ca_31 hX hl hP hS hi hcells hslots htb hI kk
  | 6, _ => ca_32 hX hl hP hS hi hcells hslots htb hI kk
  | 7, _ => ca_33 hX hl hP hS hi hcells hslots htb hI kk
  | 8, _ => ca_34 hX hl hP hS hi hcells hslots htb hI kk
  | 9, _ => ca_35 hX hl hP hS hi hcells hslots htb hI kk
  | 10, _ => ca_36 hX hl hP hS hi hcells hslots htb hI kk
  | 11, _ => ca_37 hX hl hP hS hi hcells hslots htb hI kk
  | 12, _ => ca_38 hX hl hP hS hi hcells hslots htb hI kk
  | k + 13, h => absurd h (by omega)
theorem law_case3 (hX : LawX p l s m meth c R sargs b Ls xs B D G L adK adV adM) (hl : lv_has sl 9 (lwL b B i)) (hP : LwS B D G L hp f g H) (hS : va_S (ab B) s.heap H locs) (hi : i + 6 ≤ Ls) (hcells : cells + 1 ≤ R.cells) (hslots : slots + 6 ≤ R.slots) (htb : tb < 500000000) (hI : Inv tb hp hp) (kk : CKq p l e R s m sargs below meth c Q b B i tb cells slots D G L) : ∀ k, k < 13 → W p l e R s m sargs below meth c H locs cells slots Q (F0 m (tgl.getD (39 + k) 3098) sl []) := fun k hk => match k, hk with
  | 0, _ => ca_39 hX hl hP hS hi hcells hslots htb hI kk
  | 1, _ => ca_40 hX hl hP hS hi hcells hslots htb hI kk
  | 2, _ => ca_41 hX hl hP hS hi hcells hslots htb hI kk
  | 3, _ => ca_42 hX hl hP hS hi hcells hslots htb hI kk
  | 4, _ => ca_43 hX hl hP hS hi hcells hslots htb hI kk
  | 5, _ => ca_44 hX hl hP hS hi hcells hslots htb hI kk
  | 6, _ => ca_45 hX hl hP hS hi hcells hslots htb hI kk
  | 7, _ => ca_46 hX hl hP hS hi hcells hslots htb hI kk
  | 8, _ => ca_47 hX hl hP hS hi hcells hslots htb hI kk
  | 9, _ => ca_48 hX hl hP hS hi hcells hslots htb hI kk
  | 10, _ => ca_49 hX hl hP hS hi hcells hslots htb hI kk
  | 11, _ => ca_50 hX hl hP hS hi hcells hslots htb hI kk
  | 12, _ => ca_51 hX hl hP hS hi hcells hslots htb hI kk
  | k + 13, h => absurd h (by omega)
theorem law_case (hX : LawX p l s m meth c R sargs b Ls xs B D G L adK adV adM) (hl : lv_has sl 9 (lwL b B i)) (hP : LwS B D G L hp f g H) (hS : va_S (ab B) s.heap H locs) (hi : i + 6 ≤ Ls) (hcells : cells + 1 ≤ R.cells) (hslots : slots + 6 ≤ R.slots) (htb : tb < 500000000) (hI : Inv tb hp hp) (kk : CKq p l e R s m sargs below meth c Q b B i tb cells slots D G L) {k : Nat} (hk : k < 52) : W p l e R s m sargs below meth c H locs cells slots Q (F0 m (tgl.getD k 3098) sl []) := by
  have h : ∃ q t, q < 4 ∧ t < 13 ∧ k = 13 * q + t := ⟨k / 13, k % 13, by omega, by omega, by omega⟩
  obtain ⟨q, t, hq, ht, rfl⟩ := h
  match q, hq with
  | 0, _ => exact law_case0 hX hl hP hS hi hcells hslots htb hI kk t ht
  | 1, _ => exact law_case1 hX hl hP hS hi hcells hslots htb hI kk t ht
  | 2, _ => exact law_case2 hX hl hP hS hi hcells hslots htb hI kk t ht
  | 3, _ => exact law_case3 hX hl hP hS hi hcells hslots htb hI kk t ht
  | q + 4, h => exact absurd h (by omega)
theorem turn_in {i Ls : Nat} (hi : i ≤ 4000) (hL : Ls ≤ 3072) (h : ¬ nI Ls - nI 6 < nI i) : i + 6 ≤ Ls := by
  rw [Int32.lt_iff_toInt_lt, Int32.toInt_sub, n_i (by omega), n_i (by omega), n_i (by omega)] at h
  rw [Int.bmod_eq_of_le (by omega) (by omega)] at h
  omega
theorem law_dec : decode code 28 = .ok (.iload 5, 2) ∧ decode code 30 = .ok (.aload_n 0, 1) ∧ decode code 31 = .ok (.arraylength, 1) ∧ decode code 32 = .ok (.bipush 6, 2) ∧ decode code 34 = .ok (.isub, 1) ∧ decode code 35 = .ok (.if_icmp .gt 3069, 3) ∧ decode code 38 = .ok (.aload_n 0, 1) ∧ decode code 39 = .ok (.iload 5, 2) ∧ decode code 41 = .ok (.iaload, 1) ∧ decode code 42 = .ok (.bipush 63, 2) := by decide +kernel
theorem law_dec2 : decode code 44 = .ok (.iand, 1) ∧ decode code 3098 = .ok (.iinc 5 6, 3) ∧ decode code 3101 = .ok (.goto (-3073), 3) ∧ decode code 3104 = .ok (.iconst 1, 1) ∧ decode code 3105 = .ok (.ireturn, 1) := by decide +kernel
theorem lawl_loop (hX : LawX p l s m meth c R sargs b Ls xs B D G L adK adV adM)
    (kx : ∀ H locs sl cells slots, va_S (ab B) s.heap H locs → cells ≤ R.cells → slots ≤ R.slots → W p l e R s m sargs below meth c H locs cells slots Q (F0 m 3104 sl [])) :
    ∀ (n : Nat) {tb cells slots i : Nat} {hp : HP} {f : Nat → Int64} {g : Nat → UInt64} {H : Heap} {locs : List Loc} {sl : Array Slot}, Ls < i + 6 * n + 6 → i ≤ 4000 → tb + 600000 * n < 500000000 → cells + n ≤ R.cells → slots + 6 * n ≤ R.slots → lv_has sl 9 (lwL b B i) → LwS B D G L hp f g H → va_S (ab B) s.heap H locs → Inv tb hp hp →
      W p l e R s m sargs below meth c H locs cells slots Q (F0 m 28 sl []) := by
  intro n
  induction n with
  | zero =>
    intro tb cells slots i hp f g H locs sl hn hi4 htb hc hs hl hP hS hI
    have hX2 := hX
    obtain ⟨hx, hb, hml, hts, hown, hE, hfl, hSc, hbl, hbB, hL, hRf, hRl⟩ := hX2
    obtain ⟨d0, d1, d2, d3, d4, d5, d6, d7, d8, d9⟩ := law_dec
    refine lv_iload hx hb d0 (lv_at hl 5 rfl) ?_
    refine lv_aload_n hx hb d1 rfl (lv_at hl 0 rfl) ?_
    refine va_slen hx hb hSc hbl (by show ¬ B ≤ b; omega) hS d2 ?_
    refine lv_bipush (v := nI 6) hx hb d3 (by decide) ?_
    refine lv_isub hx hb d4 ?_
    refine lv_icmp_gt (tgt := 3104) hx hb d5 (by decide) (fun _ => kx H locs sl cells slots hS (by omega) (by omega)) (fun h => ?_)
    have := turn_in hi4 hL h
    exfalso
    omega
  | succ n ih =>
    intro tb cells slots i hp f g H locs sl hn hi4 htb hc hs hl hP hS hI
    have hX2 := hX
    obtain ⟨hx, hb, hml, hts, hown, hE, hfl, hSc, hbl, hbB, hL, hRf, hRl⟩ := hX2
    obtain ⟨d0, d1, d2, d3, d4, d5, d6, d7, d8, d9⟩ := law_dec
    obtain ⟨d10, d11, d12, d13, d14⟩ := law_dec2
    refine lv_iload hx hb d0 (lv_at hl 5 rfl) ?_
    refine lv_aload_n hx hb d1 rfl (lv_at hl 0 rfl) ?_
    refine va_slen hx hb hSc hbl (by show ¬ B ≤ b; omega) hS d2 ?_
    refine lv_bipush (v := nI 6) hx hb d3 (by decide) ?_
    refine lv_isub hx hb d4 ?_
    refine lv_icmp_gt (tgt := 3104) hx hb d5 (by decide) (fun _ => kx H locs sl cells slots hS (by omega) (by omega)) (fun h => ?_)
    have hi := turn_in hi4 hL h
    have kk : CKq p l e R s m sargs below meth c Q b B i tb cells slots D G L := by
      intro sl H locs hp1 f1 g1 hl hP hS hI
      refine lv_iinc (lv' := [(5, .int (nI (i + 6))), (0, .ref b), (1, .ref B), (2, .ref (B + 312)), (3, .ref (B + 326)), (4, .ref (B + 327))]) (v := nI (i + 6)) (k := 5) hx hb d11 hl rfl (by show nI i + nI 6 = nI (i + 6); rw [n_add]) (by decide) rfl (fun sl hl => ?_)
      refine lv_goto (tgt := 28) hx hb d12 (by decide) ?_
      refine ih (i := i + 6) (tb := tb + 600000) (cells := cells + 1) (slots := slots + 6) (by omega) (by omega) (by omega) (by omega) (by omega) (lv_part hl (fun q hq => ?_)) hP hS hI
      simp only [lwL, List.mem_cons, List.not_mem_nil, or_false] at hq
      rcases hq with rfl | rfl | rfl | rfl | rfl | rfl <;> simp
    refine lv_aload_n hx hb d6 rfl (lv_at hl 0 rfl) ?_
    refine lv_iload hx hb d7 (lv_at hl 5 rfl) ?_
    refine va_sld hx hb hSc hbl (by show ¬ B ≤ b; omega) hS (vp_in_n (by omega) (by omega)) d8 ?_
    rw [n_c (by omega)]
    refine lv_bipush (v := nI 63) hx hb d9 (by decide) ?_
    refine lv_iand hx hb d10 ?_
    generalize xs i &&& nI 63 = x
    by_cases hx0 : x.toInt < 0 ∨ 51 < x.toInt
    · refine lv_tableOut (tgt := 3098) hx hb law_sw hx0 (by decide) ?_
      obtain ⟨sz, wn, os, hs2, nb, hv⟩ := hI
      exact W.widen (k := cells + 1) (n := slots + 6) (by omega) (by omega) (kk sl H locs hp f g hl hP hS ⟨sz, wn, os, hs2, nb, Iv_mono hv (by omega)⟩)
    · have hk : (x.toInt - 0).toNat < 52 := by omega
      refine lv_tableIn (tgt := tgl.getD (x.toInt - 0).toNat 3098) hx hb law_sw (by omega) (by omega) (ofl_at _ hk) (by omega) ?_
      exact law_case hX hl hP hS hi (by omega) (by omega) (by omega) hI kk hk
end LLP
