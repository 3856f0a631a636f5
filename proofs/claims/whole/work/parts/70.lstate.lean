/-! ===== the law's own arrays beside the world ===== -/
section LAW
variable {p : Program} {l : Launch} {e : Env} {R : Room} {s : State} {m : MethodId} {sargs : Array Value} {below : List Frame} {meth : Method} {c : Code} {Q : State → Prop}
abbrev GL : Type := ClassId × ClassId
variable {B pc cells slots : Nat} {D : va_G} {G : GG} {L : GL} {adK adV adM : Nat → Nat} {hp hp1 : HP} {f : Nat → Int64} {g : Nat → UInt64} {H H1 : Heap} {locs : List Loc} {sl : Array Slot}
def LwE (B : Nat) (G : GG) (L : GL) (hp : HP) (f : Nat → Int64) (g : Nat → UInt64) : Nat → va_E := fun j => if j < 326 then ent B G hp (allR.getD j (0, 0, 0)) else if j = 326 then .inl (L.1, 1, .inr (.inl f)) else .inl (L.2, 1, .inr (.inr (.inr (.inl g))))
theorem LwE_w {j : Nat} (h : j < 326) : LwE B G L hp f g j = ent B G hp (allR.getD j (0, 0, 0)) := if_pos h
theorem LwE_l : LwE B G L hp f g 326 = .inl (L.1, 1, .inr (.inl f)) := rfl
theorem LwE_d : LwE B G L hp f g 327 = .inl (L.2, 1, .inr (.inr (.inr (.inl g)))) := rfl
theorem LwE_o {j : Nat} (h : ¬ j < 326) : LwE B G L hp f g j = LwE B G L hp1 f g j := by
  unfold LwE
  rw [if_neg h, if_neg h]
def LwS (B : Nat) (D : va_G) (G : GG) (L : GL) (hp : HP) (f : Nat → Int64) (g : Nat → UInt64) (H : Heap) : Prop := va_P D vwCl (PW B 328 (LwE B G L hp f g)) H
theorem LwS.world (h : LwS B D G L hp f g H) : va_P D vwCl (World B G hp) H := by
  rw [← PW_world]
  intro k q hk
  obtain ⟨h1, rfl⟩ := PW_inv hk
  have := h k _ (PW_at (by omega))
  rw [LwE_w h1] at this
  exact this
theorem LwS.next (h : LwS B D G L hp f g H) (hW : va_P D vwCl (World B G hp1) H1) (hq : ∀ q : Nat, q < H.size → ¬ inA B q → H1[q]? = H[q]?) : LwS B D G L hp1 f g H1 := by
  rw [← PW_world] at hW
  intro k q hk
  obtain ⟨h1, rfl⟩ := PW_inv hk
  by_cases hk2 : k < 326
  · have := hW k _ (PW_at hk2)
    rw [LwE_w hk2]
    exact this
  · have h2 := h k _ (PW_at h1)
    rw [LwE_o (hp1 := hp1) hk2] at h2
    exact h2.kept (hq (B + k) h2.lt (fun q => by omega))
/-- the words and texts that the law's calls need -/
def LwV (B : Nat) (D : va_G) (G : GG) (L : GL) (adK adV adM : Nat → Nat) (U : State) : Prop :=
  va_K D vwCl [(G.1, .int), (G.2.1, .boolean), (G.2.2, .object RX3), (L.1, .long), (L.2, .double)] U ∧ (∀ x ∈ lnkFN, va_Nw (wFN x) U) ∧ (∀ x ∈ lnkMN, va_Nw (wMN x) U)
    ∧ vk_S 5 txL txB adK adV (ab B) U U.heap ∧ (∀ x ∈ lnkL, vk_R (clsN x.1) x.2.1 (txS x.2.2) (adK x.2.2) U)
    ∧ va_Z "java/lang/String" "COMPACT_STRINGS" "Z" (.int 1) (ab B) U U.heap ∧ va_Zq "jdk/internal/util/Preconditions" "SIOOBE_FORMATTER" "Ljava/util/function/BiFunction;" (ab B) U U.heap
    ∧ (∀ w ∈ nwX, va_Nw w U) ∧ vx_Zq Bundle.tN "UNASSIGNED_STACK" Bundle.steD (ab B) U U.heap ∧ vx_Zq Bundle.tN "SUPPRESSED_SENTINEL" Bundle.listD (ab B) U U.heap ∧ (∀ x ∈ thrL, vk_R RX9 x.2.2.2.1 (msgS x.2.2.2.2.2.2) (adM x.2.2.2.2.2.2) U)
    ∧ ∀ i j : Nat, 1 ≤ i → i ≤ 3 → 1 ≤ j → j ≤ 3 → i ≠ j → va_Nc (excN i) (excN j) U
theorem LwV.warm {s U : State} (h : LwV B D G L adK adV adM s) (hW : s.WarmedH U.vm) (hq : ∀ q : Nat, q < s.heap.size → ¬ ab B q → U.heap[q]? = s.heap[q]?) : LwV B D G L adK adV adM U := by
  obtain ⟨h1, h2, h3, h4, h5, h6, h7, h8, h9, h10, h11, h12⟩ := h
  refine ⟨h1.moved hW.alike, fun x hx => va_Nw.warmF hW (h2 x hx), fun x hx => va_Nw.warmM hW (h3 x hx), (h4.moved hW.alike).kept hq, fun x hx => (h5 x hx).warm hW, (h6.moved hW.alike).kept hq, (h7.moved hW.alike).kept hq, fun w hw => ?_, (h9.moved hW.alike).kept hq, (h10.moved hW.alike).kept hq, fun x hx => (h11 x hx).warm hW, fun i j a b d e ne => (h12 i j a b d e ne).moved hW.alike⟩
  have h0 := h8 w hw
  simp only [nwX, List.mem_cons, List.not_mem_nil, or_false] at hw
  rcases hw with rfl | rfl | rfl | rfl | rfl | rfl
  · exact va_Nw.warmC hW h0
  · exact va_Nw.warmC hW h0
  · exact va_Nw.warmC hW h0
  · exact va_Nw.warmD hW h0
  · exact va_Nw.warmD hW h0
  · exact va_Nw.warmD hW h0
theorem LwV.env {U : State} (h : LwV B D G L adK adV adM U) : ENV B D G adK adV U := by
  obtain ⟨h1, h2, h3, h4, h5, h6, h7, h8, h9, h10, h11, h12⟩ := h
  exact ⟨h1.sub [0, 1, 2] rfl, h2, h3, h4.narrow (fun q h => h.1), h5, h6.narrow (fun q h => h.1), h7.narrow (fun q h => h.1)⟩
theorem LwV.envx {U : State} (h : LwV B D G L adK adV adM U) : ENVX B adM U := by
  obtain ⟨h1, h2, h3, h4, h5, h6, h7, h8, h9, h10, h11, h12⟩ := h
  exact ⟨h8, h9.narrow (fun q h => h.1), h10.narrow (fun q h => h.1), h11⟩
/-- what was written lies in the own cells -/
theorem LwS.keep {st t : State} {T1 : State} {locs L1 : List Loc} (h0 : st.heap = H) (e1 : T1.heap = t.heap) (hS : va_S (ab B) s.heap H locs) (hF : va_F (inA B) st t) (hL : ∀ q ∈ L1, inA B q.base) : va_S (ab B) s.heap T1.heap (locs ++ L1) := by
  refine ⟨?_, fun q h1 h2 => ?_, fun q hq => ?_⟩
  · have h1 := hF.1
    rw [h0] at h1
    rw [e1]
    exact Nat.le_trans hS.1 h1
  · have h3 := hF.2 q (by rw [h0]; exact Nat.lt_of_lt_of_le h1 hS.1) (fun z => h2 z.1)
    rw [h0] at h3
    rw [e1, h3]
    exact hS.2.1 q h1 h2
  · rcases List.mem_append.mp hq with h | h
    · exact hS.2.2 q h
    · exact (hL q h).1
/-- behind a call that returns -/
theorem lc_ret {v : Option VL} {st0 rest : List Value} {ar : Array Value} (hr : va_Run p l e R s m sargs below meth c H locs cells slots 0 0 (F0 m pc sl st0) rest (QcR B D G adK v hp1 ar) (inA B)) (hP : LwS B D G L hp f g H) (hS : va_S (ab B) s.heap H locs)
    (kk : ∀ H1 locs1, LwS B D G L hp1 f g H1 → va_S (ab B) s.heap H1 locs1 → W p l e R s m sargs below meth c H1 locs1 cells slots Q (F0 m (pc + 3) sl ((v.map (toV B adK)).toList ++ rest))) : W p l e R s m sargs below meth c H locs cells slots Q (F0 m pc sl st0) := by
  intro T hT X
  obtain ⟨w, st₀, t, T', L1, h0, X', hL, e1, e2, ⟨⟨hw, hP1, hF⟩, hv⟩, stp⟩ := hr T hT X
  cases hw
  obtain ⟨t2, a1, b1⟩ := kk T'.heap (locs ++ L1) (hP.next (by rw [e1]; exact hP1) (fun q h1 h2 => by
    have h3 := hF.2 q (by rw [h0]; exact h1) h2
    rw [h0] at h3
    rw [e1, h3])) (LwS.keep h0 e1 hS hF hL) T' rfl X'
  exact ⟨t2, stp t2 a1, b1⟩
/-- behind a call that throws -/
theorem lc_thr {E : Nat} {st0 rest : List Value} (hr : vx_Run p l e R s m sargs below meth c H locs cells slots 1 6 (F0 m pc sl st0) rest (fun _ _ _ => False) (XCS B D G E hp1) (inA B)) (hP : LwS B D G L hp f g H) (hS : va_S (ab B) s.heap H locs)
    (kk : ∀ H1 locs1 q ce, LwS B D G L hp1 f g H1 → va_S (ab B) s.heap H1 locs1 → H1[q]? = some ce → ce.vm = .none → s.vm.findClass (excN E) = some ce.cls → vx_W p l e R s m sargs below meth c H1 locs1 (cells + 1) (slots + 6) Q (F0 m pc sl rest) q) : W p l e R s m sargs below meth c H locs cells slots Q (F0 m pc sl st0) := by
  intro T hT X
  rcases hr T hT X with ⟨v, st₀, t, T', L, -, -, -, -, -, hf, -⟩ | ⟨q, st₀, t, T', L1, E', ce, h0, X', hL, e1, e2, ⟨hE, hP1, hF⟩, hc, hv, hcl, stp⟩
  · exact hf.elim
  · subst hE
    obtain ⟨t2, a1, b1⟩ := kk T'.heap (locs ++ L1) q ce (hP.next (by rw [e1]; exact hP1) (fun q h1 h2 => by
      have h3 := hF.2 q (by rw [h0]; exact h1) h2
      rw [h0] at h3
      rw [e1, h3])) (LwS.keep h0 e1 hS hF hL) (by rw [e1]; exact hc) hv hcl T' rfl X'
    exact ⟨t2, stp.trans a1, b1⟩
end LAW
