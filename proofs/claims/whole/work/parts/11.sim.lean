/-! ===== the small machine is the machine: one instruction ===== -/
def lwG : List Jvm.Cond := lw_tbl.filter goodWord
theorem inG {w : Jvm.Cond} (h : w ∈ tables_1) (hg : goodWord w = true) : w ∈ lwG := List.mem_filter.mpr ⟨List.mem_append_right _ h, hg⟩
theorem lwG_good : GoodIn lwG lwG := fun _ hw => ⟨hw, good_of_word (List.mem_filter.mp hw).2⟩
/-- the bytes of the words -/
def txB : List (List Int32) := [txt 0, txt 1, txt 2, txt 3, txt 4]
def txL : List Nat := [7, 5, 6, 3, 3]
abbrev inA (B : Nat) : Nat → Prop := fun q => B ≤ q ∧ q < B + 326
def ENV (B : Nat) (D : va_G) (G : GG) (adK adV : Nat → Nat) (U : State) : Prop :=
  va_K D vwCl [(G.1, .int), (G.2.1, .boolean), (G.2.2, .object RX3)] U ∧ (∀ x ∈ lnkFN, va_Nw (wFN x) U) ∧ (∀ x ∈ lnkMN, va_Nw (wMN x) U)
    ∧ vk_S 5 txL txB adK adV (inA B) U U.heap ∧ (∀ x ∈ lnkL, vk_R (clsN x.1) x.2.1 (txS x.2.2) (adK x.2.2) U)
    ∧ va_Z "java/lang/String" "COMPACT_STRINGS" "Z" (.int 1) (inA B) U U.heap ∧ va_Zq "jdk/internal/util/Preconditions" "SIOOBE_FORMATTER" "Ljava/util/function/BiFunction;" (inA B) U U.heap
theorem ENV.warm {B : Nat} {D : va_G} {G : GG} {adK adV : Nat → Nat} {s U : State} (h : ENV B D G adK adV s) (hW : s.WarmedH U.vm) (hq : ∀ q : Nat, q < s.heap.size → ¬ inA B q → U.heap[q]? = s.heap[q]?) : ENV B D G adK adV U := by
  obtain ⟨h1, h2, h3, h4, h5, h6, h7⟩ := h
  exact ⟨h1.moved hW.alike, fun x hx => va_Nw.warmF hW (h2 x hx), fun x hx => va_Nw.warmM hW (h3 x hx), (h4.moved hW.alike).kept hq, fun x hx => (h5 x hx).warm hW, (h6.moved hW.alike).kept hq, (h7.moved hW.alike).kept hq⟩
def okI (v : VL) : Prop := match v with
  | .inl _ => True
  | .inr (.inl r) => okR r
  | _ => False
theorem okI.okV {v : VL} (h : okI v) : okV v := by
  rcases v with x | r | x | x
  · exact h
  · exact h
  · exact trivial
  · exact trivial
theorem okI.cat {v : VL} {B : Nat} {adK : Nat → Nat} (h : okI v) : (toV B adK v).category = 1 := by
  rcases v with x | r | x | x
  · rfl
  · rfl
  · exact h.elim
  · exact h.elim
/-- the locals -/
def LH (B : Nat) (adK : Nat → Nat) (sl : Array Slot) (nL : Nat) (ls : List (Option VL)) : Prop :=
  ls.length = nL ∧ (∀ v, some v ∈ ls → okI v) ∧ ∃ lv, lv_has sl nL lv ∧ (∀ q ∈ lv, q.2.category = 1) ∧ ∀ (i : Nat) (v : VL), ls[i]? = some (some v) → (i, toV B adK v) ∈ lv
theorem LH.get {B : Nat} {adK : Nat → Nat} {sl : Array Slot} {nL : Nat} {ls : List (Option VL)} (h : LH B adK sl nL ls) {i : Nat} {v : VL} (hi : ls[i]? = some (some v)) : sl[i]? = some (.val (toV B adK v)) := by
  obtain ⟨-, -, lv, h1, -, h2⟩ := h
  exact h1.2.2 _ (h2 i v hi)
theorem LH.ok {B : Nat} {adK : Nat → Nat} {sl : Array Slot} {nL : Nat} {ls : List (Option VL)} (h : LH B adK sl nL ls) {i : Nat} {v : VL} (hi : ls[i]? = some (some v)) : okI v := h.2.1 v (List.mem_of_getElem? hi)
theorem LH.put {B : Nat} {adK : Nat → Nat} {sl' : Array Slot} {nL : Nat} {ls : List (Option VL)} {lv : List (Nat × Value)} {i : Nat} {v : VL} (h1 : ls.length = nL) (h2 : ∀ v, some v ∈ ls → okI v) (hc : ∀ q ∈ lv, q.2.category = 1) (hm : ∀ (i : Nat) (v : VL), ls[i]? = some (some v) → (i, toV B adK v) ∈ lv) (hv : okI v)
    (h : lv_has sl' nL ((i, toV B adK v) :: lv.filter (fun q => !(q.1 == i) && !(q.1 + 1 == i && q.2.category == 2)))) : LH B adK sl' nL (ls.set i (some v)) := by
  refine ⟨by rw [List.length_set]; exact h1, fun w hw => ?_, _, h, fun q hq => ?_, fun j w hj => ?_⟩
  · rcases List.mem_or_eq_of_mem_set hw with q | q
    · exact h2 w q
    · cases q
      exact hv
  · rcases List.mem_cons.mp hq with rfl | q
    · exact hv.cat
    · exact hc _ (List.mem_filter.mp q).1
  · by_cases hij : i = j
    · subst hij
      by_cases hl : i < ls.length
      · rw [List.getElem?_set_self hl] at hj
        cases hj
        exact List.mem_cons_self
      · rw [List.getElem?_eq_none (by rw [List.length_set]; omega)] at hj
        cases hj
    · rw [List.getElem?_set_ne hij] at hj
      have hm1 := hm j w hj
      refine List.mem_cons_of_mem _ (List.mem_filter.mpr ⟨hm1, ?_⟩)
      have h3 := hc _ hm1
      simp only at h3
      simp [h3, Ne.symm hij]
def STt (B : Nat) (D : va_G) (G : GG) (adK : Nat → Nat) (s : State) (sl : Array Slot) (nL : Nat) (ls : List (Option VL)) (st : List VL) (hp : HP) (H : Heap) (locs : List Loc) : Prop :=
  va_P D vwCl (World B G hp) H ∧ va_S (inA B) s.heap H locs ∧ LH B adK sl nL ls ∧ ∀ v ∈ st, okV v
def rmD (d : Nat) : Room := { frames := d, cells := 0, slots := 0, locals := 36 * d }
def wsOf (μ : Nat) : List Jvm.Cond := Jvm.Cond.code (nameOf μ) (bytesOf μ) (maxOf μ) (retOf μ) :: lwG
def PcS (B : Nat) (D : va_G) (G : GG) (adK adV : Nat → Nat) (args : List VL) (hp : HP) : Array Value → State → Prop := fun av U =>
  av = (args.map (toV B adK)).toArray ∧ va_P D vwCl (World B G hp) U.heap ∧ ENV B D G adK adV U
def QcS (B : Nat) (D : va_G) (G : GG) (adK : Nat → Nat) (v : Option VL) (hp1 : HP) : Array Value → State → Outcome → State → Prop := fun _ st oc t =>
  oc = .returned (v.map (toV B adK)) ∧ va_P D vwCl (World B G hp1) t.heap ∧ va_F (inA B) st t
def SMet (l : Launch) (B : Nat) (D : va_G) (G : GG) (adK adV : Nat → Nat) (d μ : Nat) (args : List VL) (hp : HP) (v : Option VL) (hp1 : HP) : Prop :=
  Met l (nameOf μ) (wsOf μ) (rmD d) (PcS B D G adK adV args hp) (QcS B D G adK v hp1) 0 0 (inA B)
/-- String.length, String.charAt over the words -/
def JST (l : Launch) (B : Nat) (D : va_G) (G : GG) (adK adV : Nat → Nat) : Prop :=
  (∀ w, w < 5 → Met l yJ0_length_8abf5 (Jvm.Cond.code yJ0_length_8abf5 cJ0_length_8abf5 1 (some .int) :: lwG) (rmD 4) (fun av U => av = #[.ref (adK w)] ∧ ENV B D G adK adV U) (fun _ st oc t => oc = .returned (some (.int (nI (txt w).length))) ∧ t.heap = st.heap) 0 0 (fun _ => False))
  ∧ ∀ w j, w < 5 → j < (txt w).length → Met l yJ0_charAt_5068e (Jvm.Cond.code yJ0_charAt_5068e cJ0_charAt_5068e 2 (some .char) :: lwG) (rmD 4) (fun av U => av = #[.ref (adK w), .int (nI j)] ∧ ENV B D G adK adV U) (fun _ st oc t => oc = .returned (some (.int ((txt w).getD j 0))) ∧ t.heap = st.heap) 0 0 (fun _ => False)
def CXX (p : Program) (l : Launch) (B : Nat) (D : va_G) (G : GG) (adK adV : Nat → Nat) (μ : Nat) (s : State) (m : MethodId) (sargs : Array Value) (meth : Method) (c : Code) : Prop :=
  p.tables.exec = Jvm.exec ∧ c.code = bytesOf μ ∧ c.maxLocals = maxOf μ ∧ s.vm.findClass (clsN (clOf μ)) = some m.cls ∧ (∀ w ∈ lwG, w.before sargs s = true) ∧ meth.sig.returnType = retOf μ ∧ meth.locks = false ∧ ENV B D G adK adV s ∧ JST l B D G adK adV ∧ μ < 290
theorem lkp_in {pc : Nat} : ∀ {C : List EN} {e : EN}, lkp pc C = some e → e ∈ C ∧ e.1 = pc
  | [], e, h => by cases h
  | x :: C, e, h => by
    unfold lkp at h
    by_cases hx : x.1 = pc
    · rw [if_pos hx] at h
      cases h
      exact ⟨List.mem_cons_self, hx⟩
    · rw [if_neg hx] at h
      obtain ⟨h1, h2⟩ := lkp_in h
      exact ⟨List.mem_cons_of_mem _ h1, h2⟩
theorem ok_at {μ pc p0 len a b : Nat} {i : Instr} {z : Int32} (hμ : μ < 290) (h : lkp pc (codeOf μ) = some (p0, i, len, a, b, z)) : decode (bytesOf μ) pc = .ok (i, len) ∧ (isSw i = true ∨ len = lenI i) ∧ okL (clOf μ) (maxOf μ) (retOf μ) pc i a b z = true := by
  obtain ⟨h1, h2⟩ := lkp_in h
  have h3 := okM_all μ hμ
  unfold okM at h3
  rw [Bool.and_eq_true] at h3
  have h4 := List.all_eq_true.mp h3.1 _ h1
  unfold okE at h4
  simp only at h2
  subst h2
  simp only [Bool.and_eq_true, Bool.or_eq_true, decide_eq_true_eq] at h4
  exact ⟨h4.1.1, h4.1.2, h4.2⟩
theorem okB_at {μ pc p0 len a b : Nat} {i : Instr} {z : Int32} (hμ : μ < 290) (h : lkp pc (codeOf μ) = some (p0, i, len, a, b, z)) : okB (p0, i, len, a, b, z) = true := by
  have h3 := okN_all μ hμ
  unfold okN at h3
  rw [Bool.and_eq_true] at h3
  exact List.all_eq_true.mp h3.2 _ (lkp_in h).1
theorem tg_of {pc : Nat} {off : Int} (h : okOff pc off = true) : (pc : Int) + off = (tg pc off : Int) := by
  have h1 : 0 ≤ (pc : Int) + off := of_decide_eq_true h
  unfold tg
  omega
theorem inb_in {i : Int32} {n : Nat} (h : inb i n = true) : vp_in i n := by
  unfold inb at h
  simp only [Bool.and_eq_true, Bool.not_eq_true', decide_eq_false_iff_not, decide_eq_true_eq] at h
  intro q
  rcases q with q | q
  · exact h.1 q
  · omega
theorem layW : ∀ a, a ≤ 10 → ∀ w ∈ u_ws (clsN a) (TT a) (nF a), w ∈ lwG := by
  have key : ∀ a, a < 11 → ((u_ws (clsN a) (TT a) (nF a)).all (fun w => decide (w ∈ tables_1) && goodWord w)) = true := by decide +kernel
  intro a ha w hw
  have h := List.all_eq_true.mp (key a (by omega)) w hw
  simp only [Bool.and_eq_true, decide_eq_true_eq] at h
  exact inG h.1 h.2
theorem vwCl_at : ∀ a, a ≤ 10 → vwCl[a]? = some (clsN a, TT a, nF a) := fun a ha => match a, ha with
  | 0, _ => rfl | 1, _ => rfl | 2, _ => rfl | 3, _ => rfl | 4, _ => rfl | 5, _ => rfl | 6, _ => rfl | 7, _ => rfl | 8, _ => rfl | 9, _ => rfl | 10, _ => rfl
  | k + 11, h => absurd h (by omega)
theorem TT_cls : ∀ a, a < 11 → ∀ k, k < nF a → (TT a k).1 = clsN a := by decide +kernel
theorem TT_ty : ∀ a, a < 11 → ∀ k, k < nF a → parseFieldDescriptor (TT a k).2.2.1 = some (tyT a k) := by decide +kernel
theorem TT_nm : ∀ a, a < 11 → ∀ j, j < nF a → ∀ k, k < nF a → j ≠ k → (TT a j).2.1 ≠ (TT a k).2.1 := by decide +kernel
theorem TT_k0 : ∀ a, a < 11 → ∀ k, k < nF a → fK a k = 0 → tyT a k = .int := by decide +kernel
theorem TT_k1 : ∀ a, a < 11 → ∀ k, k < nF a → fK a k = 1 → tyT a k = .boolean := by decide +kernel
theorem fK_le : ∀ a, a < 11 → ∀ k, k < nF a → fK a k ≤ 2 := by decide +kernel
theorem isB_or {x : Int32} (h : isB x = true) : x = 0 ∨ x = 1 := by
  unfold isB at h
  simpa using h
theorem World_D {B : Nat} {G : GG} {hp : HP} : va_D (inA B) (World B G hp) := by
  refine ⟨fun i j p q hi hj hpq => ?_, fun k q hk => ?_⟩
  · rw [World_at] at hi hj
    obtain ⟨r, h1, h2⟩ := Option.map_eq_some_iff.mp hi
    obtain ⟨r', h3, h4⟩ := Option.map_eq_some_iff.mp hj
    subst h2
    subst h4
    simp only at hpq
    omega
  · rw [World_at] at hk
    obtain ⟨r, h1, h2⟩ := Option.map_eq_some_iff.mp hk
    subst h2
    have := (List.getElem?_eq_some_iff.mp h1).1
    rw [allR_len] at this
    exact ⟨Nat.le_add_right _ _, by simp only; omega⟩
