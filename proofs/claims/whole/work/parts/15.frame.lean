/-! ===== the small machine is the machine: whole methods that return ===== -/
section FRM
variable {p : Program} {l : Launch} {e : Env} {R : Room} {s : State} {m : MethodId} {sargs : Array Value} {below : List Frame} {meth : Method} {c : Code} {Q : State → Prop}
variable {B d μ nL pc len a b p0 : Nat} {D : va_G} {G : GG} {adK adV : Nat → Nat} {z : Int32}
variable {ls : List (Option VL)} {st : List VL} {hp hp1 : HP} {H : Heap} {locs : List Loc} {sl : Array Slot}
/-- a method's end, with what it answers -/
def QcR (B : Nat) (D : va_G) (G : GG) (adK : Nat → Nat) (v : Option VL) (hp1 : HP) : Array Value → State → Outcome → State → Prop := fun av st oc t => QcS B D G adK v hp1 av st oc t ∧ ∀ w, v = some w → okV w
def RMet (l : Launch) (B : Nat) (D : va_G) (G : GG) (adK adV : Nat → Nat) (d μ : Nat) (args : List VL) (hp : HP) (v : Option VL) (hp1 : HP) : Prop :=
  Met l (nameOf μ) (wsOf μ) (rmD d) (PcS B D G adK adV args hp) (QcR B D G adK v hp1) 0 0 (inA B)
theorem ret_sim (hCX : CXX p l B D G adK adV μ s m sargs meth c) {i : Instr} {v : Option VL} (hlk : lkp pc (codeOf μ) = some (p0, i, len, a, b, z)) (he : exec1 i len a b z d pc ls st hp = aRet v)
    (hS : STt B D G adK s sl (maxOf μ) ls st hp H locs) : W p l e R s m sargs below meth c H locs 0 0 (MQ below (QcR B D G adK v hp) sargs s 0 0 (inA B)) (F0 m pc sl (st.map (toV B adK))) := by
  obtain ⟨hx, hb, hml, hown, hts, hr, hlocks, hE, hJ, hμ⟩ := id hCX
  obtain ⟨hd, hlen, hok⟩ := ok_at hμ hlk
  by_cases hc : contI i = true
  · obtain ⟨w, hw⟩ := exec1_cont hc he
    cases hw
  have hQ : ∀ (w : Option VL), (∀ u, w = some u → okV u) → ∀ t : State, t.heap = H → QcR B D G adK w hp sargs s (.returned (w.map (toV B adK))) t := fun w hw t ht => ⟨⟨rfl, by rw [ht]; exact hS.1, hS.2.1.F ht⟩, hw⟩
  cases i <;> try exact absurd (show (true : Bool) = true from rfl) hc
  case invokevirtual idx =>
    exfalso
    replace he : (if a = 1004 then (match (generalizing := false) d, st with | _ + 5, .inr (.inl r) :: st => if r.1 = 20 ∧ catL st ≤ 8 then aC (pc + len) ls (vI (nI (txt r.2.1).length) :: st) hp else none | _, _ => none)
      else if a = 1005 then (match (generalizing := false) d, st with | _ + 5, .inl j :: .inr (.inl r) :: st => if r.1 = 20 ∧ catL st ≤ 8 then (if inb j (txt r.2.1).length = true then aC (pc + len) ls (vI ((txt r.2.1).getD j.toNatClampNeg 0) :: st) hp else none) else none | _, _ => none)
      else (match (generalizing := false) st.drop (b % 16 - 1) with | .inr (.inl r) :: rest => if r.1 = b / 16 ∧ 1 ≤ b % 16 ∧ catL rest ≤ 8 then aCall a (vR r :: (st.take (b % 16 - 1)).reverse) rest else none | _ => none)) = aRet v := he
    repeat' split at he
    all_goals cases he
  case invokestatic idx =>
    exfalso
    replace he : (if a = 1000 then (match (generalizing := false) d, st with | _ + 1, .inl y :: .inl x :: st => if catL st ≤ 8 then aC (pc + len) ls (vI (imax x y) :: st) hp else none | _, _ => none)
      else if a = 1001 then (match (generalizing := false) d, st with | _ + 1, .inl y :: .inl x :: st => if catL st ≤ 8 then aC (pc + len) ls (vI (imin x y) :: st) hp else none | _, _ => none)
      else if a = 1002 then (match (generalizing := false) d, st with | _ + 1, .inl x :: st => if catL st ≤ 8 then aC (pc + len) ls (vI (iabs x) :: st) hp else none | _, _ => none)
      else if a = 1003 then (match (generalizing := false) d, st with
        | _ + 2, .inl n :: .inl dp :: .inr (.inl r1) :: .inl sp :: .inr (.inl r0) :: st =>
          if r0.1 = 11 ∧ r1.1 = 11 ∧ ¬ r0 = r1 ∧ catL st ≤ 8 then (if sp = 0 ∧ dp = 0 ∧ ¬ n < 0 ∧ n.toNatClampNeg ≤ alen r0 ∧ n.toNatClampNeg ≤ alen r1 then aC (pc + len) ls st (cpA hp r0 r1 0 0 n.toNatClampNeg) else none) else none
        | _, _ => none)
      else if b ≤ st.length ∧ catL (st.drop b) ≤ 8 then aCall a (st.take b).reverse (st.drop b) else none) = aRet v := he
    repeat' split at he
    all_goals cases he
  case new idx =>
    exfalso
    replace he : (match (generalizing := false) d, st with | _ + 6, [] => aThr a | _, _ => none) = aRet v := he
    split at he <;> cases he
  case ireturn =>
    have hln : len = 1 := by simpa [isSw, lenI] using hlen
    subst hln
    rcases st with _ | ⟨x | _, _ | ⟨_, _⟩⟩
    all_goals try cases (show (none : Option ACT) = aRet v from he)
    replace he : (if a = 1 then (if isB x = true then aRet (some (vI x)) else none) else aRet (some (vI x))) = aRet v := he
    have hret : retOf μ = if a = 1 then some .boolean else some .int := by
      have h := hok
      unfold okL at h
      simpa only [decide_eq_true_eq] using h
    by_cases ha : a = 1
    · rw [if_pos ha] at he hret
      by_cases hB : isB x = true
      · rw [if_pos hB] at he
        cases he
        exact W.zret hx hb (hr.trans hret) (okB_0 hB) (fun t ht _ => hQ (some (vI x)) (fun u hu => by cases hu; trivial) t ht) hS.2.1.2.2 hd hlocks
      · rw [if_neg hB] at he
        cases he
    · rw [if_neg ha] at he hret
      cases he
      exact W.iret hx hb (hr.trans hret) (fun t ht _ => hQ (some (vI x)) (fun u hu => by cases hu; trivial) t ht) hS.2.1.2.2 hd hlocks
  case areturn =>
    have hln : len = 1 := by simpa [isSw, lenI] using hlen
    subst hln
    rcases st with _ | ⟨_ | r | _, _ | ⟨_, _⟩⟩
    all_goals try cases (show (none : Option ACT) = aRet v from he)
    cases (show aRet (some (vR r)) = aRet v from he)
    have hret : ∃ n, retOf μ = some (.object n) := by
      have h : (match retOf μ with | some (.object _) => true | _ => false) = true := hok
      split at h
      · rename_i n hn
        exact ⟨n, hn⟩
      · cases h
    obtain ⟨n, hret⟩ := hret
    exact W.aret hx hb (hr.trans hret) (Or.inl ⟨n, rfl⟩) (Or.inr ⟨_, rfl⟩) (fun t ht _ => hQ (some (vR r)) (fun u hu => by cases hu; exact hS.2.2.2 _ List.mem_cons_self) t ht) hS.2.1.2.2 hd hlocks
  case dreturn =>
    have hln : len = 1 := by simpa [isSw, lenI] using hlen
    subst hln
    rcases st with _ | ⟨_ | _ | x | _, _ | ⟨_, _⟩⟩
    all_goals try cases (show (none : Option ACT) = aRet v from he)
    cases (show aRet (some (vD x)) = aRet v from he)
    have hret : retOf μ = some .double := by
      have h := hok
      unfold okL at h
      simpa only [decide_eq_true_eq] using h
    exact W.dret hx hb (hr.trans hret) (fun t ht _ => hQ (some (vD x)) (fun u hu => by cases hu; trivial) t ht) hS.2.1.2.2 hd hlocks
  case freturn =>
    have hln : len = 1 := by simpa [isSw, lenI] using hlen
    subst hln
    rcases st with _ | ⟨_ | _ | _ | x, _ | ⟨_, _⟩⟩
    all_goals try cases (show (none : Option ACT) = aRet v from he)
    cases (show aRet (some (vF x)) = aRet v from he)
    have hret : retOf μ = some .float := by
      have h := hok
      unfold okL at h
      simpa only [decide_eq_true_eq] using h
    exact W.fret hx hb (hr.trans hret) (fun t ht _ => hQ (some (vF x)) (fun u hu => by cases hu; trivial) t ht) hS.2.1.2.2 hd hlocks
  case return_ =>
    have hln : len = 1 := by simpa [isSw, lenI] using hlen
    subst hln
    rcases st with _ | ⟨_, _⟩
    all_goals try cases (show (none : Option ACT) = aRet v from he)
    cases (show aRet none = aRet v from he)
    have hret : retOf μ = none := by
      have h := hok
      unfold okL at h
      simpa only [decide_eq_true_eq] using h
    exact W.vret hx hb (hr.trans hret) (fun t ht _ => hQ none (fun u hu => by cases hu) t ht) hS.2.1.2.2 hd hlocks
/-- behind a call -/
theorem my_call {v : Option VL} {rest : List VL} {st0 : List Value} {ar : Array Value} (hr : va_Run p l e R s m sargs below meth c H locs 0 0 0 0 (F0 m pc sl st0) (rest.map (toV B adK)) (QcR B D G adK v hp1 ar) (inA B))
    (hS : STt B D G adK s sl nL ls rest hp H locs) (k : KKs p l e R s m sargs below meth c Q B D G adK nL (pc + 3) ls (v.toList ++ rest) hp1) : W p l e R s m sargs below meth c H locs 0 0 Q (F0 m pc sl st0) := by
  intro T hT X
  obtain ⟨w, st₀, t, T', L, h0, X', hL, e1, e2, ⟨⟨hw, hP, hF⟩, hv⟩, stp⟩ := hr T hT X
  cases hw
  have hS2 : STt B D G adK s sl nL ls (v.toList ++ rest) hp1 T'.heap (locs ++ L) := by
    refine ⟨by rw [e1]; exact hP, ⟨?_, fun q h1 h2 => ?_, fun q hq => ?_⟩, hS.2.2.1, fun w hw => ?_⟩
    · have h1 := hF.1
      rw [h0] at h1
      rw [e1]
      exact Nat.le_trans hS.2.1.1 h1
    · have h3 := hF.2 q (by rw [h0]; exact Nat.lt_of_lt_of_le h1 hS.2.1.1) h2
      rw [h0] at h3
      rw [e1, h3]
      exact hS.2.1.2.1 q h1 h2
    · rcases List.mem_append.mp hq with h | h
      · exact hS.2.1.2.2 q h
      · exact hL q h
    · rcases List.mem_append.mp hw with h | h
      · cases v with
        | none => cases h
        | some u =>
          simp only [Option.toList_some, List.mem_singleton] at h
          subst h
          exact hv _ rfl
      · exact hS.2.2.2 w h
  obtain ⟨t2, a1, b1⟩ := k T'.heap (locs ++ L) sl hS2 T' rfl X'
  refine ⟨t2, stp t2 ?_, b1⟩
  have hm : (v.toList ++ rest).map (toV B adK) = (v.map (toV B adK)).toList ++ rest.map (toV B adK) := by
    cases v <;> rfl
  rw [hm] at a1
  exact a1
def nA (μ : Nat) : Nat := (mus μ).2.2 + (if (mus μ).2.1 = true then 0 else 1)
def CallOK (l : Launch) (B : Nat) (D : va_G) (G : GG) (adK adV : Nat → Nat) (k : Nat) : Prop := ∀ (d μ : Nat) (args : List VL) (hp : HP) (v : Option VL) (hp1 : HP), μ < 290 → args.length = nA μ → (∀ w ∈ args, okI w) → run k d (codeOf μ) 0 (entryL args (maxOf μ)) [] hp = some (.inl v, hp1) → RMet l B D G adK adV d μ args hp v hp1
def RunOK (l : Launch) (B : Nat) (D : va_G) (G : GG) (adK adV : Nat → Nat) (k : Nat) : Prop := ∀ (d μ pc : Nat) (ls : List (Option VL)) (st : List VL) (hp : HP) (v : Option VL) (hp1 : HP), run k d (codeOf μ) pc ls st hp = some (.inl v, hp1) →
  ∀ (p : Program) (e : Env) (R : Room) (s : State) (m : MethodId) (sargs : Array Value) (below : List Frame) (meth : Method) (c : Code) (H : Heap) (locs : List Loc) (sl : Array Slot), CXX p l B D G adK adV μ s m sargs meth c → d ≤ R.frames → 36 * d ≤ R.locals → STt B D G adK s sl (maxOf μ) ls st hp H locs →
    W p l e R s m sargs below meth c H locs 0 0 (MQ below (QcR B D G adK v hp1) sargs s 0 0 (inA B)) (F0 m pc sl (st.map (toV B adK)))
theorem okW_at {μ : Nat} (hμ : μ < 290) : (nameOf μ).cls = clsN (clOf μ) ∧ plainName (nameOf μ).cls = true ∧ ((nameOf μ).cls ≠ "java/lang/invoke/MethodHandle" ∧ (nameOf μ).cls ≠ "java/lang/invoke/VarHandle") ∧ (parseMethodDescriptor (nameOf μ).desc).map (fun d => d.parameters.length) = some (mus μ).2.2 ∧ maxOf μ ≤ 17 ∧ nA μ ≤ maxOf μ := by
  have h := okM_all μ hμ
  unfold okM okW at h
  simp only [Bool.and_eq_true, decide_eq_true_eq] at h
  obtain ⟨-, ⟨⟨⟨⟨⟨h1, h2⟩, h3⟩, h4⟩, h5⟩, h6⟩, h7⟩ := h
  exact ⟨h1, h2, ⟨h3, h4⟩, h5, h6, h7⟩
theorem tabS_in {j : Nat} {w : Jvm.Cond} (h : w ∈ tabS j) (hg : goodWord w = true) : w ∈ lwG := by
  unfold tabS at h
  by_cases hj : j = 0
  · rw [if_pos hj] at h
    exact List.mem_filter.mpr ⟨List.mem_append_left _ h, hg⟩
  · rw [if_neg hj] at h
    exact inG (tabC_in h) hg
theorem okD_at {μ : Nat} (hμ : μ < 290) : Jvm.Cond.code (nameOf μ) (bytesOf μ) (maxOf μ) (retOf μ) ∈ lwG ∧ Jvm.Cond.initialized (clsN (clOf μ)) ∈ lwG ∧ ((mus μ).2.1 = true → Jvm.Cond.static (nameOf μ) ∈ lwG) ∧ ((mus μ).2.1 = false → Jvm.Cond.instanceMethod (nameOf μ) ∈ lwG ∧ Jvm.Cond.selects (clsN (clOf μ)) (nameOf μ) (nameOf μ) ∈ lwG) := by
  have h := okN_all μ hμ
  unfold okN okD2 at h
  simp only [Bool.and_eq_true, decide_eq_true_eq] at h
  obtain ⟨⟨⟨h1, h2⟩, h3⟩, -⟩ := h
  refine ⟨inG (tabC_in (List.mem_of_getElem? h1)) rfl, inG (tabC_in (List.mem_of_getElem? h2)) rfl, fun hs => ?_, fun hs => ?_⟩
  · rw [if_pos hs] at h3
    exact inG (tabC_in (List.mem_of_getElem? (of_decide_eq_true h3))) rfl
  · rw [if_neg (by rw [hs]; decide)] at h3
    simp only [Bool.and_eq_true, decide_eq_true_eq] at h3
    exact ⟨inG (tabC_in (List.mem_of_getElem? h3.1)) rfl, tabS_in (List.mem_of_getElem? h3.2) rfl⟩
end FRM
