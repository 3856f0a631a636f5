/-! ===== the small machine is the machine: methods that throw ===== -/
section THR
variable {p : Program} {l : Launch} {e : Env} {R : Room} {s : State} {m : MethodId} {sargs : Array Value} {below : List Frame} {meth : Method} {c : Code} {Q : State → Prop}
variable {B d μ nL pc len a b p0 : Nat} {D : va_G} {G : GG} {adK adV adM : Nat → Nat} {z : Int32}
variable {ls : List (Option VL)} {st : List VL} {hp hp1 : HP} {H : Heap} {locs : List Loc} {sl : Array Slot}
def excN (E : Nat) : String := match E with
  | 1 => "java/lang/IllegalStateException" | 2 => "java/lang/IllegalArgumentException" | _ => "java/lang/IndexOutOfBoundsException"
def excS : List String := ["java/lang/RuntimeException", "java/lang/Exception"]
/-- the throws: the method, where, its links (the class, the text, the constructor), the kind, the text's number -/
def thrL : List (Nat × Nat × Nat × Nat × Nat × Nat × Nat) := [(136, 10, 361, 363, 365, 1, 0), (139, 17, 361, 381, 365, 1, 1), (141, 7, 361, 383, 365, 1, 2), (148, 4, 385, 387, 389, 3, 3), (149, 4, 390, 392, 394, 2, 4)]
def msgS (t : Nat) : String := match t with
  | 0 => "there is no change to undo" | 1 => "nothing is saved there" | 2 => "no text was loaded" | 3 => "there is no such bar, line, column or index" | _ => "an argument is out of range, or the text has an error"
def thrAll (μ : Nat) : Bool := (codeOf μ).all (fun en => match en.2.1 with
  | .new idx => thrL.any (fun x => decide (x.1 = μ) && decide (x.2.1 = en.1) && decide (x.2.2.1 = idx) && decide (x.2.2.2.2.2.1 = en.2.2.2.1)) | _ => true)
theorem thrAll_ok : ∀ μ, μ < 290 → thrAll μ = true := by decide +kernel
theorem thr_code : ∀ x ∈ thrL, x.1 < 290 ∧ clOf x.1 = 9 ∧ decode (bytesOf x.1) x.2.1 = .ok (.new x.2.2.1, 3) ∧ decode (bytesOf x.1) (x.2.1 + 3) = .ok (.dup, 1) ∧ decode (bytesOf x.1) (x.2.1 + 4) = .ok (.ldc_w x.2.2.2.1, 3) ∧ decode (bytesOf x.1) (x.2.1 + 7) = .ok (.invokespecial x.2.2.2.2.1, 3) ∧ decode (bytesOf x.1) (x.2.1 + 10) = .ok (.athrow, 1) := by decide +kernel
def nwX : List Jvm.Cond := [.castable (excN 1) (excN 1), .castable (excN 2) (excN 2), .castable (excN 3) (excN 3), .declares (Bundle.initS "java/lang/RuntimeException"), .declares (Bundle.initS "java/lang/Exception"), .declares (Bundle.initS Bundle.tN)]
theorem nwX_in : ∀ w ∈ nwX, w ∈ tables_1 := by decide +kernel
theorem thr_words : ∀ x ∈ thrL, Jvm.Cond.classLink RX9 x.2.2.1 (excN x.2.2.2.2.2.1) ∈ tables_1 ∧ Jvm.Cond.initialized (excN x.2.2.2.2.2.1) ∈ tables_1 ∧ ((vx_atS RX9 x.2.2.2.2.1 (excN x.2.2.2.2.2.1) excS).all (fun w => (decide (w ∈ lw_tbl) && goodWord w) || decide (w ∈ nwX))) = true := by decide +kernel
theorem thr_fit : ∀ x ∈ thrL, Bundle.fit (excN x.2.2.2.2.2.1) = true := by decide +kernel
theorem thr_ot : ∀ x ∈ thrL, ((Jvm.Cond.classLink RX9 x.2.2.1 (excN x.2.2.2.2.2.1) :: Jvm.Cond.initialized (excN x.2.2.2.2.2.1) :: vx_atS RX9 x.2.2.2.2.1 (excN x.2.2.2.2.2.1) excS).all vx_ot) = true := by decide +kernel
theorem excS_fit : ∀ n ∈ excS, Bundle.fit n = true := by decide +kernel
def ENVX (B : Nat) (adM : Nat → Nat) (U : State) : Prop := (∀ w ∈ nwX, va_Nw w U) ∧ vx_Zq Bundle.tN "UNASSIGNED_STACK" Bundle.steD (inA B) U U.heap ∧ vx_Zq Bundle.tN "SUPPRESSED_SENTINEL" Bundle.listD (inA B) U U.heap ∧ ∀ x ∈ thrL, vk_R RX9 x.2.2.2.1 (msgS x.2.2.2.2.2.2) (adM x.2.2.2.2.2.2) U
theorem ENVX.warm {s U : State} (h : ENVX B adM s) (hW : s.WarmedH U.vm) (hq : ∀ q : Nat, q < s.heap.size → ¬ inA B q → U.heap[q]? = s.heap[q]?) : ENVX B adM U := by
  obtain ⟨h1, h2, h3, h4⟩ := h
  refine ⟨fun w hw => ?_, (h2.moved hW.alike).kept hq, (h3.moved hW.alike).kept hq, fun x hx => (h4 x hx).warm hW⟩
  have h0 := h1 w hw
  simp only [nwX, List.mem_cons, List.not_mem_nil, or_false] at hw
  rcases hw with rfl | rfl | rfl | rfl | rfl | rfl
  · exact va_Nw.warmC hW h0
  · exact va_Nw.warmC hW h0
  · exact va_Nw.warmC hW h0
  · exact va_Nw.warmD hW h0
  · exact va_Nw.warmD hW h0
  · exact va_Nw.warmD hW h0
def rmX (d : Nat) : Room := { frames := d, cells := 1, slots := 6, locals := 36 * d }
def XCS (B : Nat) (D : va_G) (G : GG) (E : Nat) (hp1 : HP) : String → State → State → Prop := fun E' st t => E' = excN E ∧ va_P D vwCl (World B G hp1) t.heap ∧ va_F (inA B) st t
def PcX (B : Nat) (D : va_G) (G : GG) (adK adV adM : Nat → Nat) (args : List VL) (hp : HP) : Array Value → State → Prop := fun av U => PcS B D G adK adV args hp av U ∧ ENVX B adM U
def QNo : Array Value → State → Outcome → State → Prop := fun _ _ _ _ => False
def TMet (l : Launch) (B : Nat) (D : va_G) (G : GG) (adK adV adM : Nat → Nat) (d μ : Nat) (args : List VL) (hp : HP) (E : Nat) (hp1 : HP) : Prop :=
  vx_Met l (nameOf μ) (wsOf μ) (rmX d) (PcX B D G adK adV adM args hp) QNo (XCS B D G E hp1) 1 6 (inA B)
theorem XCS.of {hp1 : HP} {E : Nat} {E' : String} {t : State} (hE : E' = excN E) (hP : va_P D vwCl (World B G hp1) t.heap) (hS : va_S (inA B) s.heap t.heap locs) : XCS B D G E hp1 E' s t := ⟨hE, hP, hS.F rfl⟩
/-- behind a call that throws: it goes on to the caller -/
theorem my_callT {E : Nat} {rest : List Value} {st0 : List Value} (hout : ∀ x ∈ c.exceptionTable.toList, False) (hlocks : meth.locks = false)
    (hr : vx_Run p l e R s m sargs below meth c H locs 0 0 1 6 (F0 m pc sl st0) rest (fun _ _ _ => False) (XCS B D G E hp1) (inA B)) (hS : va_S (inA B) s.heap H locs) : W p l e R s m sargs below meth c H locs 0 0 (vx_MQ below QNo (XCS B D G E hp1) sargs s 1 6 (inA B)) (F0 m pc sl st0) := by
  intro T hT X
  rcases hr T hT X with ⟨v, st₀, t, T', L, -, -, -, -, -, hf, -⟩ | ⟨q, st₀, t, T', L, E', ce, h0, X', hL, e1, e2, hx, hc, hv, hcl, stp⟩
  · exact hf.elim
  · obtain ⟨hE, hP, hF⟩ := hx
    have hS2 : va_S (inA B) s.heap T'.heap (locs ++ L) := by
      refine ⟨?_, fun q h1 h2 => ?_, fun q hq => ?_⟩
      · have h1 := hF.1
        rw [h0] at h1
        rw [e1]
        exact Nat.le_trans hS.1 h1
      · have h3 := hF.2 q (by rw [h0]; exact Nat.lt_of_lt_of_le h1 hS.1) h2
        rw [h0] at h3
        rw [e1, h3]
        exact hS.2.1 q h1 h2
      · rcases List.mem_append.mp hq with h | h
        · exact hS.2.2 q h
        · exact hL q h
    have hw : vx_W p l e R s m sargs below meth c T'.heap (locs ++ L) (0 + 1) (0 + 6) (vx_MQ below QNo (XCS B D G E hp1) sargs s 1 6 (inA B)) (F0 m pc sl rest) q :=
      vx_out (E := E') (ce := ce) (fun x hx => (hout x hx).elim) hlocks (by rw [e1]; exact hc) hv hcl (fun t2 ht2 _ => ⟨hE, by rw [ht2, e1]; exact hP, hS2.F ht2⟩) (fun z hz => hS2.2.2 z hz) (Nat.le_refl _) (Nat.le_refl _)
    obtain ⟨t2, a1, b1⟩ := hw T' rfl X'
    exact ⟨t2, stp.trans a1, b1⟩
theorem thr_at {i : Instr} {E : Nat} (hμ : μ < 290) (hlk : lkp pc (codeOf μ) = some (p0, i, len, a, b, z)) (he : exec1 i len a b z d pc ls st hp = aThr E) : ∃ x ∈ thrL, x.1 = μ ∧ x.2.1 = pc ∧ i = .new x.2.2.1 ∧ x.2.2.2.2.2.1 = E ∧ 6 ≤ d ∧ st = [] := by
  by_cases hc : contI i = true
  · obtain ⟨w, hw⟩ := exec1_cont hc he
    cases hw
  cases i <;> try exact absurd (show (true : Bool) = true from rfl) hc
  case new idx =>
    have he2 : (match (generalizing := false) d, st with | _ + 6, [] => aThr a | _, _ => none) = aThr E := he
    split at he2
    · cases he2
      have h := List.all_eq_true.mp (thrAll_ok μ hμ) _ (lkp_in hlk).1
      simp only at h
      obtain ⟨x, hx, hx2⟩ := List.any_eq_true.mp h
      simp only [Bool.and_eq_true, decide_eq_true_eq] at hx2
      obtain ⟨⟨⟨h1, h2⟩, h3⟩, h4⟩ := hx2
      have hp0 := (lkp_in hlk).2
      simp only at hp0
      exact ⟨x, hx, h1, by rw [h2, hp0], by rw [h3], h4, by omega, rfl⟩
    · cases he2
  all_goals
    exfalso
    simp only [exec1, aC, aCall, aRet, aThr] at he
    repeat' split at he
    all_goals cases he
end THR
