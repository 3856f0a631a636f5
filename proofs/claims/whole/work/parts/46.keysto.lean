/-! ===== the fewest keys to a column ===== -/
section
variable {T : Tr0} {s W : Nat}
/-- one key leads from a column to another -/
def edT (T : Tr0) (c t : Nat) : Prop := t = tn (tabT T c) ∨ t = tn (bkT T (nI c)) ∨ (lkT T (nI c) = 0 ∧ t = c + 1)
/-- a column is reached within k keys; with k keys and no fewer -/
def rcT (T : Tr0) (s W : Nat) : Nat → Nat → Prop
  | 0, c => c = s
  | k + 1, c => rcT T s W k c ∨ ∃ b, b ≤ W ∧ rcT T s W k b ∧ edT T b c
def lvT2 (T : Tr0) (s W k c : Nat) : Prop := rcT T s W k c ∧ ∀ i, i < k → ¬ rcT T s W i c
theorem rc_mono {k j c : Nat} (h : rcT T s W k c) (hj : k ≤ j) : rcT T s W j c := by
  obtain ⟨d, rfl⟩ : ∃ d, j = k + d := ⟨j - k, by omega⟩
  clear hj
  induction d with
  | zero => exact h
  | succ d ih => exact Or.inl ih
theorem lv_of {k c : Nat} (h : rcT T s W k c) : ∃ j, j ≤ k ∧ lvT2 T s W j c := by
  induction k with
  | zero => exact ⟨0, Nat.le_refl _, h, fun i hi => absurd hi (by omega)⟩
  | succ k ih =>
    by_cases q : rcT T s W k c
    · obtain ⟨j, j1, j2⟩ := ih q; exact ⟨j, by omega, j2⟩
    · exact ⟨k + 1, Nat.le_refl _, h, fun i hi p => q (rc_mono p (by omega))⟩
theorem lv_u {j k c : Nat} (h : lvT2 T s W j c) (h' : lvT2 T s W k c) : j = k := by
  by_cases a : j < k
  · exact absurd h.1 (h'.2 j a)
  · by_cases b : k < j
    · exact absurd h'.1 (h.2 k b)
    · omega
def enc (x : Option Nat) : Int32 := match x with | none => m1 | some d => nI d
theorem enc_m1 {x : Option Nat} (h : ∀ d, x = some d → d < 100000) : enc x = m1 ↔ x = none := by
  cases x with
  | none => exact ⟨fun _ => rfl, fun _ => rfl⟩
  | some d => exact ⟨fun q => absurd q (n_m1 (by have := h d rfl; omega)), fun q => by cases q⟩
def roF (r : Nat → Option Nat) (t d : Nat) : Nat → Option Nat := if r t = none then (fun c => if c = t then some d else r c) else r
-- what the class's pass keeps
def QcP (T : Tr0) (s W k : Nat) (S : Nat → Nat → Prop) (r : Nat → Option Nat) : Prop := ∀ c, c ≤ W → (∃ j, j ≤ k ∧ r c = some j ∧ lvT2 T s W j c) ∨ (r c = some (k + 1) ∧ ¬ rcT T s W k c ∧ ∃ b, b ≤ W ∧ rcT T s W k b ∧ edT T b c) ∨ (r c = none ∧ ¬ rcT T s W k c ∧ ∀ b, b ≤ W → S b c → edT T b c → ¬ lvT2 T s W k b)
theorem Qc_reach {k : Nat} {S : Nat → Nat → Prop} {r : Nat → Option Nat} {a t : Nat} (h : QcP T s W k S r) (ha : a ≤ W) (hl : lvT2 T s W k a) (he : edT T a t) (ht : t ≤ W) : QcP T s W k (fun b c => S b c ∨ (b = a ∧ c = t)) (roF r t (k + 1)) := by
  intro c hc
  unfold roF
  by_cases q : r t = none
  · rw [if_pos q]
    by_cases e : c = t
    · subst e
      rw [if_pos rfl]
      rcases h c hc with ⟨j, j1, j2, j3⟩ | ⟨j2, _⟩ | ⟨_, j3, _⟩
      · rw [q] at j2; cases j2
      · rw [q] at j2; cases j2
      · exact Or.inr (Or.inl ⟨rfl, j3, a, ha, hl.1, he⟩)
    · rw [if_neg e]
      rcases h c hc with h1 | h1 | ⟨h1, h2, h3⟩
      · exact Or.inl h1
      · exact Or.inr (Or.inl h1)
      · exact Or.inr (Or.inr ⟨h1, h2, fun b hb hs => h3 b hb (hs.resolve_right (fun p => e p.2))⟩)
  · rw [if_neg q]
    rcases h c hc with h1 | h1 | ⟨h1, h2, h3⟩
    · exact Or.inl h1
    · exact Or.inr (Or.inl h1)
    · by_cases e : c = t
      · rw [e] at h1; exact absurd h1 q
      · exact Or.inr (Or.inr ⟨h1, h2, fun b hb hs => h3 b hb (hs.resolve_right (fun p => e p.2))⟩)
theorem Qc_weak {k : Nat} {S S' : Nat → Nat → Prop} {r : Nat → Option Nat} (h : QcP T s W k S r) (e : ∀ b c, b ≤ W → c ≤ W → S' b c → edT T b c → lvT2 T s W k b → S b c) : QcP T s W k S' r := by
  intro c hc
  rcases h c hc with h1 | h1 | ⟨h1, h2, h3⟩
  · exact Or.inl h1
  · exact Or.inr (Or.inl h1)
  · exact Or.inr (Or.inr ⟨h1, h2, fun b hb hs he hl => h3 b hb (e b c hb hc hs he hl) he hl⟩)
def PcP (T : Tr0) (s W k : Nat) (r : Nat → Option Nat) : Prop := ∀ c, c ≤ W → (∃ j, j ≤ k ∧ r c = some j ∧ lvT2 T s W j c) ∨ (r c = none ∧ ¬ rcT T s W k c)
theorem Pc_start {k : Nat} {r : Nat → Option Nat} (h : PcP T s W k r) : QcP T s W k (fun b _ => b < 0) r := by
  intro c hc
  rcases h c hc with h1 | ⟨h1, h2⟩
  · exact Or.inl h1
  · exact Or.inr (Or.inr ⟨h1, h2, fun b _ hs => absurd hs (by omega)⟩)
theorem Pc_end {k : Nat} {r : Nat → Option Nat} (h : QcP T s W k (fun b _ => b < W + 1) r) : PcP T s W (k + 1) r := by
  intro c hc
  rcases h c hc with ⟨j, j1, j2, j3⟩ | ⟨h1, h2, b, b1, b2, b3⟩ | ⟨h1, h2, h3⟩
  · exact Or.inl ⟨j, by omega, j2, j3⟩
  · exact Or.inl ⟨k + 1, Nat.le_refl _, h1, Or.inr ⟨b, b1, b2, b3⟩, fun i hi p => h2 (rc_mono p (by omega))⟩
  · refine Or.inr ⟨h1, fun p => ?_⟩
    rcases p with p | ⟨b, b1, b2, b3⟩
    · exact h2 p
    · obtain ⟨j, j1, j2⟩ := lv_of b2
      by_cases e : j = k
      · subst e; exact h3 b b1 (by omega) b3 j2
      · exact h2 (rc_mono (k := j + 1) (Or.inr ⟨b, b1, j2.1, b3⟩) (by omega))
-- what the reference's queue keeps
def JmP (T : Tr0) (s W k : Nat) (S : Nat → Nat → Prop) (f : Nat → Option Nat) (q : Nat → Nat) (qn : Nat) : Prop :=
  (∀ i, i < qn → q i ≤ W ∧ ∃ d, d ≤ i ∧ f (q i) = some d) ∧ (∀ c, c ≤ W → f c = none ∨ ∃ i, i < qn ∧ q i = c) ∧ (∀ c d, c ≤ W → f c = some d → rcT T s W d c) ∧ (∀ i j d e, i < j → j < qn → f (q i) = some d → f (q j) = some e → d ≤ e) ∧ (∀ b c d, b ≤ W → c ≤ W → S b c → edT T b c → f b = some d → ∃ e, f c = some e ∧ e ≤ d + 1) ∧ (∀ i d e, i < qn → k < qn → f (q k) = some d → f (q i) = some e → e ≤ d + 1) ∧ f s = some 0 ∧ (∀ b c, S b c → f b ≠ none)
def cnF (f : Nat → Option Nat) : Nat → Nat
  | 0 => 0
  | n + 1 => cnF f n + (if f n = none then 0 else 1)
theorem cnF_le (f : Nat → Option Nat) : ∀ n, cnF f n ≤ n := by
  intro n
  induction n with
  | zero => exact Nat.le_refl _
  | succ n ih => show cnF f n + (if f n = none then 0 else 1) ≤ n + 1; split <;> omega
theorem cnF_up {f : Nat → Option Nat} {t d : Nat} (h : f t = none) : ∀ n, cnF (fun c => if c = t then some d else f c) n = cnF f n + (if t < n then 1 else 0) := by
  intro n
  induction n with
  | zero => rfl
  | succ n ih =>
    show cnF (fun c => if c = t then some d else f c) n + (if (if n = t then some d else f n) = none then 0 else 1) = cnF f n + (if f n = none then 0 else 1) + (if t < n + 1 then 1 else 0)
    rw [ih]
    by_cases e : n = t
    · subst e
      rw [if_pos rfl, if_neg (show ¬ (some d : Option Nat) = none by simp), if_pos h, if_neg (by omega), if_pos (by omega)]
    · rw [if_neg e]
      by_cases e2 : t < n
      · simp only [e2, if_true, show t < n + 1 by omega]; omega
      · simp only [e2, if_false, show ¬ t < n + 1 by omega]; omega
theorem Jm_reach {k : Nat} {S : Nat → Nat → Prop} {f : Nat → Option Nat} {q : Nat → Nat} {qn t d : Nat} (h : JmP T s W k S f q qn) (hk : k < qn) (hd : f (q k) = some d) (he : edT T (q k) t) (ht : t ≤ W) (hcn : cnF f (W + 1) = qn) : ∃ f' q' qn', (f' = if f t = none then (fun c => if c = t then some (d + 1) else f c) else f) ∧ (q' = if f t = none then (fun i => if i = qn then t else q i) else q) ∧ (qn' = if f t = none then qn + 1 else qn) ∧ JmP T s W k (fun b c => S b c ∨ (b = q k ∧ c = t)) f' q' qn' ∧ cnF f' (W + 1) = qn' ∧ k < qn' ∧ q' k = q k ∧ f' (q k) = some d := by
  refine ⟨_, _, _, rfl, rfl, rfl, ?_⟩
  obtain ⟨a1, a2, a3, a4, a5, a6, a7, a8⟩ := h
  by_cases e : f t = none
  · rw [if_pos e, if_pos e, if_pos e]
    have ne : ∀ i, i < qn → q i ≠ t := fun i hi p => by
      obtain ⟨_, x, _, x2⟩ := a1 i hi
      rw [p, e] at x2; cases x2
    have fq : ∀ i, i < qn → (if q i = t then some (d + 1) else f (q i)) = f (q i) := fun i hi => if_neg (ne i hi)
    have qq : ∀ i, i < qn → (if i = qn then t else q i) = q i := fun i hi => if_neg (by omega)
    have kd := a1 k hk
    refine ⟨⟨?_, ?_, ?_, ?_, ?_, ?_, ?_, ?_⟩, ?_, by omega, qq k hk, ?_⟩
    · intro i hi
      by_cases p : i = qn
      · subst p
        simp only [if_true]
        obtain ⟨_, x, x1, x2⟩ := a1 k hk
        rw [hd] at x2; cases x2
        exact ⟨ht, d + 1, by omega, rfl⟩
      · obtain ⟨x0, x, x1, x2⟩ := a1 i (by omega)
        simp only [if_neg p]
        exact ⟨x0, x, x1, by rw [fq i (by omega)]; exact x2⟩
    · intro c hc
      by_cases p : c = t
      · exact Or.inr ⟨qn, by omega, by simp [p]⟩
      · simp only [if_neg p]
        rcases a2 c hc with g | ⟨i, i1, i2⟩
        · exact Or.inl g
        · exact Or.inr ⟨i, by omega, by rw [qq i i1]; exact i2⟩
    · intro c x hc hx
      by_cases p : c = t
      · subst p
        simp only [if_true] at hx
        cases hx
        exact Or.inr ⟨q k, kd.1, a3 _ _ kd.1 hd, he⟩
      · simp only [if_neg p] at hx
        exact a3 c x hc hx
    · intro i j x y hij hj hx hy
      dsimp only at hx hy
      have hi : i < qn := by omega
      rw [qq i hi, fq i hi] at hx
      by_cases p : j = qn
      · subst p
        simp only [if_true] at hy
        cases hy
        exact a6 i d x hi hk hd hx
      · rw [qq j (by omega), fq j (by omega)] at hy
        exact a4 i j x y hij (by omega) hx hy
    · intro b c x hb hc hs hbc hx
      by_cases p : b = t
      · subst p
        rcases hs with hs | ⟨hs, hs2⟩
        · by_cases p2 : c = b
          · subst p2; simp only [if_true] at hx ⊢; exact ⟨_, rfl, by cases hx; omega⟩
          · exact absurd e (a8 b c hs)
        · exact absurd hs.symm (ne k hk)
      · simp only [if_neg p] at hx
        by_cases p2 : c = t
        · subst p2
          simp only [if_true]
          rcases hs with hs | ⟨hs, _⟩
          · obtain ⟨y, y1, y2⟩ := a5 b c x hb hc hs hbc hx
            rw [e] at y1; cases y1
          · rw [hs, hd] at hx; cases hx; exact ⟨_, rfl, Nat.le_refl _⟩
        · simp only [if_neg p2]
          rcases hs with hs | ⟨_, hs⟩
          · exact a5 b c x hb hc hs hbc hx
          · exact absurd hs p2
    · intro i x y hi hk' hx hy
      dsimp only at hx hy
      rw [qq k hk, fq k hk, hd] at hx
      cases hx
      by_cases p : i = qn
      · subst p; simp only [if_true] at hy; cases hy; exact Nat.le_refl _
      · rw [qq i (by omega), fq i (by omega)] at hy
        exact a6 i d y (by omega) hk hd hy
    · by_cases p : s = t
      · rw [← p, a7] at e; cases e
      · simp only [if_neg p]; exact a7
    · intro b c hs
      by_cases p : b = t
      · simp [p]
      · simp only [if_neg p]
        rcases hs with hs | ⟨hs, _⟩
        · exact a8 b c hs
        · rw [hs, hd]; simp
    · rw [cnF_up e, hcn, if_pos (by omega)]
    · rw [fq k hk]; exact hd
  · rw [if_neg e, if_neg e, if_neg e]
    refine ⟨⟨a1, a2, a3, a4, ?_, a6, a7, ?_⟩, hcn, hk, rfl, hd⟩
    rotate_left
    · intro b c hs
      rcases hs with hs | ⟨hs, _⟩
      · exact a8 b c hs
      · rw [hs, hd]; simp
    intro b c x hb hc hs hbc hx
    rcases hs with hs | ⟨h1, h2⟩
    · exact a5 b c x hb hc hs hbc hx
    · subst h2
      rw [h1, hd] at hx; cases hx
      rcases a2 c ht with g | ⟨i, i1, i2⟩
      · exact absurd g e
      · obtain ⟨_, y, _, y2⟩ := a1 i i1
        rw [i2] at y2
        exact ⟨y, y2, a6 i d y i1 hk hd (by rw [i2]; exact y2)⟩
end
