/-! more of counts, firsts, bests; lists of naturals below n -/
theorem cn_one {p q : Nat → Bool} {t : Nat} (h : ∀ i, i ≠ t → p i = q i) : ∀ {n : Nat}, t < n → cn_ p n + (if q t = true then 1 else 0) = cn_ q n + (if p t = true then 1 else 0)
  | 0, ht => by omega
  | n + 1, ht => by
    show cn_ p n + (if p n = true then 1 else 0) + _ = cn_ q n + (if q n = true then 1 else 0) + _
    rcases Nat.lt_or_ge t n with c | c
    · have := cn_one h c
      rw [h n (by omega)]
      omega
    · have e : t = n := by omega
      subst e
      rw [cn_eq (p := p) (q := q) (fun i hi => h i (by omega))]
      omega
theorem cn_len (p : Nat → Bool) : ∀ n, cn_ p n = ((List.range n).filter p).length
  | 0 => rfl
  | n + 1 => by
    rw [List.range_succ, List.filter_append, List.length_append, ← cn_len p n]
    show cn_ p n + _ = _
    cases hp : p n <;> simp [hp]
theorem cn_mono {p q : Nat → Bool} (h : ∀ i, p i = true → q i = true) : ∀ n, cn_ p n ≤ cn_ q n
  | 0 => Nat.le_refl _
  | n + 1 => by
    have ih := cn_mono h n
    show cn_ p n + _ ≤ cn_ q n + _
    cases hp : p n with
    | false => simp; omega
    | true => rw [h n hp]; simp; exact ih
/-- fewer, for one at least is lost -/
theorem cn_lt {p q : Nat → Bool} {t n : Nat} (h : ∀ i, i < n → p i = true → q i = true) (ht : t < n) (h1 : p t = false) (h2 : q t = true) : cn_ p n < cn_ q n := by
  have e1 : cn_ p n = cn_ (fun i => decide (i < n) && p i) n := cn_eq (fun i hi => by simp [hi])
  have e2 : cn_ q n = cn_ (fun i => decide (i < n) && q i) n := cn_eq (fun i hi => by simp [hi])
  have e3 := cn_one (p := fun i => decide (i < n) && (p i || decide (i = t))) (q := fun i => decide (i < n) && p i) (t := t) (fun i hi => by simp [hi]) ht
  have e4 := cn_mono (p := fun i => decide (i < n) && (p i || decide (i = t))) (q := fun i => decide (i < n) && q i) (fun i hi => by
    simp at hi ⊢
    refine ⟨hi.1, ?_⟩
    rcases hi.2 with c | c
    · exact h i hi.1 c
    · rw [c]; exact h2) n
  simp [ht, h1] at e3
  omega
theorem fi_find (p : Nat → Bool) : ∀ (k t : Nat), fi_ p k t = (List.range' t k).find? p
  | 0, _ => rfl
  | k + 1, t => by
    rw [List.range'_succ, List.find?_cons]
    show (if p t then _ else _) = _
    cases hp : p t with
    | false => simp; exact fi_find p k (t + 1)
    | true => simp
def bs_s1 (p : Nat → Bool) (b : Nat → Nat → Bool) (a : Option Nat) (t : Nat) : Option Nat := if p t then (match a with
    | none => some t
    | some q => if b t q then some t else some q) else a
theorem bs_fold (p : Nat → Bool) (b : Nat → Nat → Bool) : ∀ n, bs_ p b n = (List.range n).foldl (bs_s1 p b) none
  | 0 => rfl
  | n + 1 => by
    rw [List.range_succ, List.foldl_append, ← bs_fold p b n]
    rfl
theorem bs_cong {p : Nat → Bool} {b b' : Nat → Nat → Bool} : ∀ {n : Nat}, (∀ t q, q < t → t < n → p t = true → p q = true → b t q = b' t q) → bs_ p b n = bs_ p b' n
  | 0, _ => rfl
  | n + 1, h => by
    have ih := bs_cong (n := n) (fun t q hq ht => h t q hq (by omega))
    cases hp : p n with
    | false => rw [bs_f hp, bs_f hp, ih]
    | true =>
      cases hb : bs_ p b' n with
      | none => rw [bs_n hp (ih.trans hb), bs_n hp hb]
      | some q =>
        have hq := bs_lt hb
        rw [bs_s hp (ih.trans hb), bs_s hp hb, h n q hq.1 (by omega) hp hq.2]
theorem bs_eq {p p' : Nat → Bool} {b b' : Nat → Nat → Bool} : ∀ {n : Nat}, (∀ t, t < n → p t = p' t) → (∀ t q, q < n → t < n → b t q = b' t q) → bs_ p b n = bs_ p' b' n
  | 0, _, _ => rfl
  | n + 1, h, h' => by
    have ih := bs_eq (p := p) (p' := p') (b := b) (b' := b') (n := n) (fun t ht => h t (by omega)) (fun t q hq ht => h' t q (by omega) (by omega))
    cases hp : p' n with
    | false => rw [bs_f hp, bs_f ((h n (by omega)).trans hp), ih]
    | true =>
      cases hb : bs_ p' b' n with
      | none => rw [bs_n ((h n (by omega)).trans hp) (ih.trans hb), bs_n hp hb]
      | some q =>
        have hq := bs_lt hb
        rw [bs_s ((h n (by omega)).trans hp) (ih.trans hb), bs_s hp hb, h' n q (by omega) (by omega)]
theorem fi_eq {p q : Nat → Bool} : ∀ {k t : Nat}, (∀ i, t ≤ i → i < t + k → p i = q i) → fi_ p k t = fi_ q k t
  | 0, _, _ => rfl
  | k + 1, t, h => by
    show (if p t then _ else _) = (if q t then _ else _)
    rw [h t (Nat.le_refl _) (by omega), fi_eq (p := p) (q := q) (k := k) (t := t + 1) (fun i h1 h2 => h i (by omega) (by omega))]
theorem su_eq {f g : Nat → Int32} : ∀ {n : Nat}, (∀ i, i < n → f i = g i) → su_ f n = su_ g n
  | 0, _ => rfl
  | n + 1, h => by
    show su_ f n + f n = su_ g n + g n
    rw [su_eq (fun i hi => h i (by omega)), h n (by omega)]
/-- what a filter of the naturals below n is from a place on -/
theorem rg_cons {t k : Nat} {p : Nat → Bool} (h : p t = true) : (List.range' t (k + 1)).filter p = t :: (List.range' (t + 1) k).filter p := by
  rw [List.range'_succ, List.filter_cons, if_pos h]
theorem rg_skip {t k : Nat} {p : Nat → Bool} (h : p t = false) : (List.range' t (k + 1)).filter p = (List.range' (t + 1) k).filter p := by
  rw [List.range'_succ, List.filter_cons, if_neg (by rw [h]; decide)]
theorem rg_0 {n : Nat} {p : Nat → Bool} : (List.range n).filter p = (List.range' 0 n).filter p := by rw [List.range_eq_range']
theorem fl_eq {p q : Nat → Bool} {n : Nat} (h : ∀ i, i < n → p i = q i) : (List.range n).filter p = (List.range n).filter q :=
  List.filter_congr (fun i hi => h i (List.mem_range.mp hi))
/-! updates of the ints -/
section I2
variable {I : Nat → Nat → Int32} {a j b k : Nat} {x y : Int32}
theorem i2_at {p q : Nat} : i2_u I a j x p q = if p = a ∧ q = j then x else I p q := rfl
theorem nI_cl2 {n : Nat} (h : n < 2147483648) : (nI n).toNatClampNeg = n := nI_clamp h
theorem i2_2 : i2_u (i2_u I a j x) a j y = i2_u I a j y := by
  funext p q
  unfold i2_u
  split <;> rfl
theorem i2_cm (h : a ≠ b ∨ j ≠ k) : i2_u (i2_u I a j x) b k y = i2_u (i2_u I b k y) a j x := by
  funext p q
  unfold i2_u
  split
  · next c =>
    rw [if_neg (by omega)]
  · rfl
end I2
