/-! numbers, counts, firsts and bests over the naturals below n -/
def cn_ (p : Nat → Bool) : Nat → Nat
  | 0 => 0
  | n + 1 => cn_ p n + (if p n then 1 else 0)
theorem cn_le (p : Nat → Bool) : ∀ n, cn_ p n ≤ n
  | 0 => Nat.le_refl _
  | n + 1 => by
    have := cn_le p n
    show cn_ p n + _ ≤ _
    split <;> omega
theorem cn_t {p : Nat → Bool} {n : Nat} (h : p n = true) : cn_ p (n + 1) = cn_ p n + 1 := by show cn_ p n + _ = _; rw [if_pos h]
theorem cn_f {p : Nat → Bool} {n : Nat} (h : p n = false) : cn_ p (n + 1) = cn_ p n := by show cn_ p n + _ = _; rw [if_neg (by rw [h]; decide)]; rfl
theorem cn_e1 {p : Nat → Bool} {n : Nat} (h : p n = true) : nI (cn_ p n) + 1 = nI (cn_ p (n + 1)) := by rw [cn_t h, nI_1]
theorem nI_a0 (x : Int32) : x + 0 = x := Int32.add_zero x
theorem cn_e0 {p : Nat → Bool} {n : Nat} (h : p n = false) : nI (cn_ p n) + 0 = nI (cn_ p (n + 1)) := by rw [cn_f h, nI_a0]
theorem cn_eq {p q : Nat → Bool} : ∀ {n : Nat}, (∀ i, i < n → p i = q i) → cn_ p n = cn_ q n
  | 0, _ => rfl
  | n + 1, h => by
    show cn_ p n + _ = cn_ q n + _
    rw [cn_eq (fun i hi => h i (Nat.lt_succ_of_lt hi)), h n (Nat.lt_succ_self n)]
theorem cn_0 {p : Nat → Bool} : ∀ {n : Nat}, (∀ i, i < n → p i = false) → cn_ p n = 0
  | 0, _ => rfl
  | n + 1, h => by rw [cn_f (h n (Nat.lt_succ_self n)), cn_0 (fun i hi => h i (Nat.lt_succ_of_lt hi))]
theorem cn_pos {p : Nat → Bool} {t : Nat} (ht : p t = true) : ∀ {n : Nat}, t < n → 0 < cn_ p n
  | 0, h => by omega
  | n + 1, h => by
    rcases Nat.lt_or_ge t n with q | q
    · have := cn_pos ht q
      show 0 < cn_ p n + _
      omega
    · rw [cn_t (by rw [show n = t by omega]; exact ht)]
      omega
theorem cn_none {p : Nat → Bool} {n : Nat} (h : cn_ p n = 0) : ∀ i, i < n → p i = false := by
  intro i hi
  cases hp : p i with
  | false => rfl
  | true => have := cn_pos hp hi; omega
/-- the first -/
def fi_ (p : Nat → Bool) : Nat → Nat → Option Nat
  | 0, _ => none
  | k + 1, t => if p t then some t else fi_ p k (t + 1)
def io_ (o : Option Nat) : Int32 := match o with
  | none => -1
  | some t => nI t
theorem fi_t {p : Nat → Bool} {k t : Nat} (h : p t = true) : fi_ p (k + 1) t = some t := by show (if p t then _ else _) = _; rw [if_pos h]
theorem fi_f {p : Nat → Bool} {k t : Nat} (h : p t = false) : fi_ p (k + 1) t = fi_ p k (t + 1) := by show (if p t then _ else _) = _; rw [if_neg (by rw [h]; decide)]
/-- the best: of those that p names, one after the other, by the rule 'better' -/
def bs_ (p : Nat → Bool) (b : Nat → Nat → Bool) : Nat → Option Nat
  | 0 => none
  | n + 1 => if p n then (match bs_ p b n with
    | none => some n
    | some q => if b n q then some n else some q) else bs_ p b n
theorem bs_f {p : Nat → Bool} {b : Nat → Nat → Bool} {n : Nat} (h : p n = false) : bs_ p b (n + 1) = bs_ p b n := by show (if p n then _ else _) = _; rw [if_neg (by rw [h]; decide)]
theorem bs_n {p : Nat → Bool} {b : Nat → Nat → Bool} {n : Nat} (h : p n = true) (hn : bs_ p b n = none) : bs_ p b (n + 1) = some n := by show (if p n then _ else _) = _; rw [if_pos h, hn]
theorem bs_s {p : Nat → Bool} {b : Nat → Nat → Bool} {n q : Nat} (h : p n = true) (hn : bs_ p b n = some q) : bs_ p b (n + 1) = if b n q then some n else some q := by show (if p n then _ else _) = _; rw [if_pos h, hn]
theorem bs_lt {p : Nat → Bool} {b : Nat → Nat → Bool} {q : Nat} : ∀ {n : Nat}, bs_ p b n = some q → q < n ∧ p q = true
  | 0, h => by cases h
  | n + 1, h => by
    cases hp : p n with
    | false =>
      rw [bs_f hp] at h
      obtain ⟨h1, h2⟩ := bs_lt h
      exact ⟨by omega, h2⟩
    | true =>
      cases hn : bs_ p b n with
      | none =>
        rw [bs_n hp hn] at h
        cases h
        exact ⟨by omega, hp⟩
      | some r =>
        rw [bs_s hp hn] at h
        split at h
        · cases h; exact ⟨by omega, hp⟩
        · cases h
          obtain ⟨h1, h2⟩ := bs_lt hn
          exact ⟨by omega, h2⟩
theorem bs_none {p : Nat → Bool} {b : Nat → Nat → Bool} : ∀ {n : Nat}, bs_ p b n = none → ∀ i, i < n → p i = false
  | 0, _, i, hi => by omega
  | n + 1, h, i, hi => by
    cases hp : p n with
    | false =>
      rw [bs_f hp] at h
      rcases Nat.lt_or_ge i n with q | q
      · exact bs_none h i q
      · rw [show i = n by omega]; exact hp
    | true =>
      cases hn : bs_ p b n with
      | none => rw [bs_n hp hn] at h; cases h
      | some r =>
        rw [bs_s hp hn] at h
        split at h <;> cases h
theorem io_some {t : Nat} : io_ (some t) = nI t := rfl
theorem io_none : io_ none = -1 := rfl
theorem nI_nm {t : Nat} (h : t < 2 ^ 31) : ¬ nI t = -1 := by
  intro e
  have := congrArg Int32.toInt e
  rw [nI_toInt h] at this
  have h2 : ((-1 : Int32)).toInt = -1 := by decide
  rw [h2] at this
  omega
theorem io_eq {o : Option Nat} (h : ∀ t, o = some t → t < 2 ^ 31) : io_ o = -1 ↔ o = none := by
  cases o with
  | none => exact ⟨fun _ => rfl, fun _ => rfl⟩
  | some t => exact ⟨fun e => absurd e (nI_nm (h t rfl)), fun e => by cases e⟩
/-- the sum -/
def su_ (f : Nat → Int32) : Nat → Int32
  | 0 => 0
  | n + 1 => su_ f n + f n
