/-! ===== what the two programs compute, over a setting s: s 0 .. s 5 the bounds, s 6 how many figures, s (7 + 4 f + p) part p of figure f ===== -/
abbrev Sg : Type := Int → Int
def WF (s : Sg) : Prop := (0 ≤ s 0 ∧ s 0 ≤ 120) ∧ (6 ≤ s 1 ∧ s 1 ≤ 40) ∧ (1 ≤ s 2 ∧ s 2 ≤ 2) ∧ (0 ≤ s 3 ∧ s 3 ≤ s 1) ∧ (1 ≤ s 4 ∧ s 4 ≤ 4) ∧ (0 ≤ s 5 ∧ s 5 ≤ 1) ∧ (0 ≤ s 6 ∧ s 6 ≤ 10) ∧ ∀ f : Int, 0 ≤ f → f < s 6 → (1 ≤ s (7 + 4 * f) ∧ s (7 + 4 * f) ≤ 40) ∧ (0 ≤ s (7 + 4 * f + 1) ∧ s (7 + 4 * f + 1) ≤ 1) ∧ (0 ≤ s (7 + 4 * f + 2) ∧ s (7 + 4 * f + 2) ≤ 119) ∧ (1 ≤ s (7 + 4 * f + 3) ∧ s (7 + 4 * f + 3) ≤ 9)
def b2 (b : Bool) : Int := if b then 1 else 0
theorem b2_t : b2 true = 1 := rfl
theorem b2_f : b2 false = 0 := rfl
theorem b2_01 (b : Bool) : b2 b = 0 ∨ b2 b = 1 := by cases b <;> simp [b2]
def sm (F : Int → Int) : Nat → Int
  | 0 => 0
  | n + 1 => sm F n + F (n : Int)
def anyB (P : Int → Bool) : Nat → Bool
  | 0 => false
  | n + 1 => anyB P n || P (n : Int)
def allB (P : Int → Bool) : Nat → Bool
  | 0 => true
  | n + 1 => allB P n && P (n : Int)
theorem sm_le {F G : Int → Int} : ∀ {n : Nat}, (∀ k : Nat, k < n → F k ≤ G k) → sm F n ≤ sm G n
  | 0, _ => Int.le_refl 0
  | n + 1, h => by
    have h1 := sm_le (n := n) (fun k hk => h k (by omega))
    have h2 := h n (by omega)
    simp only [sm]
    omega
theorem sm_cong {F G : Int → Int} : ∀ {n : Nat}, (∀ k : Nat, k < n → F k = G k) → sm F n = sm G n
  | 0, _ => rfl
  | n + 1, h => by
    have h1 := sm_cong (n := n) (fun k hk => h k (by omega))
    have h2 := h n (by omega)
    simp only [sm]
    omega
theorem sm_bd {F : Int → Int} {c : Int} : ∀ {n : Nat}, (∀ k : Nat, k < n → 0 ≤ F k ∧ F k ≤ c) → 0 ≤ sm F n ∧ sm F n ≤ (n : Int) * c
  | 0, _ => by simp [sm]
  | n + 1, h => by
    have h1 := sm_bd (n := n) (fun k hk => h k (by omega))
    have h2 := h n (by omega)
    simp only [sm]
    have e : ((n + 1 : Nat) : Int) * c = (n : Int) * c + c := by rw [Int.natCast_add, Int.add_mul]; simp
    omega
theorem sm_add (F G : Int → Int) : ∀ n : Nat, sm (fun k => F k + G k) n = sm F n + sm G n
  | 0 => rfl
  | n + 1 => by
    have h := sm_add F G n
    simp only [sm]
    omega
theorem anyB_iff {P : Int → Bool} : ∀ {n : Nat}, anyB P n = true ↔ ∃ k : Nat, k < n ∧ P k = true
  | 0 => by simp [anyB]
  | n + 1 => by
    simp only [anyB, Bool.or_eq_true]
    rw [anyB_iff]
    constructor
    · rintro (⟨k, h1, h2⟩ | h)
      · exact ⟨k, by omega, h2⟩
      · exact ⟨n, by omega, h⟩
    · rintro ⟨k, h1, h2⟩
      rcases Nat.lt_or_ge k n with q | q
      · exact Or.inl ⟨k, q, h2⟩
      · have : k = n := by omega
        subst this
        exact Or.inr h2
theorem allB_iff {P : Int → Bool} : ∀ {n : Nat}, allB P n = true ↔ ∀ k : Nat, k < n → P k = true
  | 0 => by simp [allB]
  | n + 1 => by
    simp only [allB, Bool.and_eq_true]
    rw [allB_iff]
    constructor
    · rintro ⟨h1, h2⟩ k hk
      rcases Nat.lt_or_ge k n with q | q
      · exact h1 k q
      · have : k = n := by omega
        subst this
        exact h2
    · intro h
      exact ⟨fun k hk => h k (by omega), h n (by omega)⟩
/-- what figure k of a page from f on takes in a column, of a set s2 -/
def cl (s : Sg) (f s2 b k : Int) : Int := if s (7 + 4 * (f + k) + 1) = 1 ∨ s2 / 2 ^ k.toNat % 2 = b then s (7 + 4 * (f + k)) else 0
def col (s : Sg) (f s2 b : Int) (n : Nat) : Int := sm (cl s f s2 b) n
def fitS (s : Sg) (f n s2 : Int) : Bool := decide (col s f s2 1 n.toNat ≤ s 3) && (if s 2 = 1 then decide (s2 = 2 ^ n.toNat - 1) else decide (col s f s2 0 n.toNat ≤ s 3))
def fitB (s : Sg) (f n : Int) : Bool := decide (n ≤ s 4) && (decide (n = 0) || anyB (fitS s f n) (2 ^ n.toNat))
def tkF (s : Sg) (f k : Int) : Int := s (7 + 4 * (f + k)) * (if s (7 + 4 * (f + k) + 1) = 1 then s 2 else 1)
def tk (s : Sg) (f : Int) (n : Nat) : Int := sm (tkF s f) n
def due (s : Sg) (f : Int) : Int := if s 0 ≤ s (7 + 4 * f + 2) then s 0 - 1 else s (7 + 4 * f + 2)
def lb (s : Sg) (l f n : Int) : Int := if s 0 ≤ l + (s 2 * s 1 - tk s f n.toNat) then s 0 else l + (s 2 * s 1 - tk s f n.toNat)
def amB (s : Sg) (f c : Int) (n : Nat) : Bool := allB (fun k => decide (due s (f + k) < c)) n
def pgB (s : Sg) (l f n : Int) : Bool := decide (f + n ≤ s 6) && (fitB s f n && (decide (0 < lb s l f n - l + n) && (decide (s 5 = 1) || decide (s 0 = 0) || amB s f (lb s l f n) n.toNat)))
/-- what waits or is early, behind l lines and f figures, weighs -/
def tlF (s : Sg) (l f k : Int) : Int := if (due s k < l) = (k < f) then 0 else s (7 + 4 * k + 3)
def tl (s : Sg) (l f : Int) : Int := sm (tlF s l f) (s 6).toNat
abbrev Vt : Type := Int × Int × Int × Int
/-- the least, so far: cost, pages, ways, figures of the first page -/
def stp (s : Sg) (V : Int → Int → Vt) (l f : Int) (a : Vt) (n : Int) : Vt :=
  if pgB s l f n then
    (fun v b => (fun (same less : Bool) => ((if less then b else a.1), (if less then v.2.1 + 1 else a.2.1), (if less then v.2.2.1 else if same then a.2.2.1 + v.2.2.1 else a.2.2.1), (if less then n else a.2.2.2)))
        (decide (b < 100000000) && (decide (b = a.1) && decide (v.2.1 + 1 = a.2.1))) (decide (b < a.1) || (decide (b < 100000000) && (decide (b = a.1) && decide (v.2.1 + 1 < a.2.1)))))
      (V (lb s l f n) (f + n)) (if (V (lb s l f n) (f + n)).1 = 100000000 then 100000000 else (V (lb s l f n) (f + n)).1 + tl s (lb s l f n) (f + n))
  else a
def fld (s : Sg) (V : Int → Int → Vt) (l f : Int) : Nat → Vt
  | 0 => (100000000, 0, 0, 0)
  | k + 1 => stp s V l f (fld s V l f k) (k : Int)
def Vd (s : Sg) : Nat → Int → Int → Vt
  | 0, _, _ => (100000000, 0, 0, 0)
  | d + 1, l, f => if l = s 0 ∧ f = s 6 then (0, 0, 1, 0) else fld s (Vd s d) l f ((s 4).toNat + 1)
def mz (s : Sg) (l f : Int) : Nat := (s 0 - l).toNat + (s 6 - f).toNat
def VV (s : Sg) (l f : Int) : Vt := Vd s (mz s l f + 1) l f
def clash (s : Sg) : Nat → Int
  | 0 => -1
  | n + 1 => if clash s n = -1 ∧ fitB s (n : Int) 1 = false then (n : Int) else clash s n
