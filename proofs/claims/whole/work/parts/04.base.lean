/-! ===== numbers: every int of the machine as a whole number ===== -/
def jI (z : Int) : Int32 := Int32.ofInt z
def jL (z : Int) : Int64 := Int64.ofInt z
abbrev vi (z : Int) : Value := Value.int (jI z)
abbrev vl (z : Int) : Value := Value.long (jL z)
abbrev inR (z : Int) : Prop := -2147483648 ≤ z ∧ z < 2147483648
abbrev inL (z : Int) : Prop := -9223372036854775808 ≤ z ∧ z < 9223372036854775808
theorem jI_add (a b : Int) : jI a + jI b = jI (a + b) := (Int32.ofInt_add a b).symm
theorem jI_sub (a b : Int) : jI a - jI b = jI (a - b) := (Int32.ofInt_sub a b).symm
theorem jI_mul (a b : Int) : jI a * jI b = jI (a * b) := (Int32.ofInt_mul a b).symm
theorem jI_neg (a : Int) : -jI a = jI (-a) := (Int32.ofInt_neg a).symm
theorem jL_add (a b : Int) : jL a + jL b = jL (a + b) := (Int64.ofInt_add a b).symm
theorem jL_sub (a b : Int) : jL a - jL b = jL (a - b) := (Int64.ofInt_sub a b).symm
theorem jL_mul (a b : Int) : jL a * jL b = jL (a * b) := (Int64.ofInt_mul a b).symm
theorem jI_int {z : Int} (h : inR z) : (jI z).toInt = z := by
  unfold jI
  rw [Int32.toInt_ofInt]
  show z.bmod 4294967296 = z
  exact Int.bmod_eq_of_le (by omega) (by omega)
theorem jL_int {z : Int} (h : inL z) : (jL z).toInt = z := by
  unfold jL
  rw [Int64.toInt_ofInt]
  show z.bmod 18446744073709551616 = z
  exact Int.bmod_eq_of_le (by omega) (by omega)
theorem jI_of (x : Int32) : x = jI x.toInt := (Int32.ofInt_toInt x).symm
theorem inR_of (x : Int32) : inR x.toInt := by
  have h1 := Int32.le_toInt x
  have h2 := Int32.toInt_lt x
  exact ⟨by omega, by omega⟩
theorem jI_lt {a b : Int} (h : inR a ∧ inR b) : jI a < jI b ↔ a < b := by rw [Int32.lt_iff_toInt_lt, jI_int h.1, jI_int h.2]
theorem jI_le {a b : Int} (h : inR a ∧ inR b) : jI a ≤ jI b ↔ a ≤ b := by rw [Int32.le_iff_toInt_le, jI_int h.1, jI_int h.2]
theorem jI_eq {a b : Int} (h : inR a ∧ inR b) : jI a = jI b ↔ a = b := by rw [← Int32.toInt_inj, jI_int h.1, jI_int h.2]
theorem jI_0 : (0 : Int32) = jI 0 := by decide
theorem jI_nat (n : Nat) : jI (n : Int) = nI n := by
  unfold jI nI
  first | exact Int32.ofInt_eq_ofNat | exact Int32.ofInt_eq_ofNat n | simp
theorem jL_nat (n : Nat) : jL (n : Int) = lN n := by
  unfold jL lN
  first | exact Int64.ofInt_eq_ofNat | exact Int64.ofInt_eq_ofNat n | simp
theorem jI_tn {i : Int} {n : Nat} (h : 0 ≤ i ∧ i < (n : Int)) (hn : n < 2147483648) : (jI i).toNatClampNeg = i.toNat := by
  obtain ⟨k, rfl⟩ : ∃ k : Nat, i = (k : Int) := ⟨i.toNat, by omega⟩
  rw [jI_nat, nI_clamp (by omega)]
  omega
theorem jI_in {i : Int} {n : Nat} (h : 0 ≤ i ∧ i < (n : Int)) (hn : n < 2147483648) : vp_in (jI i) n := by
  obtain ⟨k, rfl⟩ : ∃ k : Nat, i = (k : Int) := ⟨i.toNat, by omega⟩
  rw [jI_nat]
  exact vp_in_nI (by omega) (by omega)
theorem jI_rem {a d : Int} (ha : 0 ≤ a ∧ a < 2147483648) (hd : 0 < d ∧ d < 2147483648) : jI a - jI a / jI d * jI d = jI (a % d) := by
  obtain ⟨m, rfl⟩ : ∃ k : Nat, a = (k : Int) := ⟨a.toNat, by omega⟩
  obtain ⟨k, rfl⟩ : ∃ k : Nat, d = (k : Int) := ⟨d.toNat, by omega⟩
  rw [jI_nat, jI_nat, pk_rem (by omega) (by omega) (by omega), ← jI_nat]
  first | rfl | (congr 1; omega)
theorem jI_div {a d : Int} (ha : 0 ≤ a ∧ a < 2147483648) (hd : 0 < d ∧ d < 2147483648) : jI a / jI d = jI (a / d) := by
  obtain ⟨m, rfl⟩ : ∃ k : Nat, a = (k : Int) := ⟨a.toNat, by omega⟩
  obtain ⟨k, rfl⟩ : ∃ k : Nat, d = (k : Int) := ⟨d.toNat, by omega⟩
  rw [jI_nat, jI_nat, pk_div (by omega) (by omega) (by omega), ← jI_nat]
  first | rfl | (congr 1; omega)
theorem jL_rem {a d : Int} (ha : 0 ≤ a ∧ a < 9223372036854775808) (hd : 0 < d ∧ d < 9223372036854775808) : jL a - jL a / jL d * jL d = jL (a % d) := by
  obtain ⟨m, rfl⟩ : ∃ k : Nat, a = (k : Int) := ⟨a.toNat, by omega⟩
  obtain ⟨k, rfl⟩ : ∃ k : Nat, d = (k : Int) := ⟨d.toNat, by omega⟩
  rw [jL_nat, jL_nat, pk_lRem (by omega) (by omega) (by omega), ← jL_nat]
  first | rfl | (congr 1; omega)
theorem jI_i2l {a : Int} (h : inR a) : (jI a).toInt64 = jL a := by
  apply Int64.toInt_inj.mp
  rw [Int32.toInt_toInt64, jI_int h, jL_int ⟨by omega, by omega⟩]
theorem jL_l2i (a : Int) : (jL a).toInt32 = jI a := by
  unfold jL jI
  first | exact Int64.toInt32_ofInt a | exact Int64.toInt32_ofInt | simp
/-! ===== the memory of all objects: place i of cell k holds the number M k i ===== -/
abbrev Mm : Type := Nat → Int → Int
def mu (M : Mm) (k : Nat) (i v : Int) : Mm := fun a b => if a = k ∧ b = i then v else M a b
def mset (M : Mm) (k : Nat) (r : Int → Int) : Mm := fun a => if a = k then r else M a
def kd (k : Nat) : Nat := if k < 6 then [5, 10, 9, 7, 0, 10].getD k 7 else if k < 76 then [4, 7, 11, 7, 7, 7, 7].getD ((k - 6) % 7) 7 else if k < 96 then [3, 1, 7, 7, 7, 7, 7, 7, 7, 8].getD ((k - 76) % 10) 7 else if k < 105 then [2, 7, 7].getD ((k - 96) % 3) 7 else [6, 7, 7, 7, 7, 9, 7, 7, 7, 8, 9, 7, 7, 7].getD (k - 105) 7
def ln (k : Nat) : Nat := if k < 6 then [0, 2, 2, 30, 0, 6].getD k 0 else if k < 76 then [0, 6, 4, 10, 10, 10, 10].getD ((k - 6) % 7) 0 else if k < 96 then [0, 0, 10, 10, 11, 11, 1331, 1331, 1331, 1331].getD ((k - 76) % 10) 0 else if k < 105 then [0, 31, 31].getD ((k - 96) % 3) 0 else [0, 47, 47, 282, 94, 2, 30, 1331, 1331, 1331, 1331, 160, 160, 160].getD (k - 105) 0
def rfa (k i : Nat) : Nat := if k = 1 then 20 + 7 * i else if k = 5 then 34 + 7 * i else k + 1 + i
abbrev Gg : Type := va_G × (Nat → Prop) × (Nat → Nat) × (Nat → ClassId)
abbrev gD (g : Gg) : va_G := g.1
abbrev gA (g : Gg) : Nat → Prop := g.2.1
abbrev ga (g : Gg) : Nat → Nat := g.2.2.1
abbrev gc (g : Gg) : Nat → ClassId := g.2.2.2
abbrev vr (g : Gg) (k : Nat) : Value := Value.ref (ga g k)
def celr (g : Gg) (k : Nat) (r : Int → Int) : va_E := match kd k with
  | 0 => .inr (0, [vr g 5, vi (r 1), vi (r 2)])
  | 1 => .inr (1, [vi (r 0), vi (r 1), vi (r 2), vi (r 3), vi (r 4), vr g (k + 1), vr g (k + 2), vr g (k + 3), vr g (k + 4)])
  | 2 => .inr (2, [vr g (k + 1), vr g (k + 2), vi (r 2)])
  | 3 => .inr (3, [vr g (k + 1), vr g (k + 6), vr g (k + 7), vr g (k + 8), vr g (k + 9), vi (r 5)])
  | 4 => .inr (4, [vr g (k + 1), vr g (k + 2), vi (r 2)])
  | 5 => .inr (5, [vr g 6, vr g 13, vr g 1, vr g 2, vr g 4, vr g 76, vr g 86, vr g 96, vr g 99, vr g 102, vr g 3, vi (r 11), vi (r 12)])
  | 6 => .inr (6, [vr g 106, vr g 107, vi (r 2), vr g 108, vr g 109, vr g 110, vi (r 6), vr g 111, vr g 112, vr g 113, vr g 114, vr g 115, vi (r 12), vr g 116, vr g 117, vr g 118])
  | 8 => .inl (gc g k, ln k, .inr (.inl (fun i => jL (r (i : Int)))))
  | 10 => .inl (gc g k, ln k, .inr (.inr (.inr (.inr (fun i => some (ga g (rfa k i)))))))
  | 11 => .inl (gc g k, ln k, .inr (.inr (.inr (.inr (fun i => some (ga g (rfa k i)))))))
  | _ => .inl (gc g k, ln k, .inl (fun i => jI (r (i : Int))))
def ww (g : Gg) (M : Mm) : va_W := (List.range 119).map (fun k => (ga g k, celr g k (M k)))
theorem ww_at {g : Gg} {M : Mm} {k : Nat} (h : k < 119) : (ww g M)[k]? = some (ga g k, celr g k (M k)) := by
  unfold ww
  rw [List.getElem?_map, List.getElem?_range h]
  rfl
theorem ww_none {g : Gg} {M : Mm} {k : Nat} (h : ¬ k < 119) : (ww g M)[k]? = none := by
  unfold ww
  rw [List.getElem?_map, List.getElem?_eq_none (by rw [List.length_range]; omega)]
  rfl
theorem ww_set {g : Gg} {M : Mm} {k : Nat} {e : va_E} {r : Int → Int} (he : e = celr g k r) : (ww g M).set k (ga g k, e) = ww g (mset M k r) := by
  subst he
  apply List.ext_getElem?
  intro i
  by_cases hk : k < 119
  · by_cases hi : i = k
    · subst hi
      rw [List.getElem?_set_self (by simp [ww]; exact hk), ww_at hk]
      simp [mset]
    · rw [List.getElem?_set_ne (Ne.symm hi)]
      by_cases h2 : i < 119
      · rw [ww_at h2, ww_at h2]
        simp [mset, hi]
      · rw [ww_none h2, ww_none h2]
  · rw [List.set_eq_of_length_le (by simp [ww]; omega)]
    by_cases h2 : i < 119
    · rw [ww_at h2, ww_at h2]
      have : i ≠ k := by omega
      simp [mset, this]
    · rw [ww_none h2, ww_none h2]
theorem mset_mu (M : Mm) (k : Nat) (i v : Int) : mset M k (fun b => if b = i then v else M k b) = mu M k i v := by
  funext a b
  by_cases h : a = k
  · subst h
    simp [mset, mu]
  · simp [mset, mu, h]
def Dg (g : Gg) : Prop := (∀ i j, i < 119 → j < 119 → ga g i = ga g j → i = j) ∧ ∀ k, k < 119 → gA g (ga g k)
theorem ww_lt {g : Gg} {M : Mm} {k : Nat} {q : Nat × va_E} (h : (ww g M)[k]? = some q) : k < 119 ∧ q = (ga g k, celr g k (M k)) := by
  by_cases hk : k < 119
  · rw [ww_at hk] at h
    exact ⟨hk, (Option.some.inj h).symm⟩
  · rw [ww_none hk] at h
    cases h
theorem ww_D {g : Gg} (h : Dg g) (M : Mm) : va_D (gA g) (ww g M) := by
  refine ⟨fun i j p q hi hj e => ?_, fun k q hk => ?_⟩
  · obtain ⟨h1, rfl⟩ := ww_lt hi
    obtain ⟨h2, rfl⟩ := ww_lt hj
    exact h.1 i j h1 h2 e
  · obtain ⟨h1, rfl⟩ := ww_lt hk
    exact h.2 k h1
def tyw (g : Gg) (k : Nat) : ClassId × FieldType := match kd k with
  | 7 => (gc g k, .int)
  | 8 => (gc g k, .long)
  | 9 => (gc g k, .boolean)
  | 10 => (gc g k, .object "NearFigures$Setting")
  | 11 => (gc g k, .array .int)
  | _ => (gc g 3, .int)
def tys (g : Gg) : List (ClassId × FieldType) := (List.range 119).map (tyw g)
theorem tys_at {g : Gg} {k : Nat} (h : k < 119) : (tys g)[k]? = some (tyw g k) := by
  unfold tys
  rw [List.getElem?_map, List.getElem?_range h]
  rfl
abbrev Kg (g : Gg) (U : State) : Prop := va_K (gD g) vwCl (tys g) U
def Sta1 (g : Gg) (n : String) (N : Nat) (f : Nat → Int) (U : State) : Prop := ∃ t : Nat, va_Z "NearFigures" n "[I" (.ref t) (gA g) U U.heap ∧ va_T .int t N (fun j => vi (f j)) (gA g) U U.heap
def sLB (j : Nat) : Int := [0, 6, 1, 0, 1, 0].getD j 0
def sGB (j : Nat) : Int := [120, 40, 2, 40, 4, 1].getD j 0
def sLP (j : Nat) : Int := [1, 0, 0, 1].getD j 0
def sGP (j : Nat) : Int := [40, 1, 119, 9].getD j 0
def Sta (g : Gg) (U : State) : Prop := Sta1 g "LEAST_BOUND" 6 sLB U ∧ Sta1 g "GREATEST_BOUND" 6 sGB U ∧ Sta1 g "LEAST_PART" 4 sLP U ∧ Sta1 g "GREATEST_PART" 4 sGP U
theorem Sta1.to {g : Gg} {n : String} {N : Nat} {f : Nat → Int} {u U : State} (h : Sta1 g n N f u) (hvm : u.vm.Alike U.vm) (hq : ∀ a : Nat, a < u.heap.size → ¬ gA g a → U.heap[a]? = u.heap[a]?) : Sta1 g n N f U := by
  obtain ⟨t, h1, h2⟩ := h
  exact ⟨t, (h1.kept hq).moved hvm, (h2.kept hq).moved hvm⟩
theorem Sta.to {g : Gg} {u U : State} (h : Sta g u) (hvm : u.vm.Alike U.vm) (hq : ∀ a : Nat, a < u.heap.size → ¬ gA g a → U.heap[a]? = u.heap[a]?) : Sta g U := ⟨h.1.to hvm hq, h.2.1.to hvm hq, h.2.2.1.to hvm hq, h.2.2.2.to hvm hq⟩
def nT : List (String × Nat × String × String × String) := [("NearFigures$Measure", 24, "NearFigures$Setting", "bounds", "[I"), ("NearFigures", 74, "NearFigures$Setting", "bounds", "[I"), ("NearFigures$Measure", 47, "NearFigures$Setting", "parts", "[[I"), ("NearFigures", 109, "NearFigures$Setting", "parts", "[[I"), ("NearFigures$Measure", 33, "NearFigures$Setting", "figures", "I"), ("NearFigures", 86, "NearFigures$Setting", "figures", "I"), ("NearFigures", 124, "NearFigures$History", "size", "I"), ("NearFigures$Planner", 55, "NearFigures$Measure", "lines", "I"), ("NearFigures$Planner", 58, "NearFigures$Measure", "figures", "I"), ("NearFigures$Plan", 85, "NearFigures$Measure", "figures", "I"), ("NearFigures", 176, "NearFigures$Measure", "room", "I"), ("NearFigures$Planner", 46, "NearFigures$Measure", "clash", "I"), ("NearFigures$Plan", 38, "NearFigures$Measure", "clash", "I"), ("NearFigures", 136, "NearFigures$Measure", "clash", "I"), ("NearFigures", 158, "NearFigures$Measure", "due", "[I"), ("NearFigures$Plan", 74, "NearFigures$Measure", "due", "[I"), ("NearFigures$Plan", 67, "NearFigures$Measure", "weights", "[I"), ("NearFigures$Planner", 69, "NearFigures$Measure", "most", "[I"), ("NearFigures$Plan", 53, "NearFigures$Measure", "most", "[I"), ("NearFigures", 171, "NearFigures$Measure", "takenUpTo", "[I"), ("NearFigures$Plan", 32, "NearFigures$Planner", "measure", "LNearFigures$Measure;"), ("NearFigures", 132, "NearFigures$Planner", "measure", "LNearFigures$Measure;"), ("NearFigures", 148, "NearFigures$Planner", "places", "I"), ("NearFigures", 168, "NearFigures$Plan", "lines", "[I"), ("NearFigures", 174, "NearFigures$Plan", "figures", "[I"), ("NearFigures", 141, "NearFigures$Plan", "pages", "I"), ("NearFigures$Setting", 30, "NearFigures", "LEAST_BOUND", "[I"), ("NearFigures$Setting", 33, "NearFigures", "GREATEST_BOUND", "[I")]
abbrev nC (q : String × Nat × String × String × String) : Cond := .fieldLinkNest q.1 q.2.1 q.2.2.1 q.2.2.2.1 q.2.2.2.2 "NearFigures"
def Nst (U : State) : Prop := ∀ q ∈ nT, va_Nw (nC q) U
theorem Nst.warm {u U : State} (h : Nst u) (hW : u.WarmedH U.vm) : Nst U := fun q hq => (h q hq).warmF hW
theorem Nst.same {u U : State} (h : Nst u) (hv : u.vm = U.vm) : Nst U := fun q hq => (h q hq).same rfl hv
def Wd (g : Gg) (M : Mm) (U : State) : Prop := Dg g ∧ va_P (gD g) vwCl (ww g M) U.heap ∧ Kg g U ∧ Sta g U ∧ Nst U
def rv (ret : Option FieldType) (r : Int) : Option Value := match ret with
  | none => none
  | some .long => some (vl r)
  | some _ => some (vi r)
/-- a method: its name, its code, its locals, what it returns, the frames and words of locals that its calls want -/
abbrev Md : Type := MethodName × ByteArray × Nat × Option FieldType × Nat × Nat
abbrev dy (d : Md) : MethodName := d.1
abbrev dc (d : Md) : ByteArray := d.2.1
abbrev dn (d : Md) : Nat := d.2.2.1
abbrev dr (d : Md) : Option FieldType := d.2.2.2.1
abbrev df (d : Md) : Nat := d.2.2.2.2.1
abbrev dl (d : Md) : Nat := d.2.2.2.2.2
def Qq (g : Gg) (ret : Option FieldType) (post : Int → Mm → Prop) : Array Value → State → Outcome → State → Prop := fun _ st oc t => (∃ (r : Int) (M' : Mm), oc = .returned (rv ret r) ∧ post r M' ∧ va_P (gD g) vwCl (ww g M') t.heap) ∧ va_F (gA g) st t
/-- THE CONTRACT of a method at these arguments and this memory -/
def Ct (l : Launch) (g : Gg) (d : Md) (av : List Value) (M : Mm) (post : Int → Mm → Prop) : Prop :=
  Met l (dy d) (.code (dy d) (dc d) (dn d) (dr d) :: wsL_law) { frames := df d, cells := 0, slots := 0, locals := dl d } (va_Pc av (fun U => Wd g M U)) (Qq g (dr d) post) 0 0 (gA g)
/-- where a walk stands: the machine, and what it is to come to -/
abbrev Xx : Type := Program × Launch × Env × Room × State × MethodId × Array Value × List Frame × Method × Code × Gg × (State → Prop) × Nat × Nat
abbrev xp (x : Xx) : Program := x.1
abbrev xl (x : Xx) : Launch := x.2.1
abbrev xe (x : Xx) : Env := x.2.2.1
abbrev xR (x : Xx) : Room := x.2.2.2.1
abbrev xs (x : Xx) : State := x.2.2.2.2.1
abbrev xm (x : Xx) : MethodId := x.2.2.2.2.2.1
abbrev xa (x : Xx) : Array Value := x.2.2.2.2.2.2.1
abbrev xb (x : Xx) : List Frame := x.2.2.2.2.2.2.2.1
abbrev xt (x : Xx) : Method := x.2.2.2.2.2.2.2.2.1
abbrev xc (x : Xx) : Code := x.2.2.2.2.2.2.2.2.2.1
abbrev xg (x : Xx) : Gg := x.2.2.2.2.2.2.2.2.2.2.1
abbrev xQ (x : Xx) : State → Prop := x.2.2.2.2.2.2.2.2.2.2.2.1
abbrev xi (x : Xx) : Nat := x.2.2.2.2.2.2.2.2.2.2.2.2.1
abbrev xj (x : Xx) : Nat := x.2.2.2.2.2.2.2.2.2.2.2.2.2
abbrev Wx (x : Xx) (H : Heap) (locs : List Loc) (f : JFrame) : Prop := W (xp x) (xl x) (xe x) (xR x) (xs x) (xm x) (xa x) (xb x) (xt x) (xc x) H locs (xi x) (xj x) (xQ x) f
/-- the machine, at pc with these locals, this stack and this memory, comes to its aim -/
def Gx (x : Xx) (n pc : Nat) (L : List (Nat × Value)) (st : List Value) (M : Mm) : Prop :=
  ∀ (H : Heap) (locs : List Loc) (ls : Array Slot), va_P (gD (xg x)) vwCl (ww (xg x) M) H → va_S (gA (xg x)) (xs x).heap H locs → lv_has ls n L → Wx x H locs (F0 (xm x) pc ls st)
/-- what holds all along a walk of method d -/
def Cx (x : Xx) (d : Md) : Prop :=
  (xp x).tables.exec = Jvm.exec ∧ (xc x).code = dc d ∧ (xc x).maxLocals = dn d ∧ (xs x).vm.findClass (dy d).cls = some (xm x).cls ∧ (∀ w ∈ wsL_law, w.before (xa x) (xs x) = true) ∧ Kg (xg x) (xs x) ∧ Dg (xg x) ∧ Sta (xg x) (xs x) ∧ Nst (xs x) ∧ (xt x).sig.returnType = dr d ∧ (xt x).locks = false ∧ (df d ≤ (xR x).frames ∧ dl d ≤ (xR x).locals ∧ xi x ≤ (xR x).cells ∧ xj x ≤ (xR x).slots)
theorem Cx.ex {x : Xx} {d : Md} (C : Cx x d) : (xp x).tables.exec = Jvm.exec := C.1
theorem Cx.by_ {x : Xx} {d : Md} (C : Cx x d) : (xc x).code = dc d := C.2.1
theorem Cx.ml {x : Xx} {d : Md} (C : Cx x d) : (xc x).maxLocals = dn d := C.2.2.1
theorem Cx.ow {x : Xx} {d : Md} (C : Cx x d) : (xs x).vm.findClass (dy d).cls = some (xm x).cls := C.2.2.2.1
theorem Cx.ts {x : Xx} {d : Md} (C : Cx x d) : ∀ w ∈ wsL_law, w.before (xa x) (xs x) = true := C.2.2.2.2.1
theorem Cx.kk {x : Xx} {d : Md} (C : Cx x d) : Kg (xg x) (xs x) := C.2.2.2.2.2.1
theorem Cx.dd {x : Xx} {d : Md} (C : Cx x d) : Dg (xg x) := C.2.2.2.2.2.2.1
theorem Cx.st {x : Xx} {d : Md} (C : Cx x d) : Sta (xg x) (xs x) := C.2.2.2.2.2.2.2.1
theorem Cx.ns {x : Xx} {d : Md} (C : Cx x d) : Nst (xs x) := C.2.2.2.2.2.2.2.2.1
theorem Cx.re {x : Xx} {d : Md} (C : Cx x d) : (xt x).sig.returnType = dr d := C.2.2.2.2.2.2.2.2.2.1
theorem Cx.lo {x : Xx} {d : Md} (C : Cx x d) : (xt x).locks = false := C.2.2.2.2.2.2.2.2.2.2.1
theorem Cx.rm {x : Xx} {d : Md} (C : Cx x d) : df d ≤ (xR x).frames ∧ dl d ≤ (xR x).locals ∧ xi x ≤ (xR x).cells ∧ xj x ≤ (xR x).slots := C.2.2.2.2.2.2.2.2.2.2.2
/-- what a method's walk is to come to -/
def Rt (x : Xx) (d : Md) (post : Int → Mm → Prop) : Prop := xQ x = MQ (xb x) (Qq (xg x) (dr d) post) (xa x) (xs x) (xi x) (xj x) (gA (xg x))
theorem ct_of {l : Launch} {g : Gg} {d : Md} {av : List Value} {M : Mm} {post : Int → Mm → Prop} (hp : plainName (dy d).cls = true) (hlen : (lg_sl av).length ≤ dn d)
    (h : ∀ x : Xx, xl x = l → xg x = g → Cx x d → Rt x d post → Gx x (dn d) 0 (lv_args 0 av) [] M) : Ct l g d av M post := by
  refine Met.ofW (cc := dc d) (maxL := dn d) (ret := dr d) hp rfl ?_
  intro p e s m args below meth c s₁ B hml hv
  obtain ⟨rfl, hD, hP, hK, hSt, hNs⟩ := hv
  have hts := atoms_spec (ws := .code (dy d) (dc d) (dn d) (dr d) :: wsL_law) B.pre
  have hown : s.vm.findClass (dy d).cls = some m.cls := findClass_of_methodNamed B.named
  have hl := lv_entry av (n := dn d) hlen
  rw [lg_entry_eq]
  exact h (p, l, e, { frames := df d, cells := 0, slots := 0, locals := dl d }, s, m, av.toArray, below, meth, c, g, MQ below (Qq g (dr d) post) av.toArray s 0 0 (gA g), 0, 0) rfl rfl ⟨B.exec, B.bytes, hml, hown, fun w hw => hts w (List.mem_cons_of_mem _ hw), hK, hD, hSt, hNs, B.returns, B.notSynchronized, Nat.le_refl _, Nat.le_refl _, Nat.le_refl _, Nat.le_refl _⟩ rfl s.heap [] _ hP va_S.rf hl
