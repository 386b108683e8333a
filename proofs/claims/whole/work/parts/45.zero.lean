/-! ===== the memory at the start ===== -/
def b0 (i : Int) : Int := if i = 0 then 40 else if i = 1 then 10 else if i = 2 then 2 else if i = 3 then 6 else if i = 4 then 3 else 0
def M0 : Mm := fun k i => if k = 0 then (if i = 12 then 1 else 0) else if k = 106 ∨ (6 ≤ k ∧ k < 76 ∧ k % 7 = 0) then b0 i else if (k = 96 ∨ k = 99 ∨ k = 102) ∧ i = 2 then -1 else 0
theorem M0_b {k : Nat} (h : k ≠ 0 ∧ (k = 106 ∨ (6 ≤ k ∧ k < 76 ∧ k % 7 = 0))) (i : Int) : M0 k i = b0 i := by
  unfold M0
  rw [if_neg h.1, if_pos h.2]
theorem M0_z {k : Nat} (h : k ≠ 0 ∧ ¬ (k = 106 ∨ (6 ≤ k ∧ k < 76 ∧ k % 7 = 0)) ∧ ¬ (k = 96 ∨ k = 99 ∨ k = 102)) (i : Int) : M0 k i = 0 := by
  unfold M0
  rw [if_neg h.1, if_neg h.2.1, if_neg (fun q => h.2.2 q.1)]
theorem M0_p {k : Nat} (h : k = 96 ∨ k = 99 ∨ k = 102) {i : Int} (hi : i ≠ 2) : M0 k i = 0 := by
  unfold M0
  rw [if_neg (by omega), if_neg (by omega), if_neg (fun q => hi q.2)]
theorem b0_0 {i : Int} (h : 5 ≤ i) : b0 i = 0 := by
  unfold b0
  rw [if_neg (by omega), if_neg (by omega), if_neg (by omega), if_neg (by omega), if_neg (by omega)]
theorem b0_v : b0 0 = 40 ∧ b0 1 = 10 ∧ b0 2 = 2 ∧ b0 3 = 6 ∧ b0 4 = 3 ∧ b0 5 = 0 ∧ b0 6 = 0 := by decide
theorem inv0 : INV M0 := by
  obtain ⟨v0, v1, v2, v3, v4, v5, v6⟩ := b0_v
  have e6 : M0 106 = b0 := funext (fun i => M0_b (by decide) i)
  have z : ∀ k, k ≠ 0 ∧ ¬ (k = 106 ∨ (6 ≤ k ∧ k < 76 ∧ k % 7 = 0)) ∧ ¬ (k = 96 ∨ k = 99 ∨ k = 102) → ∀ i, M0 k i = 0 := fun k h i => M0_z h i
  unfold INV
  rw [e6]
  refine ⟨⟨?_, ?_, ?_, ?_, ?_, ?_, ?_, fun f f0 f1 => ?_⟩, ⟨⟨fun i i0 i1 => M0_b (by decide) i, ?_, fun p f p4 f0 f1 => ?_⟩, ⟨z 81 (by decide) 0, z 91 (by decide) 0, ?_, ?_, ?_⟩, Or.inr (by decide), fun q => absurd q (by decide)⟩, ⟨?_, ?_, ?_, fun u u0 u1 => ?_⟩, fun i i0 i1 => ⟨Or.inl (z 110 (by decide) i), ?_, fun q => ?_⟩, ?_, ?_, fun p p0 p1 => ?_⟩
  · rw [v0]; omega
  · rw [v1]; omega
  · rw [v2]; omega
  · rw [v3, v1]; omega
  · rw [v4]; omega
  · rw [v5]; omega
  · rw [v6]; omega
  · rw [v6] at f1; omega
  · rw [z 6 (by decide) 2, v6]
  · rw [v6] at f1; omega
  · unfold Z0
    exact ⟨z 97 (by decide) 0, z 98 (by decide) 0⟩
  · unfold Z0
    exact ⟨z 100 (by decide) 0, z 101 (by decide) 0⟩
  · unfold Z0
    exact ⟨z 103 (by decide) 0, z 104 (by decide) 0⟩
  · rw [z 4 (by decide) 1]; omega
  · rw [z 4 (by decide) 2]; omega
  · rw [z 4 (by decide) 2, z 105 (by decide) 2]
  · rw [z 4 (by decide) 2] at u1; omega
  · rw [z 2 (by decide) i, z 110 (by decide) i]
  · rw [z 110 (by decide) i] at q; exact absurd q (by decide)
  · rw [z 105 (by decide) 6]; decide
  · rw [show M0 0 11 = 0 by decide]; omega
  · rw [show M0 0 11 = 0 by decide] at p1; omega
/-! ===== addresses ===== -/
def pi9 (k : Nat) : Nat := if k = 0 then 0 else if k = 1 then 15 else if k = 2 then 30 else if k = 3 then 104 else if k < 6 then k + 27 else if k < 20 then k - 5 else if k < 34 then k - 4 else if k < 105 then k - 1 else k
theorem pi9_lt : ∀ k, k < 119 → pi9 k < 119 := by decide +kernel
theorem pi9_in : ∀ i, i < 119 → ∀ j, j < 119 → pi9 i = pi9 j → i = j := by decide +kernel
def gcT (t : T5) (k : Nat) : ClassId := if kd k = 8 then t.2.1 else if kd k = 9 then t.2.2.1 else if kd k = 10 then t.2.2.2.1 else if kd k = 11 then t.2.2.2.2 else t.1
def At0 (g : Gg) (H : Heap) (k : Nat) : Prop := va_at (gD g) vwCl (ga g k, celr g k (M0 k)) H
theorem ls {P : Nat → Prop} {n : Nat} (h : ∀ k, k < n → P k) (q : P n) : ∀ k, k < n + 1 → P k := by
  intro k hk
  rcases Nat.lt_or_ge k n with z | z
  · exact h k z
  · rw [show k = n by omega]; exact q
theorem lt2 {P : Nat → Prop} (a : P 0) (b : P 1) : ∀ k, k < 2 → P k := ls (ls (fun k h => absurd h (Nat.not_lt_zero k)) a) b
theorem lt4 {P : Nat → Prop} (a : P 0) (b : P 1) (c : P 2) (d : P 3) : ∀ k, k < 4 → P k := ls (ls (lt2 a b) c) d
theorem lt6 {P : Nat → Prop} (a : P 0) (b : P 1) (c : P 2) (d : P 3) (e : P 4) (f : P 5) : ∀ k, k < 6 → P k := ls (ls (lt4 a b c d) e) f
theorem vp_l {D : va_G} {cl : List vw_C} {A B : va_W} {H : Heap} (h : va_P D cl (A ++ B) H) : va_P D cl A H := fun k q hk => h k q (by rw [List.getElem?_append_left (List.getElem?_eq_some_iff.mp hk).1]; exact hk)
theorem vp_r {D : va_G} {cl : List vw_C} {A B : va_W} {H : Heap} (h : va_P D cl (A ++ B) H) : va_P D cl B H := fun k q hk => h (A.length + k) q (by rw [List.getElem?_append_right (by omega), show A.length + k - A.length = k by omega]; exact hk)
theorem vp_tl {D : va_G} {cl : List vw_C} {o : Nat × va_E} {B : va_W} {H : Heap} (h : va_P D cl (o :: B) H) : va_P D cl B H := vp_r (A := [o]) h
theorem vp_hd {D : va_G} {cl : List vw_C} {o : Nat × va_E} {B : va_W} {H : Heap} (h : va_P D cl (o :: B) H) : va_P D cl [o] H := vp_l (A := [o]) h
theorem at_o {g : Gg} {H : Heap} {k a : Nat} {e : va_E} (h : va_at (gD g) vwCl (a, e) H) (ea : ga g k = a) (he : celr g k (M0 k) = e) : At0 g H k := by
  unfold At0
  rw [ea, he]
  exact h
theorem cel_i {g : Gg} {k : Nat} {r : Int → Int} (h : kd k = 7 ∨ kd k = 9) : celr g k r = .inl (gc g k, ln k, .inl (fun i => jI (r (i : Int)))) := by
  unfold celr
  rcases h with e | e <;> (rw [e]; first | done | rfl)
theorem cel_l {g : Gg} {k : Nat} {r : Int → Int} (h : kd k = 8) : celr g k r = .inl (gc g k, ln k, .inr (.inl (fun i => jL (r (i : Int))))) := by
  unfold celr
  rw [h]
  first | done | rfl
theorem cel_q {g : Gg} {k : Nat} {r : Int → Int} (h : kd k = 10 ∨ kd k = 11) : celr g k r = .inl (gc g k, ln k, .inr (.inr (.inr (.inr (fun i => some (ga g (rfa k i))))))) := by
  unfold celr
  rcases h with e | e <;> (rw [e]; first | done | rfl)
theorem at_b {g : Gg} {H : Heap} {k a N : Nat} {c : ClassId} {f : Nat → Int32} {r : Int → Int} (h : va_at (gD g) vwCl (a, .inl (c, N, .inl f)) H) (h7 : kd k = 7 ∨ kd k = 9) (hl : ln k = N) (ea : ga g k = a) (ec : gc g k = c) (hf : ∀ j : Nat, j < N → f j = jI (r (j : Int))) (hr : ∀ i, M0 k i = r i) : At0 g H k := by
  unfold At0
  rw [cel_i h7, ea, ec, hl]
  show H[a]? = some (vp_cell c (N, .inl (fun i => jI (M0 k (i : Int)))))
  have h2 : H[a]? = some (vp_cell c (N, .inl f)) := h
  rw [h2, vp_cell_i, vp_cell_i]
  exact congrArg some (arrV_ext (fun j hj => by rw [hf j hj, hr]))
theorem at_z {g : Gg} {H : Heap} {k a N : Nat} {c : ClassId} (h : va_at (gD g) vwCl (a, .inl (c, N, .inl (fun _ => jI 0))) H) (h7 : kd k = 7 ∨ kd k = 9) (hl : ln k = N) (ea : ga g k = a) (ec : gc g k = c) (hr : ∀ i, M0 k i = 0) : At0 g H k :=
  at_b (r := fun _ => 0) h h7 hl ea ec (fun _ _ => rfl) hr
theorem at_l {g : Gg} {H : Heap} {k a N : Nat} {c : ClassId} (h : va_at (gD g) vwCl (a, .inl (c, N, .inr (.inl (fun _ => jL 0)))) H) (h7 : kd k = 8) (hl : ln k = N) (ea : ga g k = a) (ec : gc g k = c) (hr : ∀ i, M0 k i = 0) : At0 g H k := by
  unfold At0
  rw [cel_l h7, ea, ec, hl]
  show H[a]? = some (arrV c N (fun i => .long (jL (M0 k (i : Int)))))
  have h2 : H[a]? = some (arrV c N (fun _ => .long (jL 0))) := h
  rw [h2]
  exact congrArg some (arrV_ext (fun j hj => by rw [hr]))
theorem at_q {g : Gg} {H : Heap} {k a N : Nat} {c : ClassId} {f : Nat → Option Nat} (h : va_at (gD g) vwCl (a, .inl (c, N, .inr (.inr (.inr (.inr f))))) H) (h7 : kd k = 10 ∨ kd k = 11) (hl : ln k = N) (ea : ga g k = a) (ec : gc g k = c) (hf : ∀ j : Nat, j < N → f j = some (ga g (rfa k j))) : At0 g H k := by
  unfold At0
  rw [cel_q h7, ea, ec, hl]
  show H[a]? = some (vp_cell c (N, .inr (.inr (.inr (.inr (fun i => some (ga g (rfa k i))))))))
  have h2 : H[a]? = some (vp_cell c (N, .inr (.inr (.inr (.inr f))))) := h
  rw [h2, vp_cell_q, vp_cell_q]
  exact congrArg some (arrV_ext (fun j hj => by rw [hf j hj]))
theorem bd6 : ∀ j : Nat, j < 6 → upd (upd (upd (upd (upd (upd (fun _ => jI 0) 0 (jI 40)) 1 (jI 10)) 2 (jI 2)) 3 (jI 6)) 4 (jI 3)) 5 (jI 0) j = jI (b0 (j : Int)) := lt6 (by decide) (by decide) (by decide) (by decide) (by decide) (by decide)
theorem bd47 : ∀ j : Nat, j < 47 → upd (upd (upd (upd (upd (fun _ => jI 0) 0 (jI 40)) 1 (jI 10)) 2 (jI 2)) 3 (jI 6)) 4 (jI 3) j = jI (b0 (j : Int)) := by decide +kernel
theorem nd_of {A : Nat → Prop} {w : va_W} {ad : List Nat} (h : va_D A w) (e : w.map Prod.fst = ad) : (∀ i j, i < ad.length → j < ad.length → ad.getD i 0 = ad.getD j 0 → i = j) ∧ ∀ k, k < ad.length → A (ad.getD k 0) := by
  subst e
  have key : ∀ i, i < (w.map Prod.fst).length → ∃ q, w[i]? = some q ∧ (w.map Prod.fst).getD i 0 = q.1 := by
    intro i hi
    rw [List.length_map] at hi
    refine ⟨w[i], List.getElem?_eq_getElem hi, ?_⟩
    rw [List.getD_eq_getElem?_getD, List.getElem?_map, List.getElem?_eq_getElem hi]
    rfl
  refine ⟨fun i j hi hj e => ?_, fun k hk => ?_⟩
  · obtain ⟨p, p1, p2⟩ := key i hi
    obtain ⟨q, q1, q2⟩ := key j hj
    exact h.1 i j p q p1 q1 (by rw [← p2, ← q2]; exact e)
  · obtain ⟨p, p1, p2⟩ := key k hk
    rw [p2]
    exact h.2 k p p1
theorem dg_of {D : va_G} {A : Nat → Prop} {t : T5} {w : va_W} {ad : List Nat} (h : va_D A w) (e : w.map Prod.fst = ad) (hl : ad.length = 119) : Dg (D, A, fun k => ad.getD (pi9 k) 0, gcT t) := by
  obtain ⟨h1, h2⟩ := nd_of h e
  rw [hl] at h1 h2
  exact ⟨fun i j hi hj q => pi9_in i hi j hj (h1 _ _ (pi9_lt i hi) (pi9_lt j hj) q), fun k hk => h2 _ (pi9_lt k hk)⟩
theorem kg_of {D : va_G} {A : Nat → Prop} {a : Nat → Nat} {t : T5} {U : State} (h : va_K D vwCl (k5 t) U) : Kg (D, A, a, gcT t) U := by
  refine ⟨h.1, fun k q hk => ?_⟩
  have hq : ∀ i, (k5 t)[i]? = some q → ArrOfT U q.1 q.2 ∧ va_RA U q.1 q.2 := fun i hi => h.2 i q hi
  have hk2 : k < 119 := by
    have := (List.getElem?_eq_some_iff.mp hk).1
    simp [tys] at this
    exact this
  rw [tys_at hk2] at hk
  have hk := Option.some.inj hk
  unfold tyw at hk
  have g3 : gcT t 3 = t.1 := rfl
  split at hk
  · rename_i e
    exact hq 0 (by rw [← hk]; show some (t.1, FieldType.int) = some (gcT t k, _); unfold gcT; rw [e]; rfl)
  · rename_i e
    exact hq 1 (by rw [← hk]; show some (t.2.1, FieldType.long) = some (gcT t k, _); unfold gcT; rw [e]; rfl)
  · rename_i e
    exact hq 2 (by rw [← hk]; show some (t.2.2.1, FieldType.boolean) = some (gcT t k, _); unfold gcT; rw [e]; rfl)
  · rename_i e
    exact hq 3 (by rw [← hk]; show some (t.2.2.2.1, _) = some (gcT t k, _); unfold gcT; rw [e]; rfl)
  · rename_i e
    exact hq 4 (by rw [← hk]; show some (t.2.2.2.2, _) = some (gcT t k, _); unfold gcT; rw [e]; rfl)
  · exact hq 0 (by rw [← hk]; rfl)
