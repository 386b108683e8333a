theorem jL_ne0 {b : Int} (h : 0 < b ∧ b < 9223372036854775808) : ¬ jL b = 0 := by
  intro e
  have h2 := congrArg Int64.toInt e
  rw [jL_int ⟨by omega, by omega⟩] at h2
  have h3 : (0 : Int64).toInt = 0 := by decide
  omega
theorem jI_tb (a : Int) : (jI a).toBitVec.toNat = (a % 4294967296).toNat := by
  unfold jI
  rw [Int32.toBitVec_ofInt, BitVec.toNat_ofInt]
  rfl
theorem jI_bv {a b : Int} (h : a % 4294967296 = b % 4294967296) : jI a = jI b := by
  apply Int32.toBitVec_inj.mp
  apply BitVec.eq_of_toNat_eq
  rw [jI_tb, jI_tb, h]
theorem jI_and {a b p : Int} (w : Nat) (hb : b = 2 ^ w - 1 ∧ w ≤ 30) (hp : p = 2 ^ w) : jI a &&& jI b = jI (a % p) := by
  have hw : (2 : Int) ^ w = ((2 ^ w : Nat) : Int) := by norm_cast
  have hpos : 0 < 2 ^ w := Nat.two_pow_pos w
  have hle : 2 ^ w ≤ 2 ^ 30 := Nat.pow_le_pow_right (by decide) hb.2
  have hdv : (2 : Int) ^ w ∣ 4294967296 := ⟨2 ^ (32 - w), by rw [← Int.pow_add, show w + (32 - w) = 32 by omega]; rfl⟩
  have hm : (jI b).toBitVec.toNat = 2 ^ w - 1 := by
    rw [jI_tb, hb.1, hw]
    have : ((2 ^ w : Nat) : Int) - 1 = ((2 ^ w - 1 : Nat) : Int) := by omega
    rw [this]
    omega
  rw [pk_and (jI a) w hm, jI_tb, ← jI_nat]
  congr 1
  rw [hp]
  have h1 : ((a % 4294967296).toNat : Int) = a % 4294967296 := Int.toNat_of_nonneg (Int.emod_nonneg _ (by decide))
  rw [Int.natCast_emod, h1, ← hw, Int.emod_emod_of_dvd _ hdv]
theorem nI_or (a b : Nat) : nI a ||| nI b = nI (a ||| b) := by
  apply Int32.toBitVec_inj.mp
  show BitVec.ofNat 32 a ||| BitVec.ofNat 32 b = BitVec.ofNat 32 (a ||| b)
  exact BitVec.ofNat_or.symm
theorem jI_or {a b : Int} (h : 0 ≤ a ∧ 0 ≤ b) : jI a ||| jI b = jI ((a.toNat ||| b.toNat : Nat) : Int) := by
  obtain ⟨m, rfl⟩ : ∃ k : Nat, a = (k : Int) := ⟨a.toNat, by omega⟩
  obtain ⟨k, rfl⟩ : ∃ k : Nat, b = (k : Int) := ⟨b.toNat, by omega⟩
  rw [jI_nat, jI_nat, jI_nat, nI_or]
  rfl
theorem sm_l : ∀ n, n < 32 → ((nI n &&& 31).toBitVec.smod 32).toNat = n := by decide
theorem jI_shl {b : Int} (h : 0 ≤ b ∧ b < 31) : jI 1 <<< (jI b &&& 31) = jI (2 ^ b.toNat) := by
  obtain ⟨k, rfl⟩ : ∃ k : Nat, b = (k : Int) := ⟨b.toNat, by omega⟩
  have hk : k < 31 := by omega
  rw [jI_nat, show jI 1 = nI 1 from by decide, pk_shlN (n := 1) (nI k &&& 31) k (sm_l k (by omega)) (by rw [Nat.one_mul]; exact Nat.pow_lt_pow_right (by decide) (by omega)), Nat.one_mul, ← jI_nat]
  rfl
theorem jI_shr {a b : Int} (h : 0 ≤ a ∧ a < 2147483648) (hb : 0 ≤ b ∧ b < 31) : jI a >>> (jI b &&& 31) = jI (a / 2 ^ b.toNat) := by
  obtain ⟨m, rfl⟩ : ∃ k : Nat, a = (k : Int) := ⟨a.toNat, by omega⟩
  obtain ⟨k, rfl⟩ : ∃ k : Nat, b = (k : Int) := ⟨b.toNat, by omega⟩
  rw [jI_nat, jI_nat, pk_shrN (by omega) (nI k &&& 31) k (sm_l k (by omega)), ← jI_nat, Int.toNat_natCast]
  congr 1
theorem celr_0 {g : Gg} {k : Nat} {r : Int → Int} (h : kd k = 0) : celr g k r = .inr (0, [vr g 5, vi (r 1), vi (r 2)]) := by simp only [celr, h]
theorem celr_1 {g : Gg} {k : Nat} {r : Int → Int} (h : kd k = 1) : celr g k r = .inr (1, [vi (r 0), vi (r 1), vi (r 2), vi (r 3), vi (r 4), vr g (k + 1), vr g (k + 2), vr g (k + 3), vr g (k + 4)]) := by simp only [celr, h]
theorem celr_2 {g : Gg} {k : Nat} {r : Int → Int} (h : kd k = 2) : celr g k r = .inr (2, [vr g (k + 1), vr g (k + 2), vi (r 2)]) := by simp only [celr, h]
theorem celr_3 {g : Gg} {k : Nat} {r : Int → Int} (h : kd k = 3) : celr g k r = .inr (3, [vr g (k + 1), vr g (k + 6), vr g (k + 7), vr g (k + 8), vr g (k + 9), vi (r 5)]) := by simp only [celr, h]
theorem celr_4 {g : Gg} {k : Nat} {r : Int → Int} (h : kd k = 4) : celr g k r = .inr (4, [vr g (k + 1), vr g (k + 2), vi (r 2)]) := by simp only [celr, h]
theorem celr_5 {g : Gg} {k : Nat} {r : Int → Int} (h : kd k = 5) : celr g k r = .inr (5, [vr g 6, vr g 13, vr g 1, vr g 2, vr g 4, vr g 76, vr g 86, vr g 96, vr g 99, vr g 102, vr g 3, vi (r 11), vi (r 12)]) := by simp only [celr, h]
theorem celr_6 {g : Gg} {k : Nat} {r : Int → Int} (h : kd k = 6) : celr g k r = .inr (6, [vr g 106, vr g 107, vi (r 2), vr g 108, vr g 109, vr g 110, vi (r 6), vr g 111, vr g 112, vr g 113, vr g 114, vr g 115, vi (r 12), vr g 116, vr g 117, vr g 118]) := by simp only [celr, h]
theorem celr_7 {g : Gg} {k : Nat} {r : Int → Int} (h : kd k = 7) : celr g k r = .inl (gc g k, ln k, .inl (fun i => jI (r (i : Int)))) := by simp only [celr, h]
theorem celr_8 {g : Gg} {k : Nat} {r : Int → Int} (h : kd k = 8) : celr g k r = .inl (gc g k, ln k, .inr (.inl (fun i => jL (r (i : Int))))) := by simp only [celr, h]
theorem celr_9 {g : Gg} {k : Nat} {r : Int → Int} (h : kd k = 9) : celr g k r = .inl (gc g k, ln k, .inl (fun i => jI (r (i : Int)))) := by simp only [celr, h]
theorem celr_10 {g : Gg} {k : Nat} {r : Int → Int} (h : kd k = 10) : celr g k r = .inl (gc g k, ln k, .inr (.inr (.inr (.inr (fun i => some (ga g (rfa k i))))))) := by simp only [celr, h]
theorem celr_11 {g : Gg} {k : Nat} {r : Int → Int} (h : kd k = 11) : celr g k r = .inl (gc g k, ln k, .inr (.inr (.inr (.inr (fun i => some (ga g (rfa k i))))))) := by simp only [celr, h]
theorem ww_7 {g : Gg} {M : Mm} {k : Nat} (hk : k < 119) (h : kd k = 7) : (ww g M)[k]? = some (ga g k, .inl (gc g k, ln k, .inl (fun i => jI (M k (i : Int))))) := by rw [ww_at hk, celr_7 h]
theorem tys_7 {g : Gg} {k : Nat} (hk : k < 119) (h : kd k = 7) : (tys g)[k]? = some (gc g k, .int) := by rw [tys_at hk]; simp only [tyw, h]
theorem ww_8 {g : Gg} {M : Mm} {k : Nat} (hk : k < 119) (h : kd k = 8) : (ww g M)[k]? = some (ga g k, .inl (gc g k, ln k, .inr (.inl (fun i => jL (M k (i : Int)))))) := by rw [ww_at hk, celr_8 h]
theorem tys_8 {g : Gg} {k : Nat} (hk : k < 119) (h : kd k = 8) : (tys g)[k]? = some (gc g k, .long) := by rw [tys_at hk]; simp only [tyw, h]
theorem ww_9 {g : Gg} {M : Mm} {k : Nat} (hk : k < 119) (h : kd k = 9) : (ww g M)[k]? = some (ga g k, .inl (gc g k, ln k, .inl (fun i => jI (M k (i : Int))))) := by rw [ww_at hk, celr_9 h]
theorem tys_9 {g : Gg} {k : Nat} (hk : k < 119) (h : kd k = 9) : (tys g)[k]? = some (gc g k, .boolean) := by rw [tys_at hk]; simp only [tyw, h]
theorem ww_10 {g : Gg} {M : Mm} {k : Nat} (hk : k < 119) (h : kd k = 10) : (ww g M)[k]? = some (ga g k, .inl (gc g k, ln k, .inr (.inr (.inr (.inr (fun i => some (ga g (rfa k i)))))))) := by rw [ww_at hk, celr_10 h]
theorem tys_10 {g : Gg} {k : Nat} (hk : k < 119) (h : kd k = 10) : (tys g)[k]? = some (gc g k, .object "NearFigures$Setting") := by rw [tys_at hk]; simp only [tyw, h]
theorem ww_11 {g : Gg} {M : Mm} {k : Nat} (hk : k < 119) (h : kd k = 11) : (ww g M)[k]? = some (ga g k, .inl (gc g k, ln k, .inr (.inr (.inr (.inr (fun i => some (ga g (rfa k i)))))))) := by rw [ww_at hk, celr_11 h]
theorem tys_11 {g : Gg} {k : Nat} (hk : k < 119) (h : kd k = 11) : (tys g)[k]? = some (gc g k, .array .int) := by rw [tys_at hk]; simp only [tyw, h]
theorem up_7 {g : Gg} {M : Mm} {k : Nat} {i z : Int} (h : kd k = 7) (hi : 0 ≤ i) : (.inl (gc g k, ln k, .inl (upd (fun j => jI (M k (j : Int))) i.toNat (jI z))) : va_E) = celr g k (fun b => if b = i then z else M k b) := by
  rw [celr_7 h]
  congr 4
  funext j
  by_cases e : (j : Int) = i
  · have e2 : j = i.toNat := by omega
    subst e2
    simp [upd, e]
  · have e2 : ¬ j = i.toNat := by omega
    simp [upd, e, e2]
theorem up_9 {g : Gg} {M : Mm} {k : Nat} {i z : Int} (h : kd k = 9) (hz : z = 0 ∨ z = 1) (hi : 0 ≤ i) : (.inl (gc g k, ln k, .inl (upd (fun j => jI (M k (j : Int))) i.toNat (vp_nar .boolean (jI z)))) : va_E) = celr g k (fun b => if b = i then z else M k b) := by
  have hn : vp_nar .boolean (jI z) = jI z := by rcases hz with rfl | rfl <;> decide
  rw [celr_9 h, hn]
  congr 4
  funext j
  by_cases e : (j : Int) = i
  · have e2 : j = i.toNat := by omega
    subst e2
    simp [upd, e]
  · have e2 : ¬ j = i.toNat := by omega
    simp [upd, e, e2]
theorem up_8 {g : Gg} {M : Mm} {k : Nat} {i z : Int} (h : kd k = 8) (hi : 0 ≤ i) : (.inl (gc g k, ln k, .inr (.inl (vp_updL (fun j => jL (M k (j : Int))) i.toNat (jL z)))) : va_E) = celr g k (fun b => if b = i then z else M k b) := by
  rw [celr_8 h]
  congr 5
  funext j
  by_cases e : (j : Int) = i
  · have e2 : j = i.toNat := by omega
    subst e2
    simp [vp_updL, e]
  · have e2 : ¬ j = i.toNat := by omega
    simp [vp_updL, e, e2]
def mcp (M : Mm) (k0 : Nat) (sp : Int) (k1 : Nat) (dp c : Int) : Mm := mset M k1 (fun b => if dp ≤ b ∧ b < dp + c then M k0 (sp + (b - dp)) else M k1 b)
theorem cp_7 {g : Gg} {M : Mm} {k0 k1 : Nat} {sp dp c : Int} (h : kd k1 = 7) (h1 : 0 ≤ sp) (h2 : 0 ≤ dp) (h3 : 0 ≤ c) : (.inl (gc g k1, ln k1, .inl (va_cpy (fun j => jI (M k0 (j : Int))) (fun j => jI (M k1 (j : Int))) sp.toNat dp.toNat c.toNat)) : va_E) = celr g k1 (fun b => if dp ≤ b ∧ b < dp + c then M k0 (sp + (b - dp)) else M k1 b) := by
  rw [celr_7 h]
  congr 4
  funext j
  by_cases e : dp ≤ (j : Int) ∧ (j : Int) < dp + c
  · rw [pk_cpy_in (by omega) (by omega), if_pos e]
    congr 2
    omega
  · rw [pk_cpy_out (by omega), if_neg e]
section VMX
variable {p : Program} {l : Launch} {e : Env} {R : Room} {s : State} {m : MethodId} {args : Array Value} {below : List Frame} {meth : Method} {c : Code} {H : Heap} {locs : List Loc} {cells slots : Nat} {Q : State → Prop}
variable {cc : ByteArray} {pc : Nat} {ls : Array Slot} {rest : List Value} {D : va_G} {cl : List vw_C} {a : Nat} {tys : List (ClassId × FieldType)} {ws : va_W}
theorem vm_aald (hexec : p.tables.exec = Jvm.exec) (hb : c.code = cc) (hK : va_K D cl tys s) (hP : va_P D cl ws H) (q0 t0 : Nat) {cA : ClassId} {ty : FieldType} {n : Nat} {f : Nat → Option Nat} (ha : ws[q0]? = some (a, .inl (cA, n, .inr (.inr (.inr (.inr f)))))) (ht : tys[t0]? = some (cA, .array ty)) {i : Int32} (hin : vp_in i n) (hdg : decode cc pc = .ok (.aaload, 1))
    (kk : W p l e R s m args below meth c H locs cells slots Q (F0 m (pc + 1) ls (va_rf (f i.toNatClampNeg) :: rest))) : W p l e R s m args below meth c H locs cells slots Q (F0 m pc ls (.int i :: .ref a :: rest)) := by
  have hlt : i.toNatClampNeg < n := Nat.not_le.mp fun q => hin (Or.inr q)
  exact W.aald (v := va_rf (f i.toNatClampNeg)) (ty := .array ty) hexec hb (hP q0 _ ha) ((hK.2 t0 _ ht).1 n (fun j => va_rf (f j))) rfl (fun q => by cases q) (by show ¬ (i < 0 ∨ (arrV _ _ _).slots.size ≤ _); rw [arrV_size]; exact hin) (by show (arrV _ _ _).slots[_]? = _; rw [arrV_read _ _ hlt]) rfl rfl hdg kk
end VMX
theorem g_sub {x : Xx} {n pc : Nat} {L L2 : List (Nat × Value)} {st : List Value} {M : Mm} (ks : List Nat) (h : lv_pick L ks = L2) (k : Gx x n pc L2 st M) : Gx x n pc L st M := fun H locs ls hP hS hl => k H locs ls hP hS (lv_sub hl ks h)
theorem g_eqM {x : Xx} {n pc : Nat} {L : List (Nat × Value)} {st : List Value} {M M2 : Mm} (h : M = M2) (k : Gx x n pc L st M2) : Gx x n pc L st M := by subst h; exact k
theorem g_iconst {x : Xx} {d : Md} {n pc q : Nat} {L : List (Nat × Value)} {st : List Value} {M : Mm} (C : Cx x d) {z : Int} (hd : decode (dc d) pc = .ok (.iconst z, 1)) (hq : pc + 1 = q)  (k : Gx x n q L (vi z :: st) M) : Gx x n pc L (st) M := by
  subst hq
  exact fun H locs ls hP hS hl => lv_iconst C.ex C.by_ hd rfl (k H locs ls hP hS hl)
theorem g_bipush {x : Xx} {d : Md} {n pc q : Nat} {L : List (Nat × Value)} {st : List Value} {M : Mm} (C : Cx x d) {z : Int} (hd : decode (dc d) pc = .ok (.bipush z, 2)) (hq : pc + 2 = q) (hv : (Int8.ofInt z).toInt32 = jI z) (k : Gx x n q L (vi z :: st) M) : Gx x n pc L (st) M := by
  subst hq
  exact fun H locs ls hP hS hl => lv_bipush C.ex C.by_ hd hv (k H locs ls hP hS hl)
theorem g_sipush {x : Xx} {d : Md} {n pc q : Nat} {L : List (Nat × Value)} {st : List Value} {M : Mm} (C : Cx x d) {z : Int} (hd : decode (dc d) pc = .ok (.sipush z, 3)) (hq : pc + 3 = q) (hv : (Int16.ofInt z).toInt32 = jI z) (k : Gx x n q L (vi z :: st) M) : Gx x n pc L (st) M := by
  subst hq
  exact fun H locs ls hP hS hl => lv_sipush C.ex C.by_ hd hv (k H locs ls hP hS hl)
theorem g_lconst {x : Xx} {d : Md} {n pc q : Nat} {L : List (Nat × Value)} {st : List Value} {M : Mm} (C : Cx x d) {z : Fin 2} (hd : decode (dc d) pc = .ok (.lconst z, 1)) (hq : pc + 1 = q)  (k : Gx x n q L (vl ((z : Nat) : Int) :: st) M) : Gx x n pc L (st) M := by
  subst hq
  exact fun H locs ls hP hS hl => lv_lconst C.ex C.by_ hd (by rw [jL_nat]; rfl) (k H locs ls hP hS hl)
theorem g_ldc {x : Xx} {d : Md} {n pc q : Nat} {L : List (Nat × Value)} {st : List Value} {M : Mm} (C : Cx x d) {i : Nat} {z : Int} (hd : decode (dc d) pc = .ok (.ldc i, 2)) (hq : pc + 2 = q) (hw : Cond.constant (dy d).cls i (jI z) ∈ wsL_law) (k : Gx x n q L (vi z :: st) M) : Gx x n pc L (st) M := by
  subst hq
  exact fun H locs ls hP hS hl => lv_ldc C.ex C.by_ C.ow (C.ts _ hw) hd (k H locs ls hP hS hl)
theorem g_ldc2 {x : Xx} {d : Md} {n pc q : Nat} {L : List (Nat × Value)} {st : List Value} {M : Mm} (C : Cx x d) {i : Nat} {z : Int} (hd : decode (dc d) pc = .ok (.ldc2_w i, 3)) (hq : pc + 3 = q) (hw : Cond.constantLong (dy d).cls i (jL z) ∈ wsL_law) (k : Gx x n q L (vl z :: st) M) : Gx x n pc L (st) M := by
  subst hq
  exact fun H locs ls hP hS hl => lv_ldc2 C.ex C.by_ C.ow (C.ts _ hw) hd (k H locs ls hP hS hl)
theorem g_iload_n {x : Xx} {d : Md} {n pc q : Nat} {L : List (Nat × Value)} {st : List Value} {M : Mm} (C : Cx x d) {j : Fin 4} {i : Nat} {z : Int} (hd : decode (dc d) pc = .ok (.iload_n j, 1)) (hq : pc + 1 = q) (p : Nat) (hi : (j : Nat) = i) (hL : L[p]? = some (i, vi z)) (k : Gx x n q L (vi z :: st) M) : Gx x n pc L (st) M := by
  subst hq
  exact fun H locs ls hP hS hl => lv_iload_n C.ex C.by_ hd hi (lv_at hl p hL) (k H locs ls hP hS hl)
theorem g_iload {x : Xx} {d : Md} {n pc q : Nat} {L : List (Nat × Value)} {st : List Value} {M : Mm} (C : Cx x d) {i : Nat} {z : Int} (hd : decode (dc d) pc = .ok (.iload i, 2)) (hq : pc + 2 = q) (p : Nat) (hL : L[p]? = some (i, vi z)) (k : Gx x n q L (vi z :: st) M) : Gx x n pc L (st) M := by
  subst hq
  exact fun H locs ls hP hS hl => lv_iload C.ex C.by_ hd (lv_at hl p hL) (k H locs ls hP hS hl)
theorem g_lload_n {x : Xx} {d : Md} {n pc q : Nat} {L : List (Nat × Value)} {st : List Value} {M : Mm} (C : Cx x d) {j : Fin 4} {i : Nat} {z : Int} (hd : decode (dc d) pc = .ok (.lload_n j, 1)) (hq : pc + 1 = q) (p : Nat) (hi : (j : Nat) = i) (hL : L[p]? = some (i, vl z)) (k : Gx x n q L (vl z :: st) M) : Gx x n pc L (st) M := by
  subst hq
  exact fun H locs ls hP hS hl => lv_lload_n C.ex C.by_ hd hi (lv_at hl p hL) (k H locs ls hP hS hl)
theorem g_lload {x : Xx} {d : Md} {n pc q : Nat} {L : List (Nat × Value)} {st : List Value} {M : Mm} (C : Cx x d) {i : Nat} {z : Int} (hd : decode (dc d) pc = .ok (.lload i, 2)) (hq : pc + 2 = q) (p : Nat) (hL : L[p]? = some (i, vl z)) (k : Gx x n q L (vl z :: st) M) : Gx x n pc L (st) M := by
  subst hq
  exact fun H locs ls hP hS hl => lv_lload C.ex C.by_ hd (lv_at hl p hL) (k H locs ls hP hS hl)
theorem g_aload_n {x : Xx} {d : Md} {n pc q : Nat} {L : List (Nat × Value)} {st : List Value} {M : Mm} (C : Cx x d) {j : Fin 4} {i : Nat} {z : Nat} (hd : decode (dc d) pc = .ok (.aload_n j, 1)) (hq : pc + 1 = q) (p : Nat) (hi : (j : Nat) = i) (hL : L[p]? = some (i, .ref z)) (k : Gx x n q L (.ref z :: st) M) : Gx x n pc L (st) M := by
  subst hq
  exact fun H locs ls hP hS hl => lv_aload_n C.ex C.by_ hd hi (lv_at hl p hL) (k H locs ls hP hS hl)
theorem g_aload {x : Xx} {d : Md} {n pc q : Nat} {L : List (Nat × Value)} {st : List Value} {M : Mm} (C : Cx x d) {i : Nat} {z : Nat} (hd : decode (dc d) pc = .ok (.aload i, 2)) (hq : pc + 2 = q) (p : Nat) (hL : L[p]? = some (i, .ref z)) (k : Gx x n q L (.ref z :: st) M) : Gx x n pc L (st) M := by
  subst hq
  exact fun H locs ls hP hS hl => lv_aload C.ex C.by_ hd (lv_at hl p hL) (k H locs ls hP hS hl)
theorem g_istore_n {x : Xx} {d : Md} {n pc q : Nat} {L : List (Nat × Value)} {st : List Value} {M : Mm} (C : Cx x d) {L2 : List (Nat × Value)} {j : Fin 4} {i : Nat} {z : Int} (hd : decode (dc d) pc = .ok (.istore_n j, 1)) (hq : pc + 1 = q) (hi : (j : Nat) = i) (hn : i < n) (hL : (i, vi z) :: L.filter (fun q => !(q.1 == i) && !(q.1 + 1 == i && q.2.category == 2)) = L2) (k : Gx x n q L2 st M) : Gx x n pc L (vi z :: st) M := by
  subst hq
  exact fun H locs ls hP hS hl => lv_istore_n C.ex C.by_ hd hi hl hn hL (fun ls2 h2 => k H locs ls2 hP hS h2)
theorem g_istore {x : Xx} {d : Md} {n pc q : Nat} {L : List (Nat × Value)} {st : List Value} {M : Mm} (C : Cx x d) {L2 : List (Nat × Value)} {i : Nat} {z : Int} (hd : decode (dc d) pc = .ok (.istore i, 2)) (hq : pc + 2 = q) (hn : i < n) (hL : (i, vi z) :: L.filter (fun q => !(q.1 == i) && !(q.1 + 1 == i && q.2.category == 2)) = L2) (k : Gx x n q L2 st M) : Gx x n pc L (vi z :: st) M := by
  subst hq
  exact fun H locs ls hP hS hl => lv_istore C.ex C.by_ hd hl hn hL (fun ls2 h2 => k H locs ls2 hP hS h2)
theorem g_lstore_n {x : Xx} {d : Md} {n pc q : Nat} {L : List (Nat × Value)} {st : List Value} {M : Mm} (C : Cx x d) {L2 : List (Nat × Value)} {j : Fin 4} {i : Nat} {z : Int} (hd : decode (dc d) pc = .ok (.lstore_n j, 1)) (hq : pc + 1 = q) (hi : (j : Nat) = i) (hn : i + 1 < n) (hL : (i, vl z) :: L.filter (fun q => !(q.1 == i) && (!(q.1 == i + 1) && !(q.1 + 1 == i && q.2.category == 2))) = L2) (k : Gx x n q L2 st M) : Gx x n pc L (vl z :: st) M := by
  subst hq
  exact fun H locs ls hP hS hl => lv_lstore_n C.ex C.by_ hd hi hl hn hL (fun ls2 h2 => k H locs ls2 hP hS h2)
theorem g_lstore {x : Xx} {d : Md} {n pc q : Nat} {L : List (Nat × Value)} {st : List Value} {M : Mm} (C : Cx x d) {L2 : List (Nat × Value)} {i : Nat} {z : Int} (hd : decode (dc d) pc = .ok (.lstore i, 2)) (hq : pc + 2 = q) (hn : i + 1 < n) (hL : (i, vl z) :: L.filter (fun q => !(q.1 == i) && (!(q.1 == i + 1) && !(q.1 + 1 == i && q.2.category == 2))) = L2) (k : Gx x n q L2 st M) : Gx x n pc L (vl z :: st) M := by
  subst hq
  exact fun H locs ls hP hS hl => lv_lstore C.ex C.by_ hd hl hn hL (fun ls2 h2 => k H locs ls2 hP hS h2)
theorem g_astore_n {x : Xx} {d : Md} {n pc q : Nat} {L : List (Nat × Value)} {st : List Value} {M : Mm} (C : Cx x d) {L2 : List (Nat × Value)} {j : Fin 4} {i : Nat} {z : Nat} (hd : decode (dc d) pc = .ok (.astore_n j, 1)) (hq : pc + 1 = q) (hi : (j : Nat) = i) (hn : i < n) (hL : (i, .ref z) :: L.filter (fun q => !(q.1 == i) && !(q.1 + 1 == i && q.2.category == 2)) = L2) (k : Gx x n q L2 st M) : Gx x n pc L (.ref z :: st) M := by
  subst hq
  exact fun H locs ls hP hS hl => lv_astore_n C.ex C.by_ hd hi hl hn hL (fun ls2 h2 => k H locs ls2 hP hS h2)
theorem g_astore {x : Xx} {d : Md} {n pc q : Nat} {L : List (Nat × Value)} {st : List Value} {M : Mm} (C : Cx x d) {L2 : List (Nat × Value)} {i : Nat} {z : Nat} (hd : decode (dc d) pc = .ok (.astore i, 2)) (hq : pc + 2 = q) (hn : i < n) (hL : (i, .ref z) :: L.filter (fun q => !(q.1 == i) && !(q.1 + 1 == i && q.2.category == 2)) = L2) (k : Gx x n q L2 st M) : Gx x n pc L (.ref z :: st) M := by
  subst hq
  exact fun H locs ls hP hS hl => lv_astore C.ex C.by_ hd hl hn hL (fun ls2 h2 => k H locs ls2 hP hS h2)
theorem g_iinc {x : Xx} {d : Md} {n pc q : Nat} {L : List (Nat × Value)} {st : List Value} {M : Mm} (C : Cx x d) {L2 : List (Nat × Value)} {i : Nat} {z c : Int} (hd : decode (dc d) pc = .ok (.iinc i c, 3)) (hq : pc + 3 = q) (p : Nat) (hp : L[p]? = some (i, vi z)) (hn : i < n) (hL : (i, vi (z + c)) :: L.filter (fun q => !(q.1 == i) && !(q.1 + 1 == i && q.2.category == 2)) = L2) (k : Gx x n q L2 st M) : Gx x n pc L st M := by
  subst hq
  exact fun H locs ls hP hS hl => lv_iinc C.ex C.by_ hd hl hp (jI_add z c) hn hL (fun ls2 h2 => k H locs ls2 hP hS h2)
theorem g_iadd {x : Xx} {d : Md} {n pc q : Nat} {L : List (Nat × Value)} {st : List Value} {M : Mm} (C : Cx x d) {a b : Int} (hd : decode (dc d) pc = .ok (.iadd, 1)) (hq : pc + 1 = q)  (k : Gx x n q L (vi (a + b) :: st) M) : Gx x n pc L (vi b :: vi a :: st) M := by
  subst hq
  exact fun H locs ls hP hS hl => lv_iadd C.ex C.by_ hd (by rw [jI_add]; exact k H locs ls hP hS hl)
theorem g_isub {x : Xx} {d : Md} {n pc q : Nat} {L : List (Nat × Value)} {st : List Value} {M : Mm} (C : Cx x d) {a b : Int} (hd : decode (dc d) pc = .ok (.isub, 1)) (hq : pc + 1 = q)  (k : Gx x n q L (vi (a - b) :: st) M) : Gx x n pc L (vi b :: vi a :: st) M := by
  subst hq
  exact fun H locs ls hP hS hl => lv_isub C.ex C.by_ hd (by rw [jI_sub]; exact k H locs ls hP hS hl)
theorem g_imul {x : Xx} {d : Md} {n pc q : Nat} {L : List (Nat × Value)} {st : List Value} {M : Mm} (C : Cx x d) {a b : Int} (hd : decode (dc d) pc = .ok (.imul, 1)) (hq : pc + 1 = q)  (k : Gx x n q L (vi (a * b) :: st) M) : Gx x n pc L (vi b :: vi a :: st) M := by
  subst hq
  exact fun H locs ls hP hS hl => lv_imul C.ex C.by_ hd (by rw [jI_mul]; exact k H locs ls hP hS hl)
theorem g_ladd {x : Xx} {d : Md} {n pc q : Nat} {L : List (Nat × Value)} {st : List Value} {M : Mm} (C : Cx x d) {a b : Int} (hd : decode (dc d) pc = .ok (.ladd, 1)) (hq : pc + 1 = q)  (k : Gx x n q L (vl (a + b) :: st) M) : Gx x n pc L (vl b :: vl a :: st) M := by
  subst hq
  exact fun H locs ls hP hS hl => lv_ladd C.ex C.by_ hd (by rw [jL_add]; exact k H locs ls hP hS hl)
theorem g_lsub {x : Xx} {d : Md} {n pc q : Nat} {L : List (Nat × Value)} {st : List Value} {M : Mm} (C : Cx x d) {a b : Int} (hd : decode (dc d) pc = .ok (.lsub, 1)) (hq : pc + 1 = q)  (k : Gx x n q L (vl (a - b) :: st) M) : Gx x n pc L (vl b :: vl a :: st) M := by
  subst hq
  exact fun H locs ls hP hS hl => lv_lsub C.ex C.by_ hd (by rw [jL_sub]; exact k H locs ls hP hS hl)
theorem g_lmul {x : Xx} {d : Md} {n pc q : Nat} {L : List (Nat × Value)} {st : List Value} {M : Mm} (C : Cx x d) {a b : Int} (hd : decode (dc d) pc = .ok (.lmul, 1)) (hq : pc + 1 = q)  (k : Gx x n q L (vl (a * b) :: st) M) : Gx x n pc L (vl b :: vl a :: st) M := by
  subst hq
  exact fun H locs ls hP hS hl => lv_lmul C.ex C.by_ hd (by rw [jL_mul]; exact k H locs ls hP hS hl)
theorem g_ineg {x : Xx} {d : Md} {n pc q : Nat} {L : List (Nat × Value)} {st : List Value} {M : Mm} (C : Cx x d) {a : Int} (hd : decode (dc d) pc = .ok (.ineg, 1)) (hq : pc + 1 = q)  (k : Gx x n q L (vi (-a) :: st) M) : Gx x n pc L (vi a :: st) M := by
  subst hq
  exact fun H locs ls hP hS hl => lv_ineg C.ex C.by_ hd (by rw [jI_neg]; exact k H locs ls hP hS hl)
theorem g_irem {x : Xx} {d : Md} {n pc q : Nat} {L : List (Nat × Value)} {st : List Value} {M : Mm} (C : Cx x d) {a b : Int} (hd : decode (dc d) pc = .ok (.irem, 1)) (hq : pc + 1 = q) (hr : (0 ≤ a ∧ a < 2147483648) ∧ (0 < b ∧ b < 2147483648)) (k : Gx x n q L (vi (a % b) :: st) M) : Gx x n pc L (vi b :: vi a :: st) M := by
  subst hq
  exact fun H locs ls hP hS hl => lv_irem C.ex C.by_ hd (by rw [jI_0, jI_eq ⟨⟨by omega, by omega⟩, ⟨by omega, by omega⟩⟩]; omega) (by rw [jI_rem hr.1 hr.2]; exact k H locs ls hP hS hl)
theorem g_idiv {x : Xx} {d : Md} {n pc q : Nat} {L : List (Nat × Value)} {st : List Value} {M : Mm} (C : Cx x d) {a b : Int} (hd : decode (dc d) pc = .ok (.idiv, 1)) (hq : pc + 1 = q) (hr : (0 ≤ a ∧ a < 2147483648) ∧ (0 < b ∧ b < 2147483648)) (k : Gx x n q L (vi (a / b) :: st) M) : Gx x n pc L (vi b :: vi a :: st) M := by
  subst hq
  exact fun H locs ls hP hS hl => lv_idiv C.ex C.by_ hd (by rw [jI_0, jI_eq ⟨⟨by omega, by omega⟩, ⟨by omega, by omega⟩⟩]; omega) (by rw [jI_div hr.1 hr.2]; exact k H locs ls hP hS hl)
theorem g_lrem {x : Xx} {d : Md} {n pc q : Nat} {L : List (Nat × Value)} {st : List Value} {M : Mm} (C : Cx x d) {a b : Int} (hd : decode (dc d) pc = .ok (.lrem, 1)) (hq : pc + 1 = q) (hr : (0 ≤ a ∧ a < 9223372036854775808) ∧ (0 < b ∧ b < 9223372036854775808)) (k : Gx x n q L (vl (a % b) :: st) M) : Gx x n pc L (vl b :: vl a :: st) M := by
  subst hq
  exact fun H locs ls hP hS hl => lv_lrem C.ex C.by_ hd (jL_ne0 hr.2) (by rw [jL_rem hr.1 hr.2]; exact k H locs ls hP hS hl)
theorem g_i2l {x : Xx} {d : Md} {n pc q : Nat} {L : List (Nat × Value)} {st : List Value} {M : Mm} (C : Cx x d) {a : Int} (hd : decode (dc d) pc = .ok (.i2l, 1)) (hq : pc + 1 = q) (hr : inR a) (k : Gx x n q L (vl a :: st) M) : Gx x n pc L (vi a :: st) M := by
  subst hq
  exact fun H locs ls hP hS hl => lv_i2l C.ex C.by_ hd (jI_i2l hr) (k H locs ls hP hS hl)
theorem g_l2i {x : Xx} {d : Md} {n pc q : Nat} {L : List (Nat × Value)} {st : List Value} {M : Mm} (C : Cx x d) {a : Int} (hd : decode (dc d) pc = .ok (.l2i, 1)) (hq : pc + 1 = q)  (k : Gx x n q L (vi a :: st) M) : Gx x n pc L (vl a :: st) M := by
  subst hq
  exact fun H locs ls hP hS hl => lv_l2i C.ex C.by_ hd (jL_l2i a) (k H locs ls hP hS hl)
theorem g_iand {x : Xx} {d : Md} {n pc q : Nat} {L : List (Nat × Value)} {st : List Value} {M : Mm} (C : Cx x d) {a b p : Int} (hd : decode (dc d) pc = .ok (.iand, 1)) (hq : pc + 1 = q) (w : Nat) (hb : b = 2 ^ w - 1 ∧ w ≤ 30) (hp : p = 2 ^ w) (k : Gx x n q L (vi (a % p) :: st) M) : Gx x n pc L (vi b :: vi a :: st) M := by
  subst hq
  exact fun H locs ls hP hS hl => lv_iand C.ex C.by_ hd (by rw [jI_and w hb hp]; exact k H locs ls hP hS hl)
theorem g_ior {x : Xx} {d : Md} {n pc q : Nat} {L : List (Nat × Value)} {st : List Value} {M : Mm} (C : Cx x d) {a b : Int} (hd : decode (dc d) pc = .ok (.ior, 1)) (hq : pc + 1 = q) (hr : 0 ≤ a ∧ 0 ≤ b) (k : Gx x n q L (vi ((a.toNat ||| b.toNat : Nat) : Int) :: st) M) : Gx x n pc L (vi b :: vi a :: st) M := by
  subst hq
  exact fun H locs ls hP hS hl => lv_ior C.ex C.by_ hd (by rw [jI_or hr]; exact k H locs ls hP hS hl)
theorem g_ishl {x : Xx} {d : Md} {n pc q : Nat} {L : List (Nat × Value)} {st : List Value} {M : Mm} (C : Cx x d) {b : Int} (hd : decode (dc d) pc = .ok (.ishl, 1)) (hq : pc + 1 = q) (hr : 0 ≤ b ∧ b < 31) (k : Gx x n q L (vi (2 ^ b.toNat) :: st) M) : Gx x n pc L (vi b :: vi 1 :: st) M := by
  subst hq
  exact fun H locs ls hP hS hl => lv_ishl C.ex C.by_ hd (by rw [jI_shl hr]; exact k H locs ls hP hS hl)
theorem g_ishr {x : Xx} {d : Md} {n pc q : Nat} {L : List (Nat × Value)} {st : List Value} {M : Mm} (C : Cx x d) {a b : Int} (hd : decode (dc d) pc = .ok (.ishr, 1)) (hq : pc + 1 = q) (hr : (0 ≤ a ∧ a < 2147483648) ∧ (0 ≤ b ∧ b < 31)) (k : Gx x n q L (vi (a / 2 ^ b.toNat) :: st) M) : Gx x n pc L (vi b :: vi a :: st) M := by
  subst hq
  exact fun H locs ls hP hS hl => lv_ishr C.ex C.by_ hd (by rw [jI_shr hr.1 hr.2]; exact k H locs ls hP hS hl)
theorem g_dup {x : Xx} {d : Md} {n pc q : Nat} {L : List (Nat × Value)} {st : List Value} {M : Mm} (C : Cx x d) {v : Value} (hd : decode (dc d) pc = .ok (.dup, 1)) (hq : pc + 1 = q) (hv : v.category = 1) (k : Gx x n q L (v :: v :: st) M) : Gx x n pc L (v :: st) M := by
  subst hq
  exact fun H locs ls hP hS hl => lv_dup C.ex C.by_ hd hv (k H locs ls hP hS hl)
theorem g_pop {x : Xx} {d : Md} {n pc q : Nat} {L : List (Nat × Value)} {st : List Value} {M : Mm} (C : Cx x d) {v : Value} (hd : decode (dc d) pc = .ok (.pop, 1)) (hq : pc + 1 = q) (hv : v.category = 1) (k : Gx x n q L (st) M) : Gx x n pc L (v :: st) M := by
  subst hq
  exact fun H locs ls hP hS hl => lv_pop C.ex C.by_ hd hv (k H locs ls hP hS hl)
theorem g_dup2 {x : Xx} {d : Md} {n pc q : Nat} {L : List (Nat × Value)} {st : List Value} {M : Mm} (C : Cx x d) {v w : Value} (hd : decode (dc d) pc = .ok (.dup2, 1)) (hq : pc + 1 = q) (hv : v.category = 1) (hw : w.category = 1) (k : Gx x n q L (v :: w :: v :: w :: st) M) : Gx x n pc L (v :: w :: st) M := by
  subst hq
  exact fun H locs ls hP hS hl => lv_dup2_11 C.ex C.by_ hd hv hw (k H locs ls hP hS hl)
theorem g_icmp_eq {x : Xx} {d : Md} {n pc q : Nat} {L : List (Nat × Value)} {st : List Value} {M : Mm} (C : Cx x d) {a b : Int} {off : Int} {t : Nat} (hd : decode (dc d) pc = .ok (.if_icmp .eq off, 3)) (hq : pc + 3 = q) (ht : (pc : Int) + off = (t : Int)) (hr : inR a ∧ inR b) (kt : a = b → Gx x n t L st M) (kf : ¬ (a = b) → Gx x n q L st M) : Gx x n pc L (vi b :: vi a :: st) M := by
  subst hq
  have e := jI_eq hr
  exact fun H locs ls hP hS hl => lv_icmp_eq C.ex C.by_ hd ht (fun h => kt (e.mp h) H locs ls hP hS hl) (fun h => kf (fun z => h (e.mpr z)) H locs ls hP hS hl)
theorem g_if_eq {x : Xx} {d : Md} {n pc q : Nat} {L : List (Nat × Value)} {st : List Value} {M : Mm} (C : Cx x d) {a : Int} {off : Int} {t : Nat} (hd : decode (dc d) pc = .ok (.ifCond .eq off, 3)) (hq : pc + 3 = q) (ht : (pc : Int) + off = (t : Int)) (hr0 : inR a) (kt : a = 0 → Gx x n t L st M) (kf : ¬ (a = 0) → Gx x n q L st M) : Gx x n pc L (vi a :: st) M := by
  subst hq
  have hr : inR a ∧ inR 0 := ⟨hr0, by decide⟩
  have e := jI_eq hr
  exact fun H locs ls hP hS hl => lv_if_eq C.ex C.by_ hd ht (fun h => kt (e.mp h) H locs ls hP hS hl) (fun h => kf (fun z => h (e.mpr z)) H locs ls hP hS hl)
theorem g_icmp_ne {x : Xx} {d : Md} {n pc q : Nat} {L : List (Nat × Value)} {st : List Value} {M : Mm} (C : Cx x d) {a b : Int} {off : Int} {t : Nat} (hd : decode (dc d) pc = .ok (.if_icmp .ne off, 3)) (hq : pc + 3 = q) (ht : (pc : Int) + off = (t : Int)) (hr : inR a ∧ inR b) (kt : ¬ (a = b) → Gx x n t L st M) (kf : a = b → Gx x n q L st M) : Gx x n pc L (vi b :: vi a :: st) M := by
  subst hq
  have e := jI_eq hr
  exact fun H locs ls hP hS hl => lv_icmp_ne C.ex C.by_ hd ht (fun h => kt (fun z => h (e.mpr z)) H locs ls hP hS hl) (fun h => kf (e.mp h) H locs ls hP hS hl)
theorem g_if_ne {x : Xx} {d : Md} {n pc q : Nat} {L : List (Nat × Value)} {st : List Value} {M : Mm} (C : Cx x d) {a : Int} {off : Int} {t : Nat} (hd : decode (dc d) pc = .ok (.ifCond .ne off, 3)) (hq : pc + 3 = q) (ht : (pc : Int) + off = (t : Int)) (hr0 : inR a) (kt : ¬ (a = 0) → Gx x n t L st M) (kf : a = 0 → Gx x n q L st M) : Gx x n pc L (vi a :: st) M := by
  subst hq
  have hr : inR a ∧ inR 0 := ⟨hr0, by decide⟩
  have e := jI_eq hr
  exact fun H locs ls hP hS hl => lv_if_ne C.ex C.by_ hd ht (fun h => kt (fun z => h (e.mpr z)) H locs ls hP hS hl) (fun h => kf (e.mp h) H locs ls hP hS hl)
theorem g_icmp_lt {x : Xx} {d : Md} {n pc q : Nat} {L : List (Nat × Value)} {st : List Value} {M : Mm} (C : Cx x d) {a b : Int} {off : Int} {t : Nat} (hd : decode (dc d) pc = .ok (.if_icmp .lt off, 3)) (hq : pc + 3 = q) (ht : (pc : Int) + off = (t : Int)) (hr : inR a ∧ inR b) (kt : a < b → Gx x n t L st M) (kf : ¬ (a < b) → Gx x n q L st M) : Gx x n pc L (vi b :: vi a :: st) M := by
  subst hq
  have e := jI_lt hr
  exact fun H locs ls hP hS hl => lv_icmp_lt C.ex C.by_ hd ht (fun h => kt (e.mp h) H locs ls hP hS hl) (fun h => kf (fun z => h (e.mpr z)) H locs ls hP hS hl)
theorem g_if_lt {x : Xx} {d : Md} {n pc q : Nat} {L : List (Nat × Value)} {st : List Value} {M : Mm} (C : Cx x d) {a : Int} {off : Int} {t : Nat} (hd : decode (dc d) pc = .ok (.ifCond .lt off, 3)) (hq : pc + 3 = q) (ht : (pc : Int) + off = (t : Int)) (hr0 : inR a) (kt : a < 0 → Gx x n t L st M) (kf : ¬ (a < 0) → Gx x n q L st M) : Gx x n pc L (vi a :: st) M := by
  subst hq
  have hr : inR a ∧ inR 0 := ⟨hr0, by decide⟩
  have e := jI_lt hr
  exact fun H locs ls hP hS hl => lv_if_lt C.ex C.by_ hd ht (fun h => kt (e.mp h) H locs ls hP hS hl) (fun h => kf (fun z => h (e.mpr z)) H locs ls hP hS hl)
theorem g_icmp_ge {x : Xx} {d : Md} {n pc q : Nat} {L : List (Nat × Value)} {st : List Value} {M : Mm} (C : Cx x d) {a b : Int} {off : Int} {t : Nat} (hd : decode (dc d) pc = .ok (.if_icmp .ge off, 3)) (hq : pc + 3 = q) (ht : (pc : Int) + off = (t : Int)) (hr : inR a ∧ inR b) (kt : b ≤ a → Gx x n t L st M) (kf : ¬ (b ≤ a) → Gx x n q L st M) : Gx x n pc L (vi b :: vi a :: st) M := by
  subst hq
  have e := jI_le ⟨hr.2, hr.1⟩
  exact fun H locs ls hP hS hl => lv_icmp_ge C.ex C.by_ hd ht (fun h => kt (e.mp h) H locs ls hP hS hl) (fun h => kf (fun z => h (e.mpr z)) H locs ls hP hS hl)
theorem g_if_ge {x : Xx} {d : Md} {n pc q : Nat} {L : List (Nat × Value)} {st : List Value} {M : Mm} (C : Cx x d) {a : Int} {off : Int} {t : Nat} (hd : decode (dc d) pc = .ok (.ifCond .ge off, 3)) (hq : pc + 3 = q) (ht : (pc : Int) + off = (t : Int)) (hr0 : inR a) (kt : 0 ≤ a → Gx x n t L st M) (kf : ¬ (0 ≤ a) → Gx x n q L st M) : Gx x n pc L (vi a :: st) M := by
  subst hq
  have hr : inR a ∧ inR 0 := ⟨hr0, by decide⟩
  have e := jI_le ⟨hr.2, hr.1⟩
  exact fun H locs ls hP hS hl => lv_if_ge C.ex C.by_ hd ht (fun h => kt (e.mp h) H locs ls hP hS hl) (fun h => kf (fun z => h (e.mpr z)) H locs ls hP hS hl)
theorem g_icmp_gt {x : Xx} {d : Md} {n pc q : Nat} {L : List (Nat × Value)} {st : List Value} {M : Mm} (C : Cx x d) {a b : Int} {off : Int} {t : Nat} (hd : decode (dc d) pc = .ok (.if_icmp .gt off, 3)) (hq : pc + 3 = q) (ht : (pc : Int) + off = (t : Int)) (hr : inR a ∧ inR b) (kt : b < a → Gx x n t L st M) (kf : ¬ (b < a) → Gx x n q L st M) : Gx x n pc L (vi b :: vi a :: st) M := by
  subst hq
  have e := jI_lt ⟨hr.2, hr.1⟩
  exact fun H locs ls hP hS hl => lv_icmp_gt C.ex C.by_ hd ht (fun h => kt (e.mp h) H locs ls hP hS hl) (fun h => kf (fun z => h (e.mpr z)) H locs ls hP hS hl)
theorem g_if_gt {x : Xx} {d : Md} {n pc q : Nat} {L : List (Nat × Value)} {st : List Value} {M : Mm} (C : Cx x d) {a : Int} {off : Int} {t : Nat} (hd : decode (dc d) pc = .ok (.ifCond .gt off, 3)) (hq : pc + 3 = q) (ht : (pc : Int) + off = (t : Int)) (hr0 : inR a) (kt : 0 < a → Gx x n t L st M) (kf : ¬ (0 < a) → Gx x n q L st M) : Gx x n pc L (vi a :: st) M := by
  subst hq
  have hr : inR a ∧ inR 0 := ⟨hr0, by decide⟩
  have e := jI_lt ⟨hr.2, hr.1⟩
  exact fun H locs ls hP hS hl => lv_if_gt C.ex C.by_ hd ht (fun h => kt (e.mp h) H locs ls hP hS hl) (fun h => kf (fun z => h (e.mpr z)) H locs ls hP hS hl)
theorem g_icmp_le {x : Xx} {d : Md} {n pc q : Nat} {L : List (Nat × Value)} {st : List Value} {M : Mm} (C : Cx x d) {a b : Int} {off : Int} {t : Nat} (hd : decode (dc d) pc = .ok (.if_icmp .le off, 3)) (hq : pc + 3 = q) (ht : (pc : Int) + off = (t : Int)) (hr : inR a ∧ inR b) (kt : a ≤ b → Gx x n t L st M) (kf : ¬ (a ≤ b) → Gx x n q L st M) : Gx x n pc L (vi b :: vi a :: st) M := by
  subst hq
  have e := jI_le hr
  exact fun H locs ls hP hS hl => lv_icmp_le C.ex C.by_ hd ht (fun h => kt (e.mp h) H locs ls hP hS hl) (fun h => kf (fun z => h (e.mpr z)) H locs ls hP hS hl)
theorem g_if_le {x : Xx} {d : Md} {n pc q : Nat} {L : List (Nat × Value)} {st : List Value} {M : Mm} (C : Cx x d) {a : Int} {off : Int} {t : Nat} (hd : decode (dc d) pc = .ok (.ifCond .le off, 3)) (hq : pc + 3 = q) (ht : (pc : Int) + off = (t : Int)) (hr0 : inR a) (kt : a ≤ 0 → Gx x n t L st M) (kf : ¬ (a ≤ 0) → Gx x n q L st M) : Gx x n pc L (vi a :: st) M := by
  subst hq
  have hr : inR a ∧ inR 0 := ⟨hr0, by decide⟩
  have e := jI_le hr
  exact fun H locs ls hP hS hl => lv_if_le C.ex C.by_ hd ht (fun h => kt (e.mp h) H locs ls hP hS hl) (fun h => kf (fun z => h (e.mpr z)) H locs ls hP hS hl)
theorem g_goto {x : Xx} {d : Md} {n pc : Nat} {L : List (Nat × Value)} {st : List Value} {M : Mm} (C : Cx x d) {off : Int} {t : Nat} (hd : decode (dc d) pc = .ok (.goto off, 3)) (ht : (pc : Int) + off = (t : Int)) (k : Gx x n t L st M) : Gx x n pc L st M := fun H locs ls hP hS hl => lv_goto C.ex C.by_ hd ht (k H locs ls hP hS hl)
theorem g_tabIn {x : Xx} {d : Md} {n pc : Nat} {L : List (Nat × Value)} {st : List Value} {M : Mm} (C : Cx x d) {a : Int} {dflt lo hi : Int} {offs : Array Int} {len t : Nat} {off : Int} (hd : decode (dc d) pc = .ok (.tableswitch dflt lo hi offs, len)) (hr : inR a) (h1 : lo ≤ a ∧ a ≤ hi) (ho : offs[(a - lo).toNat]? = some off) (ht : (pc : Int) + off = (t : Int)) (k : Gx x n t L st M) : Gx x n pc L (vi a :: st) M := fun H locs ls hP hS hl => lv_tableIn C.ex C.by_ hd (by rw [jI_int hr]; omega) (by rw [jI_int hr]; omega) (by rw [jI_int hr]; exact ho) ht (k H locs ls hP hS hl)
theorem g_tabOut {x : Xx} {d : Md} {n pc : Nat} {L : List (Nat × Value)} {st : List Value} {M : Mm} (C : Cx x d) {a : Int} {dflt lo hi : Int} {offs : Array Int} {len t : Nat} (hd : decode (dc d) pc = .ok (.tableswitch dflt lo hi offs, len)) (hr : inR a) (h1 : a < lo ∨ hi < a) (ht : (pc : Int) + dflt = (t : Int)) (k : Gx x n t L st M) : Gx x n pc L (vi a :: st) M := fun H locs ls hP hS hl => lv_tableOut C.ex C.by_ hd (by rw [jI_int hr]; exact h1) ht (k H locs ls hP hS hl)
theorem g_get {x : Xx} {d : Md} {n pc q : Nat} {L : List (Nat × Value)} {st : List Value} {M : Mm} (C : Cx x d) {k0 : Nat} (hk : k0 < 119) {ci i idx N : Nat} {fs : List Value} {R0 : String} {T0 : u_T} {v : Value} (hc : celr (xg x) k0 (M k0) = .inr (ci, fs)) (hv : vwCl[ci]? = some (R0, T0, N)) (hin : ∀ w ∈ u_ws R0 T0 N, w ∈ wsL_law) (hi : i < N) (hw : Cond.fieldLink (dy d).cls idx (T0 i).1 (T0 i).2.1 (T0 i).2.2.1 ∈ wsL_law) (hf : fs[i]? = some v) (hd : decode (dc d) pc = .ok (.getfield idx, 3)) (hq : pc + 3 = q) (k : Gx x n q L (v :: st) M) : Gx x n pc L (vr (xg x) k0 :: st) M := by
  subst hq
  exact fun H locs ls hP hS hl => va_get (D := gD (xg x)) (ci := ci) (v := v) C.ex C.by_ C.ts hin C.ow C.kk hP k0 (by rw [ww_at hk, hc]) hv i hi (C.ts _ hw) (fun _ h9 => h9) hf hd (k H locs ls hP hS hl)
theorem g_getN {x : Xx} {d : Md} {n pc q : Nat} {L : List (Nat × Value)} {st : List Value} {M : Mm} (C : Cx x d) {k0 : Nat} (hk : k0 < 119) {ci i idx N : Nat} {fs : List Value} {R0 : String} {T0 : u_T} {v : Value} (hc : celr (xg x) k0 (M k0) = .inr (ci, fs)) (hv : vwCl[ci]? = some (R0, T0, N)) (hin : ∀ w ∈ u_ws R0 T0 N, w ∈ wsL_law) (hi : i < N) (hw : ((dy d).cls, idx, (T0 i).1, (T0 i).2.1, (T0 i).2.2.1) ∈ nT) (hf : fs[i]? = some v) (hd : decode (dc d) pc = .ok (.getfield idx, 3)) (hq : pc + 3 = q) (k : Gx x n q L (v :: st) M) : Gx x n pc L (vr (xg x) k0 :: st) M := by
  subst hq
  exact fun H locs ls hP hS hl => va_getN (D := gD (xg x)) (ci := ci) (v := v) (host := "NearFigures") C.ex C.by_ C.ts hin C.ow C.kk hP k0 (by rw [ww_at hk, hc]) hv i hi (va_Nw.use rfl (C.ns _ hw)) (fun _ h9 => h9) hf hd (k H locs ls hP hS hl)
theorem g_put {x : Xx} {d : Md} {n pc q : Nat} {L : List (Nat × Value)} {st : List Value} {M : Mm} (C : Cx x d) {k0 : Nat} (hk : k0 < 119) {ci i idx N : Nat} {fs : List Value} {R0 : String} {T0 : u_T} {z : Int} {ty0 : Nat → FieldType} {ty : FieldType} (hc : celr (xg x) k0 (M k0) = .inr (ci, fs)) (hv : vwCl[ci]? = some (R0, T0, N)) (hin : ∀ w ∈ u_ws R0 T0 N, w ∈ wsL_law) (hty : ∀ k, k < N → parseFieldDescriptor (T0 k).2.2.1 = some (ty0 k)) (hnm : ∀ a, a < N → ∀ b, b < N → a ≠ b → (T0 a).2.1 ≠ (T0 b).2.1) (hi : i < N) (hw : Cond.fieldLink (dy d).cls idx (T0 i).1 (T0 i).2.1 (T0 i).2.2.1 ∈ wsL_law) (hfin : (T0 i).2.2.2 = false) (htd : parseFieldDescriptor (T0 i).2.2.1 = some ty) (hn : narrow ty (vi z) = vi z) (hfit : fits ty (vi z) = true) (hlen : i < fs.length) (he : (.inr (ci, fs.set i (vi z)) : va_E) = celr (xg x) k0 (fun b => if b = (i : Int) then z else M k0 b)) (hd : decode (dc d) pc = .ok (.putfield idx, 3)) (hq : pc + 3 = q) (k : Gx x n q L st (mu M k0 (i : Int) z)) : Gx x n pc L (vi z :: vr (xg x) k0 :: st) M := by
  subst hq
  exact fun H locs ls hP hS hl => va_put (D := gD (xg x)) (ci := ci) (v := vi z) (ty := ty) C.ex C.by_ C.ts hin ty0 hty hnm C.ow C.kk hP (ww_D C.dd M) hS k0 (by rw [ww_at hk, hc]) hv i hi (C.ts _ hw) (fun _ h9 => h9) hfin htd hn hfit hlen hd (fun H1 locs1 hP1 _ hS1 => k H1 locs1 ls (by rw [ww_set he, mset_mu] at hP1; exact hP1) hS1 hl)
theorem g_putN {x : Xx} {d : Md} {n pc q : Nat} {L : List (Nat × Value)} {st : List Value} {M : Mm} (C : Cx x d) {k0 : Nat} (hk : k0 < 119) {ci i idx N : Nat} {fs : List Value} {R0 : String} {T0 : u_T} {z : Int} {ty0 : Nat → FieldType} {ty : FieldType} (hc : celr (xg x) k0 (M k0) = .inr (ci, fs)) (hv : vwCl[ci]? = some (R0, T0, N)) (hin : ∀ w ∈ u_ws R0 T0 N, w ∈ wsL_law) (hty : ∀ k, k < N → parseFieldDescriptor (T0 k).2.2.1 = some (ty0 k)) (hnm : ∀ a, a < N → ∀ b, b < N → a ≠ b → (T0 a).2.1 ≠ (T0 b).2.1) (hi : i < N) (hw : ((dy d).cls, idx, (T0 i).1, (T0 i).2.1, (T0 i).2.2.1) ∈ nT) (hfin : (T0 i).2.2.2 = false) (htd : parseFieldDescriptor (T0 i).2.2.1 = some ty) (hn : narrow ty (vi z) = vi z) (hfit : fits ty (vi z) = true) (hlen : i < fs.length) (he : (.inr (ci, fs.set i (vi z)) : va_E) = celr (xg x) k0 (fun b => if b = (i : Int) then z else M k0 b)) (hd : decode (dc d) pc = .ok (.putfield idx, 3)) (hq : pc + 3 = q) (k : Gx x n q L st (mu M k0 (i : Int) z)) : Gx x n pc L (vi z :: vr (xg x) k0 :: st) M := by
  subst hq
  exact fun H locs ls hP hS hl => va_putN (host := "NearFigures") (D := gD (xg x)) (ci := ci) (v := vi z) (ty := ty) C.ex C.by_ C.ts hin ty0 hty hnm C.ow C.kk hP (ww_D C.dd M) hS k0 (by rw [ww_at hk, hc]) hv i hi (va_Nw.use rfl (C.ns _ hw)) (fun _ h9 => h9) hfin htd hn hfit hlen hd (fun H1 locs1 hP1 _ hS1 => k H1 locs1 ls (by rw [ww_set he, mset_mu] at hP1; exact hP1) hS1 hl)
theorem g_iald {x : Xx} {d : Md} {n pc q : Nat} {L : List (Nat × Value)} {st : List Value} {M : Mm} (C : Cx x d) {k0 m : Nat} {i : Int} (hk : k0 < 119) (hkd : kd k0 = 7) (hln : ln k0 = m) (hi : 0 ≤ i ∧ i < (m : Int)) (hm : m < 2147483648) (hd : decode (dc d) pc = .ok (.iaload, 1)) (hq : pc + 1 = q) (k : Gx x n q L (vi (M k0 i) :: st) M) : Gx x n pc L (vi i :: vr (xg x) k0 :: st) M := by
  subst hq
  subst hln
  exact fun H locs ls hP hS hl => va_iald C.ex C.by_ C.kk hP k0 k0 (ww_7 hk hkd) (tys_7 hk hkd) (jI_in hi hm) hd (by rw [jI_tn hi hm, Int.toNat_of_nonneg hi.1]; exact k H locs ls hP hS hl)
theorem g_zald {x : Xx} {d : Md} {n pc q : Nat} {L : List (Nat × Value)} {st : List Value} {M : Mm} (C : Cx x d) {k0 m : Nat} {i : Int} (hk : k0 < 119) (hkd : kd k0 = 9) (hln : ln k0 = m) (hi : 0 ≤ i ∧ i < (m : Int)) (hm : m < 2147483648) (hd : decode (dc d) pc = .ok (.baload, 1)) (hq : pc + 1 = q) (k : Gx x n q L (vi (M k0 i) :: st) M) : Gx x n pc L (vi i :: vr (xg x) k0 :: st) M := by
  subst hq
  subst hln
  exact fun H locs ls hP hS hl => va_zald C.ex C.by_ C.kk hP k0 k0 (ww_9 hk hkd) (tys_9 hk hkd) (jI_in hi hm) hd (by rw [jI_tn hi hm, Int.toNat_of_nonneg hi.1]; exact k H locs ls hP hS hl)
theorem g_lald {x : Xx} {d : Md} {n pc q : Nat} {L : List (Nat × Value)} {st : List Value} {M : Mm} (C : Cx x d) {k0 m : Nat} {i : Int} (hk : k0 < 119) (hkd : kd k0 = 8) (hln : ln k0 = m) (hi : 0 ≤ i ∧ i < (m : Int)) (hm : m < 2147483648) (hd : decode (dc d) pc = .ok (.laload, 1)) (hq : pc + 1 = q) (k : Gx x n q L (vl (M k0 i) :: st) M) : Gx x n pc L (vi i :: vr (xg x) k0 :: st) M := by
  subst hq
  subst hln
  exact fun H locs ls hP hS hl => va_lald C.ex C.by_ C.kk hP k0 k0 (ww_8 hk hkd) (tys_8 hk hkd) (jI_in hi hm) hd (by rw [jI_tn hi hm, Int.toNat_of_nonneg hi.1]; exact k H locs ls hP hS hl)
theorem g_sald {x : Xx} {d : Md} {n pc q : Nat} {L : List (Nat × Value)} {st : List Value} {M : Mm} (C : Cx x d) {k0 m r : Nat} {i : Int} (hk : k0 < 119) (hkd : kd k0 = 10) (hln : ln k0 = m) (hi : 0 ≤ i ∧ i < (m : Int)) (hm : m < 2147483648) (hr : rfa k0 i.toNat = r) (hd : decode (dc d) pc = .ok (.aaload, 1)) (hq : pc + 1 = q) (k : Gx x n q L (vr (xg x) r :: st) M) : Gx x n pc L (vi i :: vr (xg x) k0 :: st) M := by
  subst hq
  subst hln
  subst hr
  exact fun H locs ls hP hS hl => va_aldq (C := "NearFigures$Setting") C.ex C.by_ C.kk hP k0 k0 (ww_10 hk hkd) (tys_10 hk hkd) (jI_in hi hm) hd (by rw [jI_tn hi hm]; exact k H locs ls hP hS hl)
theorem g_aald {x : Xx} {d : Md} {n pc q : Nat} {L : List (Nat × Value)} {st : List Value} {M : Mm} (C : Cx x d) {k0 m r : Nat} {i : Int} (hk : k0 < 119) (hkd : kd k0 = 11) (hln : ln k0 = m) (hi : 0 ≤ i ∧ i < (m : Int)) (hm : m < 2147483648) (hr : rfa k0 i.toNat = r) (hd : decode (dc d) pc = .ok (.aaload, 1)) (hq : pc + 1 = q) (k : Gx x n q L (vr (xg x) r :: st) M) : Gx x n pc L (vi i :: vr (xg x) k0 :: st) M := by
  subst hq
  subst hln
  subst hr
  exact fun H locs ls hP hS hl => vm_aald C.ex C.by_ C.kk hP k0 k0 (ww_11 hk hkd) (tys_11 hk hkd) (jI_in hi hm) hd (by rw [jI_tn hi hm]; exact k H locs ls hP hS hl)
theorem g_iast {x : Xx} {d : Md} {n pc q : Nat} {L : List (Nat × Value)} {st : List Value} {M : Mm} (C : Cx x d) {k0 m : Nat} {i z : Int} (hk : k0 < 119) (hkd : kd k0 = 7) (hln : ln k0 = m) (hi : 0 ≤ i ∧ i < (m : Int)) (hm : m < 2147483648)  (hd : decode (dc d) pc = .ok (.iastore, 1)) (hq : pc + 1 = q) (k : Gx x n q L st (mu M k0 i z)) : Gx x n pc L (vi z :: vi i :: vr (xg x) k0 :: st) M := by
  subst hq
  subst hln
  exact fun H locs ls hP hS hl => va_iast C.ex C.by_ C.kk hP (ww_D C.dd M) hS k0 k0 (ww_7 hk hkd) (tys_7 hk hkd) (jI_in hi hm) hd (fun H1 locs1 hP1 _ hS1 => k H1 locs1 ls (by rw [jI_tn hi hm, ww_set (up_7 hkd hi.1), mset_mu] at hP1; exact hP1) hS1 hl)
theorem g_zast {x : Xx} {d : Md} {n pc q : Nat} {L : List (Nat × Value)} {st : List Value} {M : Mm} (C : Cx x d) {k0 m : Nat} {i z : Int} (hk : k0 < 119) (hkd : kd k0 = 9) (hln : ln k0 = m) (hi : 0 ≤ i ∧ i < (m : Int)) (hm : m < 2147483648) (hz : z = 0 ∨ z = 1) (hd : decode (dc d) pc = .ok (.bastore, 1)) (hq : pc + 1 = q) (k : Gx x n q L st (mu M k0 i z)) : Gx x n pc L (vi z :: vi i :: vr (xg x) k0 :: st) M := by
  subst hq
  subst hln
  exact fun H locs ls hP hS hl => va_zast C.ex C.by_ C.kk hP (ww_D C.dd M) hS k0 k0 (ww_9 hk hkd) (tys_9 hk hkd) (jI_in hi hm) hd (fun H1 locs1 hP1 _ hS1 => k H1 locs1 ls (by rw [jI_tn hi hm, ww_set (up_9 hkd hz hi.1), mset_mu] at hP1; exact hP1) hS1 hl)
theorem g_last {x : Xx} {d : Md} {n pc q : Nat} {L : List (Nat × Value)} {st : List Value} {M : Mm} (C : Cx x d) {k0 m : Nat} {i z : Int} (hk : k0 < 119) (hkd : kd k0 = 8) (hln : ln k0 = m) (hi : 0 ≤ i ∧ i < (m : Int)) (hm : m < 2147483648)  (hd : decode (dc d) pc = .ok (.lastore, 1)) (hq : pc + 1 = q) (k : Gx x n q L st (mu M k0 i z)) : Gx x n pc L (vl z :: vi i :: vr (xg x) k0 :: st) M := by
  subst hq
  subst hln
  exact fun H locs ls hP hS hl => va_last C.ex C.by_ C.kk hP (ww_D C.dd M) hS k0 k0 (ww_8 hk hkd) (tys_8 hk hkd) (jI_in hi hm) hd (fun H1 locs1 hP1 _ hS1 => k H1 locs1 ls (by rw [jI_tn hi hm, ww_set (up_8 hkd hi.1), mset_mu] at hP1; exact hP1) hS1 hl)
theorem g_alen {x : Xx} {d : Md} {n pc q : Nat} {L : List (Nat × Value)} {st : List Value} {M : Mm} (C : Cx x d) {k0 m : Nat} (hk : k0 < 119) (hkd : kd k0 = 7) (hln : ln k0 = m) (hd : decode (dc d) pc = .ok (.arraylength, 1)) (hq : pc + 1 = q) (k : Gx x n q L (vi (m : Int) :: st) M) : Gx x n pc L (vr (xg x) k0 :: st) M := by
  subst hq
  subst hln
  exact fun H locs ls hP hS hl => va_alen C.ex C.by_ C.kk hP k0 k0 (ww_7 hk hkd) (tys_7 hk hkd) (by rw [jI_nat]; rfl) hd (k H locs ls hP hS hl)
theorem g_gets {x : Xx} {d : Md} {n pc q : Nat} {L : List (Nat × Value)} {st : List Value} {M : Mm} (C : Cx x d) {nm : String} {N idx : Nat} {f : Nat → Int} (hs : Sta1 (xg x) nm N f (xs x)) (hw : Cond.fieldLink (dy d).cls idx "NearFigures" nm "[I" ∈ wsL_law) (hd : decode (dc d) pc = .ok (.getstatic idx, 3)) (hq : pc + 3 = q) (k : ∀ t : Nat, va_T .int t N (fun j => vi (f j)) (gA (xg x)) (xs x) (xs x).heap → Gx x n q L (.ref t :: st) M) : Gx x n pc L st M := by
  subst hq
  obtain ⟨t, h1, h2⟩ := hs
  exact fun H locs ls hP hS hl => va_gets C.ex C.by_ h1 hS C.ow (C.ts _ hw) (fun _ h => h) hd (k t h2 H locs ls hP hS hl)
theorem g_getsN {x : Xx} {d : Md} {n pc q : Nat} {L : List (Nat × Value)} {st : List Value} {M : Mm} (C : Cx x d) {nm : String} {N idx : Nat} {f : Nat → Int} (hs : Sta1 (xg x) nm N f (xs x)) (hw : ((dy d).cls, idx, "NearFigures", nm, "[I") ∈ nT) (hd : decode (dc d) pc = .ok (.getstatic idx, 3)) (hq : pc + 3 = q) (k : ∀ t : Nat, va_T .int t N (fun j => vi (f j)) (gA (xg x)) (xs x) (xs x).heap → Gx x n q L (.ref t :: st) M) : Gx x n pc L st M := by
  subst hq
  obtain ⟨t, h1, h2⟩ := hs
  exact fun H locs ls hP hS hl => va_getsN (host := "NearFigures") C.ex C.by_ h1 hS C.ow (va_Nw.use rfl (C.ns _ hw)) (fun _ h => h) hd (k t h2 H locs ls hP hS hl)
theorem g_ti {x : Xx} {d : Md} {n pc q : Nat} {L : List (Nat × Value)} {st : List Value} {M : Mm} (C : Cx x d) {t N : Nat} {f : Nat → Int} {i : Int} (hT : va_T .int t N (fun j => vi (f j)) (gA (xg x)) (xs x) (xs x).heap) (hi : 0 ≤ i ∧ i < (N : Int)) (hm : N < 2147483648) (hd : decode (dc d) pc = .ok (.iaload, 1)) (hq : pc + 1 = q) (k : Gx x n q L (vi (f i.toNat) :: st) M) : Gx x n pc L (vi i :: .ref t :: st) M := by
  subst hq
  exact fun H locs ls hP hS hl => va_ti C.ex C.by_ hT hS (jI_in hi hm) rfl hd (by rw [jI_tn hi hm]; exact k H locs ls hP hS hl)
theorem g_mmin {x : Xx} {d : Md} {n pc q : Nat} {L : List (Nat × Value)} {st : List Value} {M : Mm} (C : Cx x d) {a b : Int} {idx : Nat} (hr : inR a ∧ inR b) (hw : Cond.methodLink (dy d).cls idx Lib.Math.min.name ∈ wsL_law) (hw2 : Cond.static Lib.Math.min.name ∈ wsL_law) (hw3 : Cond.code Lib.Math.min.name Lib.Math.min.code 2 (some .int) ∈ wsL_law) (hw4 : Cond.initialized "java/lang/Math" ∈ wsL_law) (hn : dn d = n) (hfr : 1 ≤ df d) (hlo : (st.map fun v => v.category).sum + 13 ≤ dl d) (hd : decode (dc d) pc = .ok (.invokestatic idx, 3)) (hq : pc + 3 = q) (k : Gx x n q L (vi (if b < a then b else a) :: st) M) : Gx x n pc L (vi b :: vi a :: st) M := by
  subst hq
  exact fun H locs ls hP hS hl => va_mmin C.ex C.by_ (by rw [C.ml, hn]; exact hl.1.symm) C.ow (C.ts _ hw) (C.ts _ hw2) (C.ts _ hw4) (C.ts _ hw3) (Nat.le_trans hfr C.rm.1) (Nat.le_trans hlo C.rm.2.1) C.rm.2.2.1 C.rm.2.2.2 hd (by
    have e : (if jI b < jI a then jI b else jI a) = jI (if b < a then b else a) := by
      by_cases h : b < a
      · rw [if_pos h, if_pos ((jI_lt ⟨hr.2, hr.1⟩).mpr h)]
      · rw [if_neg h, if_neg (fun z => h ((jI_lt ⟨hr.2, hr.1⟩).mp z))]
    rw [e]
    exact k H locs ls hP hS hl)
theorem g_mmax {x : Xx} {d : Md} {n pc q : Nat} {L : List (Nat × Value)} {st : List Value} {M : Mm} (C : Cx x d) {a b : Int} {idx : Nat} (hr : inR a ∧ inR b) (hw : Cond.methodLink (dy d).cls idx Lib.Math.max.name ∈ wsL_law) (hw2 : Cond.static Lib.Math.max.name ∈ wsL_law) (hw3 : Cond.code Lib.Math.max.name Lib.Math.max.code 2 (some .int) ∈ wsL_law) (hw4 : Cond.initialized "java/lang/Math" ∈ wsL_law) (hn : dn d = n) (hfr : 1 ≤ df d) (hlo : (st.map fun v => v.category).sum + 13 ≤ dl d) (hd : decode (dc d) pc = .ok (.invokestatic idx, 3)) (hq : pc + 3 = q) (k : Gx x n q L (vi (if a < b then b else a) :: st) M) : Gx x n pc L (vi b :: vi a :: st) M := by
  subst hq
  exact fun H locs ls hP hS hl => va_mmax C.ex C.by_ (by rw [C.ml, hn]; exact hl.1.symm) C.ow (C.ts _ hw) (C.ts _ hw2) (C.ts _ hw4) (C.ts _ hw3) (Nat.le_trans hfr C.rm.1) (Nat.le_trans hlo C.rm.2.1) C.rm.2.2.1 C.rm.2.2.2 hd (by
    have e : (if jI a < jI b then jI b else jI a) = jI (if a < b then b else a) := by
      by_cases h : a < b
      · rw [if_pos h, if_pos ((jI_lt hr).mpr h)]
      · rw [if_neg h, if_neg (fun z => h ((jI_lt hr).mp z))]
    rw [e]
    exact k H locs ls hP hS hl)
theorem g_mabs {x : Xx} {d : Md} {n pc q : Nat} {L : List (Nat × Value)} {st : List Value} {M : Mm} (C : Cx x d) {a : Int} {idx : Nat} (hr : inR a) (hw : Cond.methodLink (dy d).cls idx Lib.Math.abs.name ∈ wsL_law) (hw2 : Cond.static Lib.Math.abs.name ∈ wsL_law) (hw3 : Cond.code Lib.Math.abs.name Lib.Math.abs.code 1 (some .int) ∈ wsL_law) (hw4 : Cond.initialized "java/lang/Math" ∈ wsL_law) (hn : dn d = n) (hfr : 1 ≤ df d) (hlo : (st.map fun v => v.category).sum + 13 ≤ dl d) (hd : decode (dc d) pc = .ok (.invokestatic idx, 3)) (hq : pc + 3 = q) (k : Gx x n q L (vi (if 0 ≤ a then a else 0 - a) :: st) M) : Gx x n pc L (vi a :: st) M := by
  subst hq
  exact fun H locs ls hP hS hl => va_mabs C.ex C.by_ (by rw [C.ml, hn]; exact hl.1.symm) C.ow (C.ts _ hw) (C.ts _ hw2) (C.ts _ hw4) (C.ts _ hw3) (Nat.le_trans hfr C.rm.1) (Nat.le_trans hlo C.rm.2.1) C.rm.2.2.1 C.rm.2.2.2 hd (by
    have e : (if 0 ≤ jI a then jI a else 0 - jI a) = jI (if 0 ≤ a then a else 0 - a) := by
      rw [jI_0]
      by_cases h : 0 ≤ a
      · rw [if_pos h, if_pos ((jI_le ⟨by decide, hr⟩).mpr h)]
      · rw [if_neg h, if_neg (fun z => h ((jI_le ⟨by decide, hr⟩).mp z)), jI_sub]
    rw [e]
    exact k H locs ls hP hS hl)
theorem g_copy {x : Xx} {d : Md} {n pc q : Nat} {L : List (Nat × Value)} {st : List Value} {M : Mm} (C : Cx x d) {k0 k1 m0 m1 : Nat} {sp dp c : Int} {idx : Nat} (hk0 : k0 < 119) (hkd0 : kd k0 = 7) (hln0 : ln k0 = m0) (hk1 : k1 < 119) (hkd1 : kd k1 = 7) (hln1 : ln k1 = m1) (hi : 0 ≤ sp ∧ 0 ≤ dp ∧ 0 ≤ c ∧ sp + c ≤ (m0 : Int) ∧ dp + c ≤ (m1 : Int)) (hm : m0 < 2147483647 ∧ m1 < 2147483647) (hw : Cond.methodLink (dy d).cls idx arraycopyName ∈ wsL_law) (hw2 : Cond.native arraycopyName ∈ wsL_law) (hw3 : Cond.static arraycopyName ∈ wsL_law) (hw4 : Cond.initialized "java/lang/System" ∈ wsL_law) (hn : dn d = n) (hfr : 1 ≤ df d) (hlo : (st.map fun v => v.category).sum + (nativeFrameWords "java/lang/System" "arraycopy" 5 + 11) ≤ dl d) (hd : decode (dc d) pc = .ok (.invokestatic idx, 3)) (hq : pc + 3 = q) (k : Gx x n q L st (mcp M k0 sp k1 dp c)) : Gx x n pc L (vi c :: vi dp :: vr (xg x) k1 :: vi sp :: vr (xg x) k0 :: st) M := by
  subst hq
  subst hln0
  subst hln1
  have t1 : (jI sp).toNatClampNeg = sp.toNat := jI_tn (n := ln k0 + 1) ⟨hi.1, by omega⟩ (by omega)
  have t2 : (jI dp).toNatClampNeg = dp.toNat := jI_tn (n := ln k1 + 1) ⟨hi.2.1, by omega⟩ (by omega)
  have t3 : (jI c).toNatClampNeg = c.toNat := jI_tn (n := ln k0 + 1) ⟨hi.2.2.1, by omega⟩ (by omega)
  have nn : ∀ z : Int, 0 ≤ z → z < 2147483648 → ¬ jI z < 0 := fun z h1 h2 => by rw [jI_0, jI_lt ⟨⟨by omega, h2⟩, by decide⟩]; omega
  exact fun H locs ls hP hS hl => va_copyi (ty := .int) C.ex C.by_ (by rw [C.ml, hn]; exact hl.1.symm) C.ow (C.ts _ hw) (C.ts _ hw2) (C.ts _ hw3) (C.ts _ hw4) C.kk hP (ww_D C.dd M) hS k0 k1 k0 k1 (ww_7 hk0 hkd0) (ww_7 hk1 hkd1) (tys_7 hk0 hkd0) (tys_7 hk1 hkd1) rfl (nn _ hi.1 (by omega)) (nn _ hi.2.1 (by omega)) (nn _ hi.2.2.1 (by omega)) (by rw [t1, t3]; omega) (by rw [t2, t3]; omega) (fun i _ => rfl) (Nat.le_trans hfr C.rm.1) (Nat.le_trans hlo C.rm.2.1) hd (fun H1 locs1 hP1 _ hS1 => k H1 locs1 ls (by rw [t1, t2, t3, ww_set (cp_7 hkd1 hi.1 hi.2.1 hi.2.2.1)] at hP1; exact hP1) hS1 hl)
theorem wd_call {x : Xx} {d : Md} {M : Mm} {H : Heap} {locs : List Loc} (C : Cx x d) (hP : va_P (gD (xg x)) vwCl (ww (xg x) M) H) (hS : va_S (gA (xg x)) (xs x).heap H locs) : ∀ U : State, U.heap = H → (xs x).WarmedH U.vm → Wd (xg x) M U := by
  intro U hU hW
  exact ⟨C.dd, by rw [hU]; exact hP, va_K.moved hW.alike C.kk, C.st.to hW.alike (fun a h1 h2 => by rw [hU]; exact hS.2.1 a h1 h2), C.ns.warm hW⟩
theorem wd_blind {g : Gg} {M : Mm} {av : List Value} : FrameBlind (va_Pc av (fun U => Wd g M U)) := by
  intro a U f mk q
  obtain ⟨q0, qd, q1, q2, q3, q4⟩ := q
  exact ⟨q0, qd, q1, va_K.moved (u := U) (U := U.calling f mk a) (Vm.Alike.refl U.vm) q2, q3.to (U := U.calling f mk a) (Vm.Alike.refl U.vm) (fun _ _ _ => rfl), q4.same rfl⟩
theorem good_call {d2 : Md} (h : Cond.code (dy d2) (dc d2) (dn d2) (dr d2) ∈ wsL_law) : GoodIn wsL_law (Cond.code (dy d2) (dc d2) (dn d2) (dr d2) :: wsL_law) := by
  intro w hw
  rcases List.mem_cons.mp hw with e | e
  · rw [e]
    exact wq_self _ h
  · exact wq_self w e
theorem wx_call {x : Xx} {H : Heap} {locs : List Loc} {pc : Nat} {ls : Array Slot} {st0 rest : List Value} {a : Array Value} {ret : Option FieldType} {post : Int → Mm → Prop}
    (hr : va_Run (xp x) (xl x) (xe x) (xR x) (xs x) (xm x) (xa x) (xb x) (xt x) (xc x) H locs (xi x) (xj x) 0 0 (F0 (xm x) pc ls st0) rest (Qq (xg x) ret post a) (gA (xg x))) (hS : va_S (gA (xg x)) (xs x).heap H locs)
    (kk : ∀ (r : Int) (M1 : Mm) (H1 : Heap) (locs1 : List Loc), post r M1 → va_P (gD (xg x)) vwCl (ww (xg x) M1) H1 → va_S (gA (xg x)) (xs x).heap H1 locs1 → Wx x H1 locs1 (F0 (xm x) (pc + 3) ls ((rv ret r).toList ++ rest))) : Wx x H locs (F0 (xm x) pc ls st0) := by
  intro T hT X
  obtain ⟨v, st₀, t, T', L, h0, X', hL, e1, e2, ⟨⟨r, M1, hv, hp, hb⟩, hz, hk⟩, st⟩ := hr T hT X
  cases hv
  rw [h0] at hz hk
  obtain ⟨t2, a1, b1⟩ := kk r M1 T'.heap (locs ++ L) hp (by rw [e1]; exact hb)
    ⟨Nat.le_trans hS.1 (by rw [e1]; exact hz), fun q h1 h2 => by rw [e1, hk q (Nat.lt_of_lt_of_le h1 hS.1) h2]; exact hS.2.1 q h1 h2, fun q hq => by
      rcases List.mem_append.mp hq with h | h
      · exact hS.2.2 q h
      · exact hL q h⟩ T' rfl X'
  exact ⟨t2, st t2 a1, b1⟩
theorem g_callV {x : Xx} {d : Md} {n pc q : Nat} {L : List (Nat × Value)} {st st0 : List Value} {M : Mm} (C : Cx x d) (d2 : Md) {k0 ci idx na N : Nat} {T0 : u_T} {fs : List Value} {As : List Value} {post : Int → Mm → Prop} (hk : k0 < 119) (hc : celr (xg x) k0 (M k0) = .inr (ci, fs)) (hv : vwCl[ci]? = some ((dy d2).cls, T0, N)) (hM : Ct (xl x) (xg x) d2 (vr (xg x) k0 :: As) M post)
    (hw : Cond.methodLink (dy d).cls idx (dy d2) ∈ wsL_law) (hw1 : Cond.instanceMethod (dy d2) ∈ wsL_law) (hw2 : Cond.selects (dy d2).cls (dy d2) (dy d2) ∈ wsL_law) (hw3 : Cond.initialized (dy d2).cls ∈ wsL_law) (hw4 : Cond.code (dy d2) (dc d2) (dn d2) (dr d2) ∈ wsL_law)
    (hdd : (dy d2).cls ≠ "java/lang/invoke/MethodHandle" ∧ (dy d2).cls ≠ "java/lang/invoke/VarHandle" ∧ (parseMethodDescriptor (dy d2).desc).map (fun d => d.parameters.length) = some na) (hna : As.length = na) (hn : dn d = n) (hfr : df d2 + 1 ≤ df d ∧ 8 + (dn d2 + 11) + dl d2 ≤ dl d) (hst : st0 = As.reverse ++ vr (xg x) k0 :: st) (hW : (st.map fun v => v.category).sum ≤ 8)
    (hd : decode (dc d) pc = .ok (.invokevirtual idx, 3)) (hq : pc + 3 = q) (k : ∀ r M1, post r M1 → Gx x n q L ((rv (dr d2) r).toList ++ st) M1) : Gx x n pc L st0 M := by
  subst hq
  intro H locs ls hP hS hl
  refine wx_call (va_runV (Ts := wsL_law) (own := (dy d).cls) (As := As) (rest := st) (C := (dy d2).cls) (n := na) ⟨C.ex, C.by_, C.ml, C.ow, C.ts⟩ hM ⟨callB_of na C.ts (good_call hw4) rfl rfl rfl (C.ts _ hw3) (C.ts _ hw) hdd ⟨Nat.le_trans hfr.1 C.rm.1, Nat.le_trans hfr.2 C.rm.2.1⟩, C.ts _ hw1, C.ts _ hw2⟩ ⟨wd_blind, va_recv C.kk hP (q0 := k0) hv (by rw [ww_at hk, hc]), fun U hU hW => ⟨rfl, wd_call C hP hS U hU hW⟩⟩ rfl hna (by rw [hn]; exact hl.1) hst (lv_room hW) hd ⟨C.rm.2.2.1, C.rm.2.2.2⟩) hS ?_
  intro r M1 H1 locs1 hp hP1 hS1
  exact k r M1 hp H1 locs1 ls hP1 hS1 hl
theorem g_callS {x : Xx} {d : Md} {n pc q : Nat} {L : List (Nat × Value)} {st st0 : List Value} {M : Mm} (C : Cx x d) (d2 : Md) {idx na : Nat} {As : List Value} {post : Int → Mm → Prop} (hM : Ct (xl x) (xg x) d2 As M post)
    (hw : Cond.methodLink (dy d).cls idx (dy d2) ∈ wsL_law) (hw1 : Cond.static (dy d2) ∈ wsL_law) (hw3 : Cond.initialized (dy d2).cls ∈ wsL_law) (hw4 : Cond.code (dy d2) (dc d2) (dn d2) (dr d2) ∈ wsL_law)
    (hdd : (dy d2).cls ≠ "java/lang/invoke/MethodHandle" ∧ (dy d2).cls ≠ "java/lang/invoke/VarHandle" ∧ (parseMethodDescriptor (dy d2).desc).map (fun d => d.parameters.length) = some na) (hna : As.length = na) (hn : dn d = n) (hfr : df d2 + 1 ≤ df d ∧ 8 + (dn d2 + 11) + dl d2 ≤ dl d) (hst : st0 = As.reverse ++ st) (hW : (st.map fun v => v.category).sum ≤ 8)
    (hd : decode (dc d) pc = .ok (.invokestatic idx, 3)) (hq : pc + 3 = q) (k : ∀ r M1, post r M1 → Gx x n q L ((rv (dr d2) r).toList ++ st) M1) : Gx x n pc L st0 M := by
  subst hq
  intro H locs ls hP hS hl
  refine wx_call (va_runS (Ts := wsL_law) (own := (dy d).cls) (As := As) (rest := st) (n := na) ⟨C.ex, C.by_, C.ml, C.ow, C.ts⟩ hM ⟨callB_of na C.ts (good_call hw4) rfl rfl rfl (C.ts _ hw3) (C.ts _ hw) hdd ⟨Nat.le_trans hfr.1 C.rm.1, Nat.le_trans hfr.2 C.rm.2.1⟩, C.ts _ hw1⟩ ⟨wd_blind, fun U hU hW => ⟨rfl, wd_call C hP hS U hU hW⟩⟩ rfl hna (by rw [hn]; exact hl.1) hst (lv_room hW) hd ⟨C.rm.2.2.1, C.rm.2.2.2⟩) hS ?_
  intro r M1 H1 locs1 hp hP1 hS1
  exact k r M1 hp H1 locs1 ls hP1 hS1 hl
theorem qq_of {x : Xx} {d : Md} {M : Mm} {H : Heap} {locs : List Loc} {post : Int → Mm → Prop} {r : Int} (hp : post r M) (hP : va_P (gD (xg x)) vwCl (ww (xg x) M) H) (hS : va_S (gA (xg x)) (xs x).heap H locs) : ∀ t : State, t.heap = H → (xs x).WarmedH t.vm → Qq (xg x) (dr d) post (xa x) (xs x) (.returned (rv (dr d) r)) t := fun t ht _ => ⟨⟨r, M, rfl, hp, by rw [ht]; exact hP⟩, hS.F ht⟩
theorem g_iret {x : Xx} {d : Md} {n pc : Nat} {L : List (Nat × Value)} {M : Mm} (C : Cx x d) {post : Int → Mm → Prop} {r : Int} (hR : Rt x d post) (hd : decode (dc d) pc = .ok (.ireturn, 1)) (hr : dr d = some .int) (hp : post r M) : Gx x n pc L [vi r] M := by
  intro H locs ls hP hS hl
  have hq := qq_of (d := d) hp hP hS
  unfold Rt at hR
  show W _ _ _ _ _ _ _ _ _ _ _ _ _ _ (xQ x) _
  rw [hR]
  rw [hr] at hq ⊢
  exact W.iret C.ex C.by_ (by rw [C.re, hr]) hq hS.2.2 hd C.lo
theorem g_zret {x : Xx} {d : Md} {n pc : Nat} {L : List (Nat × Value)} {M : Mm} (C : Cx x d) {post : Int → Mm → Prop} {r : Int} (hR : Rt x d post) (hd : decode (dc d) pc = .ok (.ireturn, 1)) (hr : dr d = some .boolean) (h01 : r = 0 ∨ r = 1) (hp : post r M) : Gx x n pc L [vi r] M := by
  intro H locs ls hP hS hl
  have hq := qq_of (d := d) hp hP hS
  unfold Rt at hR
  show W _ _ _ _ _ _ _ _ _ _ _ _ _ _ (xQ x) _
  rw [hR]
  rw [hr] at hq ⊢
  refine W.zret (ty := .boolean) C.ex C.by_ (by rw [C.re, hr]) ?_ hq hS.2.2 hd C.lo
  rcases h01 with rfl | rfl <;> decide
theorem g_lret {x : Xx} {d : Md} {n pc : Nat} {L : List (Nat × Value)} {M : Mm} (C : Cx x d) {post : Int → Mm → Prop} {r : Int} (hR : Rt x d post) (hd : decode (dc d) pc = .ok (.lreturn, 1)) (hr : dr d = some .long) (hp : post r M) : Gx x n pc L [vl r] M := by
  intro H locs ls hP hS hl
  have hq := qq_of (d := d) hp hP hS
  unfold Rt at hR
  show W _ _ _ _ _ _ _ _ _ _ _ _ _ _ (xQ x) _
  rw [hR]
  rw [hr] at hq ⊢
  exact W.lret C.ex C.by_ (by rw [C.re, hr]) hq hS.2.2 hd C.lo
theorem g_ret {x : Xx} {d : Md} {n pc : Nat} {L : List (Nat × Value)} {M : Mm} (C : Cx x d) {post : Int → Mm → Prop} (hR : Rt x d post) (hd : decode (dc d) pc = .ok (.return_, 1)) (hr : dr d = none) (hp : post 0 M) : Gx x n pc L [] M := by
  intro H locs ls hP hS hl
  have hq := qq_of (d := d) hp hP hS
  unfold Rt at hR
  show W _ _ _ _ _ _ _ _ _ _ _ _ _ _ (xQ x) _
  rw [hR]
  rw [hr] at hq ⊢
  exact W.vret C.ex C.by_ (by rw [C.re, hr]) hq hS.2.2 hd C.lo
