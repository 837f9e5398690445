section
theorem pk_us {f : Nat → Int32} {k : Nat} {x : Int32} : upd f k x k = x := if_pos rfl
theorem pk_un {f : Nat → Int32} {k j : Nat} {x : Int32} (h : j ≠ k) : upd f k x j = f j := if_neg h
theorem pk_sub {a b : Nat} (h : b ≤ a) : nI a - nI b = nI (a - b) := by
  obtain ⟨c, rfl⟩ : ∃ c, a = c + b := ⟨a - b, by omega⟩
  rw [← nI_add, Int32.add_sub_cancel, Nat.add_sub_cancel]
theorem pk_mul (a b : Nat) : nI a * nI b = nI (a * b) := (Int32.ofNat_mul a b).symm
theorem pk_div {a d : Nat} (ha : a < 2 ^ 31) (h0 : 0 < d) (hd : d < 2 ^ 31) : nI a / nI d = nI (a / d) := by
  apply Int32.toInt_inj.mp
  rw [lg_idiv_nonneg (by rw [nI_toInt ha]; omega) (by rw [nI_toInt hd]; omega), nI_toInt ha, nI_toInt hd, nI_toInt (Nat.lt_of_le_of_lt (Nat.div_le_self a d) ha)]
  first | rfl | exact (Int.natCast_ediv _ _).symm
theorem pk_rem {a d : Nat} (ha : a < 2 ^ 31) (h0 : 0 < d) (hd : d < 2 ^ 31) : nI a - nI a / nI d * nI d = nI (a % d) := by
  rw [pk_div ha h0 hd, pk_mul, pk_sub (Nat.div_mul_le_self a d)]
  exact congrArg nI (by have := Nat.div_add_mod' a d; omega)
theorem pk_ix (x : Int32) {n : Nat} (hn : n < 2 ^ 31) : x < 0 ∨ nI n ≤ x ∨ ∃ j : Nat, j < n ∧ x = nI j := by
  by_cases h : x < 0
  · exact Or.inl h
  · obtain ⟨j, hj, rfl⟩ := nI_of h
    by_cases h2 : j < n
    · exact Or.inr (Or.inr ⟨j, h2, rfl⟩)
    · exact Or.inr (Or.inl (nI_le (by omega) hj))
theorem pk_in {x : Int32} (n N : Nat) (h : n < N) (hx : x = nI n := by rfl) (hN : N < 2 ^ 31 := by omega) : vp_in x N := by
  subst hx
  exact vp_in_nI h hN
theorem pk_cl {x : Int32} (n : Nat) (hx : x = nI n := by rfl) (h : n < 2 ^ 31 := by omega) : x.toNatClampNeg = n := by
  subst hx
  exact nI_clamp h
/-! pure rows of this claim: the count, the copy, a cell of a page -/
theorem cs_ix (a d i : Nat) {D : Int32} (hD : D = nI d := by rfl) : nI a * D + nI i = nI (a * d + i) := by
  rw [hD, pk_mul, nI_add]
theorem cs_nb {x : Int32} (h : x = 0 ∨ x = 1) : vp_nar .boolean x = x := by
  rcases h with h | h <;> rw [h] <;> rfl
theorem cs_nn {x : Int32} (h : x = 0 ∨ x = 1) : narrow .boolean (.int x) = .int x := by
  rcases h with h | h <;> rw [h] <;> rfl
theorem cs_10 : ¬ (10 : Int32) = 0 := by decide
theorem cs_01 : ¬ (1 : Int32) = 0 := by decide
theorem cs_m1 {q : Nat} (h : q < 2 ^ 31) : ¬ nI q = -1 := by
  intro e
  have e2 := congrArg Int32.toInt e
  rw [nI_toInt h, show (-1 : Int32).toInt = -1 from by decide] at e2
  omega
/-- how many of the first n are not 0 -/
def cs_cnt (f : Nat → Int32) : Nat → Nat
  | 0 => 0
  | n + 1 => cs_cnt f n + (if f n = 0 then 0 else 1)
theorem cs_cntC {f g : Nat → Int32} : ∀ n : Nat, (∀ k, k < n → f k = g k) → cs_cnt f n = cs_cnt g n := by
  intro n
  induction n with
  | zero => intro _; rfl
  | succ n ih =>
    intro h
    show cs_cnt f n + (if f n = 0 then 0 else 1) = cs_cnt g n + (if g n = 0 then 0 else 1)
    rw [ih (fun k hk => h k (by omega)), h n (by omega)]
theorem cs_cntU {f g : Nat → Int32} {j : Nat} : ∀ n : Nat, j < n → (∀ k, k < n → k ≠ j → g k = f k) →
    cs_cnt g n + (if f j = 0 then 0 else 1) = cs_cnt f n + (if g j = 0 then 0 else 1) := by
  intro n
  induction n with
  | zero => intro h; omega
  | succ n ih =>
    intro hj h
    show cs_cnt g n + (if g n = 0 then 0 else 1) + _ = cs_cnt f n + (if f n = 0 then 0 else 1) + _
    by_cases e : j = n
    · subst e
      have e2 : cs_cnt g j = cs_cnt f j := cs_cntC j (fun k hk => h k (by omega) (by omega))
      rw [e2]
      omega
    · have e1 := ih (by omega) (fun k hk hne => h k (by omega) hne)
      have e2 := h n (by omega) (by omega)
      rw [e2]
      omega
theorem cs_cntL (f : Nat → Int32) : ∀ n : Nat, cs_cnt f n ≤ n := by
  intro n
  induction n with
  | zero => exact Nat.le_refl 0
  | succ n ih =>
    show cs_cnt f n + (if f n = 0 then 0 else 1) ≤ n + 1
    by_cases h : f n = 0
    · rw [if_pos h]; omega
    · rw [if_neg h]; omega
theorem cs_cnt0 : ∀ n : Nat, cs_cnt (fun _ => 0) n = 0 := by
  intro n
  induction n with
  | zero => rfl
  | succ n ih =>
    show cs_cnt (fun _ => 0) n + (if (0 : Int32) = 0 then 0 else 1) = 0
    rw [ih, if_pos rfl]
/-- n cells from f on, copied to t on -/
def cs_cp (A : Nat → Int32) (f t n : Nat) : Nat → Int32 := fun j => if t ≤ j ∧ j < t + n then A (f + (j - t)) else A j
theorem cs_cpZ (A : Nat → Int32) (f t : Nat) : cs_cp A f t 0 = A := by
  funext j
  exact if_neg (by omega)
theorem cs_cpI {A : Nat → Int32} {f t n j : Nat} (h : j < n) : cs_cp A f t n (t + j) = A (f + j) := by
  show (if t ≤ t + j ∧ t + j < t + n then A (f + (t + j - t)) else A (t + j)) = A (f + j)
  rw [if_pos (by omega), Nat.add_sub_cancel_left]
theorem cs_cpO {A : Nat → Int32} {f t n j : Nat} (h : j < t ∨ t + n ≤ j) : cs_cp A f t n j = A j := if_neg (by omega)
theorem cs_cpS {A : Nat → Int32} {f t n : Nat} (h : f + n < t ∨ t + n ≤ f + n) : upd (cs_cp A f t n) (t + n) (cs_cp A f t n (f + n)) = cs_cp A f t (n + 1) := by
  funext j
  rw [cs_cpO h]
  by_cases e : j = t + n
  · rw [e, pk_us, cs_cpI (by omega)]
  · rw [pk_un e]
    by_cases e2 : t ≤ j ∧ j < t + n
    · obtain ⟨i, rfl⟩ : ∃ i, j = t + i := ⟨j - t, by omega⟩
      rw [cs_cpI (by omega), cs_cpI (by omega)]
    · rw [cs_cpO (by omega), cs_cpO (by omega)]
theorem cs_cp01 {A : Nat → Int32} (h : ∀ j, A j = 0 ∨ A j = 1) (f t n : Nat) : ∀ j, cs_cp A f t n j = 0 ∨ cs_cp A f t n j = 1 := by
  intro j
  by_cases e : t ≤ j ∧ j < t + n
  · rw [show cs_cp A f t n j = A (f + (j - t)) from if_pos e]; exact h _
  · rw [show cs_cp A f t n j = A j from if_neg e]; exact h _
theorem cs_upd01 {A : Nat → Int32} (h : ∀ j, A j = 0 ∨ A j = 1) {x : Int32} (hx : x = 0 ∨ x = 1) (k : Nat) : ∀ j, upd A k x j = 0 ∨ upd A k x j = 1 := by
  intro j
  by_cases e : j = k
  · rw [e, pk_us]; exact hx
  · rw [pk_un e]; exact h j
/-- the cell of key k under root q -/
def cs_ce (L : Nat → Int32) (q k : Nat) : Nat := (L (q * 10 + k / 10)).toNatClampNeg * 10 + k % 10
end
section
/-- page p: the ten cells of page l, but x at m -/
def cs_n (A : Nat → Int32) (l p m : Nat) (x : Int32) : Nat → Int32 := upd (cs_cp A (l * 10) (p * 10) 10) (p * 10 + m) x
theorem cs_nO {A : Nat → Int32} {l p m : Nat} {x : Int32} {j : Nat} (h : j < p * 10) : cs_n A l p m x j = A j := by
  show upd _ _ _ _ = _
  rw [pk_un (by omega), cs_cpO (by omega)]
theorem cs_nI {A : Nat → Int32} {l p m : Nat} {x : Int32} {i : Nat} (h : i < 10) (hm : i ≠ m) : cs_n A l p m x (p * 10 + i) = A (l * 10 + i) := by
  show upd _ _ _ _ = _
  rw [pk_un (by omega), cs_cpI h]
theorem cs_nE {A : Nat → Int32} {l p m : Nat} {x : Int32} : cs_n A l p m x (p * 10 + m) = x := pk_us
/-- block b of the reference's arrays shows what root q shows -/
def cs_View (H V L T W : Nat → Int32) (q b : Nat) : Prop := ∀ k, k < 100 → T (b * 100 + k) = H (cs_ce L q k) ∧ (H (cs_ce L q k) = 0 ∨ W (b * 100 + k) = V (cs_ce L q k))
def cs_Leaf (p : Nat) (L : Nat → Int32) : Prop := ∀ q, q < p → ∀ i, i < 10 → ∃ l, l < p ∧ L (q * 10 + i) = nI l
def cs_Size (p : Nat) (H L C : Nat → Int32) : Prop := ∀ q, q < p → cs_cnt (fun k => H (cs_ce L q k)) 100 ≤ 24 ∧ C q = nI (cs_cnt (fun k => H (cs_ce L q k)) 100)
def cs_Inv (p : Nat) (H L C : Nat → Int32) : Prop := (∀ j, H j = 0 ∨ H j = 1) ∧ cs_Leaf p L ∧ cs_Size p H L C
def cs_Rd (p : Nat) (H V L R N T W O S : Nat → Int32) (r : Nat) : Prop :=
  (R r = -1 ∧ O r = 0) ∨ (∃ q, q < p ∧ R r = nI q ∧ O r = 1 ∧ S r = N r ∧ cs_View H V L T W q r)
/-- the whole relation, over the names -/
def cs_Rel (k : Nat) (cr cn pw : Int32) (H V L C R N : Nat → Int32) (fn : Int32) (T W O S : Nat → Int32) : Prop :=
  fn = cn ∧ (∀ j, T j = 0 ∨ T j = 1) ∧ ∃ p c w : Nat, (1 ≤ p ∧ 3 * p ≤ k + 3 ∧ pw = nI p) ∧ cs_Inv p H L C ∧
    (c < p ∧ cr = nI c ∧ cs_View H V L T W c 4) ∧ (w < p ∧ R 3 = nI w ∧ cs_View H V L T W w 3) ∧
    ∀ r, r < 3 → cs_Rd p H V L R N T W O S r
def i_Rel (k : Nat) (u : SX) (v : SY) : Prop := match u, v with
  | (cr, cn, pw, H, V, L, C, R, N), (fn, T, W, O, S) => cs_Rel k cr cn pw H V L C R N fn T W O S
theorem cs_up {k m : Nat} {cr cn pw : Int32} {H V L C R N : Nat → Int32} {fn : Int32} {T W O S : Nat → Int32} (hm : k ≤ m)
    (h : cs_Rel k cr cn pw H V L C R N fn T W O S) : cs_Rel m cr cn pw H V L C R N fn T W O S := by
  obtain ⟨e, t, p, c, w, ⟨h1, h2, h3⟩, h4⟩ := h
  exact ⟨e, t, p, c, w, ⟨h1, by omega, h3⟩, h4⟩
theorem i_up {k : Nat} {u : SX} {v : SY} (h : i_Rel k u v) : i_Rel (k + 3) u v := by
  obtain ⟨cr, cn, pw, H, V, L, C, R, N⟩ := u
  obtain ⟨fn, T, W, O, S⟩ := v
  exact cs_up (by omega) h
/-! cells -/
theorem cs_ceN {L : Nat → Int32} {q k l : Nat} (hl : l < 2 ^ 31) (e : L (q * 10 + k / 10) = nI l) : cs_ce L q k = l * 10 + k % 10 := by
  show (L (q * 10 + k / 10)).toNatClampNeg * 10 + k % 10 = _
  rw [e, nI_clamp hl]
theorem cs_ceL {p : Nat} {L : Nat → Int32} (hL : cs_Leaf p L) (hp : p ≤ 513) {q k : Nat} (hq : q < p) (hk : k < 100) : cs_ce L q k < p * 10 := by
  obtain ⟨l, hl, e⟩ := hL q hq (k / 10) (by omega)
  rw [cs_ceN (by omega) e]
  omega
/-! a change: root w and its leaf l become page p, but for key -/
section
variable {p w l key : Nat} {H V L C : Nat → Int32} {h x : Int32}
theorem cs_ce1 {q k : Nat} {y : Int32} (hq : q < p) (hk : k < 100) : cs_ce (cs_n L w p (key / 10) y) q k = cs_ce L q k := by
  show (cs_n L w p (key / 10) y (q * 10 + k / 10)).toNatClampNeg * 10 + k % 10 = _
  rw [cs_nO (by omega)]
  rfl
theorem cs_ce2 {k : Nat} (hp : p < 513) (hk : k < 100) (e : k / 10 = key / 10) : cs_ce (cs_n L w p (key / 10) (nI p)) p k = p * 10 + k % 10 := by
  refine cs_ceN (by omega) ?_
  rw [e]
  exact cs_nE
theorem cs_ce3 {k : Nat} {y : Int32} (hk : k < 100) (e : k / 10 ≠ key / 10) : cs_ce (cs_n L w p (key / 10) y) p k = cs_ce L w k := by
  show (cs_n L w p (key / 10) y (p * 10 + k / 10)).toNatClampNeg * 10 + k % 10 = _
  rw [cs_nI (by omega) e]
  rfl
/-- the old roots show what they showed -/
theorem cs_old (A : Nat → Int32) (y : Int32) (hp : p < 513) (hL : cs_Leaf p L) {q k : Nat} (hq : q < p) (hk : k < 100) :
    cs_n A l p (key % 10) y (cs_ce (cs_n L w p (key / 10) (nI p)) q k) = A (cs_ce L q k) := by
  rw [cs_ce1 hq hk, cs_nO (cs_ceL hL (by omega) hq hk)]
/-- the new root shows what root w showed, but at key -/
theorem cs_new (A : Nat → Int32) (y : Int32) (hp : p < 513) (hL : cs_Leaf p L) (hw : w < p) (hl : l < p) (el : L (w * 10 + key / 10) = nI l) {k : Nat} (hk : k < 100) (hne : k ≠ key) :
    cs_n A l p (key % 10) y (cs_ce (cs_n L w p (key / 10) (nI p)) p k) = A (cs_ce L w k) := by
  by_cases e : k / 10 = key / 10
  · rw [cs_ce2 hp hk e, cs_nI (by omega) (by omega), cs_ceN (l := l) (by omega) (by rw [e]; exact el)]
  · rw [cs_ce3 hk e, cs_nO (cs_ceL hL (by omega) hw hk)]
theorem cs_key (A : Nat → Int32) (y : Int32) (hp : p < 513) (hk : key < 100) :
    cs_n A l p (key % 10) y (cs_ce (cs_n L w p (key / 10) (nI p)) p key) = y := by
  rw [cs_ce2 hp hk rfl]
  exact cs_nE
theorem cs_leaf2 (hp : p < 513) (hL : cs_Leaf p L) (hw : w < p) (hk : key < 100) : cs_Leaf (p + 1) (cs_n L w p (key / 10) (nI p)) := by
  intro q hq i hi
  by_cases e : q = p
  · subst e
    by_cases e2 : i = key / 10
    · subst e2
      exact ⟨q, by omega, cs_nE⟩
    · obtain ⟨m, hm, em⟩ := hL w hw i hi
      exact ⟨m, by omega, by rw [cs_nI hi e2]; exact em⟩
  · obtain ⟨m, hm, em⟩ := hL q (by omega) i hi
    exact ⟨m, by omega, by rw [cs_nO (by omega)]; exact em⟩
theorem cs_add {n m : Nat} {h b : Int32} (hh : h = 0 ∨ h = 1) (hb : b = 0 ∨ b = 1) (e : m + (if b = 0 then 0 else 1) = n + (if h = 0 then 0 else 1)) : nI n + (h - b) = nI m := by
  rcases hh with rfl | rfl <;> rcases hb with rfl | rfl
  · rw [if_pos rfl] at e
    have e2 : m = n := by omega
    rw [e2, show (0 : Int32) - 0 = 0 from by decide, Int32.add_zero]
  · rw [if_pos rfl, if_neg cs_01] at e
    have e2 : n = m + 1 := by omega
    rw [e2, show (0 : Int32) - 1 = -1 from by decide, ← nI_1, Int32.add_assoc, show (1 : Int32) + (-1) = 0 from rfl, Int32.add_zero]
  · rw [if_pos rfl, if_neg cs_01] at e
    have e2 : m = n + 1 := by omega
    rw [e2, show (1 : Int32) - 0 = 1 from by decide, nI_1]
  · rw [if_neg cs_01] at e
    have e2 : m = n := by omega
    rw [e2, show (1 : Int32) - 1 = 0 from by decide, Int32.add_zero]
/-- what is kept over a change -/
theorem cs_inv2 (hp : p < 513) (I : cs_Inv p H L C) (hw : w < p) (hl : l < p) (el : L (w * 10 + key / 10) = nI l) (hk : key < 100) (hh : h = 0 ∨ h = 1)
    (hf : H (cs_ce L w key) = 0 → h = 0 ∨ cs_cnt (fun k => H (cs_ce L w k)) 100 < 24) :
    cs_Inv (p + 1) (cs_n H l p (key % 10) h) (cs_n L w p (key / 10) (nI p)) (upd C p (C w + (h - H (cs_ce L w key)))) := by
  obtain ⟨h01, hL, hS⟩ := I
  refine ⟨cs_upd01 (cs_cp01 h01 _ _ _) hh _, cs_leaf2 hp hL hw hk, ?_⟩
  intro q hq
  by_cases e : q = p
  · subst e
    obtain ⟨s1, s2⟩ := hS w hw
    have hc : cs_cnt (fun k => cs_n H l q (key % 10) h (cs_ce (cs_n L w q (key / 10) (nI q)) q k)) 100 + (if H (cs_ce L w key) = 0 then 0 else 1) = cs_cnt (fun k => H (cs_ce L w k)) 100 + (if h = 0 then 0 else 1) := by
      have e1 := cs_cntU (f := fun k => H (cs_ce L w k)) (g := fun k => cs_n H l q (key % 10) h (cs_ce (cs_n L w q (key / 10) (nI q)) q k)) 100 hk (fun k hk2 hne => cs_new H h hp hL hw hl el hk2 hne)
      rw [cs_key H h hp hk] at e1
      exact e1
    refine ⟨?_, ?_⟩
    · rcases h01 (cs_ce L w key) with z | z
      · have f1 := hf z
        rw [if_pos z] at hc
        rcases f1 with f1 | f1
        · rw [if_pos f1] at hc; omega
        · have : (if h = 0 then 0 else 1) ≤ 1 := by
            by_cases z2 : h = 0
            · rw [if_pos z2]; omega
            · rw [if_neg z2]; omega
          omega
      · rw [z, if_neg cs_01] at hc
        have : (if h = 0 then 0 else 1) ≤ 1 := by
          by_cases z2 : h = 0
          · rw [if_pos z2]; omega
          · rw [if_neg z2]; omega
        omega
    · rw [pk_us, s2]
      exact cs_add hh (h01 _) hc
  · have hq2 : q < p := by omega
    obtain ⟨s1, s2⟩ := hS q hq2
    have hc : cs_cnt (fun k => cs_n H l p (key % 10) h (cs_ce (cs_n L w p (key / 10) (nI p)) q k)) 100 = cs_cnt (fun k => H (cs_ce L q k)) 100 :=
      cs_cntC 100 (fun k hk2 => cs_old H h hp hL hq2 hk2)
    rw [hc, pk_un e]
    exact ⟨s1, s2⟩
theorem cs_viewO {T W T' W' : Nat → Int32} {q b : Nat} (hp : p < 513) (hL : cs_Leaf p L) (hq : q < p) (ht : ∀ k, k < 100 → T' (b * 100 + k) = T (b * 100 + k)) (hw : ∀ k, k < 100 → W' (b * 100 + k) = W (b * 100 + k))
    (hv : cs_View H V L T W q b) : cs_View (cs_n H l p (key % 10) h) (cs_n V l p (key % 10) x) (cs_n L w p (key / 10) (nI p)) T' W' q b := by
  intro k hk
  rw [cs_old H h hp hL hq hk, cs_old V x hp hL hq hk, ht k hk, hw k hk]
  exact hv k hk
theorem cs_viewN {T W T' W' : Nat → Int32} (hp : p < 513) (hL : cs_Leaf p L) (hw : w < p) (hl : l < p) (el : L (w * 10 + key / 10) = nI l) (hk : key < 100)
    (ht : ∀ k, k ≠ key → T' (3 * 100 + k) = T (3 * 100 + k)) (hW : ∀ k, k ≠ key → W' (3 * 100 + k) = W (3 * 100 + k))
    (tk : T' (3 * 100 + key) = h) (wk : h = 0 ∨ W' (3 * 100 + key) = x)
    (hv : cs_View H V L T W w 3) : cs_View (cs_n H l p (key % 10) h) (cs_n V l p (key % 10) x) (cs_n L w p (key / 10) (nI p)) T' W' p 3 := by
  intro k hk2
  by_cases e : k = key
  · subst e
    rw [cs_key H h hp hk, cs_key V x hp hk]
    exact ⟨tk, wk⟩
  · rw [cs_new H h hp hL hw hl el hk2 e, cs_new V x hp hL hw hl el hk2 e, ht k e, hW k e]
    exact hv k hk2
end
end
section
/-! the small methods, each with a general post -/
theorem cs_kXf {post : Int32 → Prop} {v : Int32} (h : v < 0 ∨ nI 100 ≤ v) (hp : post 0) : wpX_isKey post v := by
  by_cases z : v < 0
  · exact br_t z hp
  · have h2 : (100 : Int32) ≤ v := by
      rcases h with h | h
      · exact absurd h z
      · exact h
    exact br_f z (br_t h2 hp)
theorem cs_kXt {post : Int32 → Prop} {j : Nat} (h : j < 100) (hp : post 1) : wpX_isKey post (nI j) :=
  br_f (nI_pos (by omega)) (br_f (nI_ge (b := 100) h (by decide)) hp)
theorem cs_kYf {post : Int32 → Prop} {u : SY} {v : Int32} (h : v < 0 ∨ nI 100 ≤ v) (hp : post 0) : wpY_isKey post u v := by
  by_cases z : v < 0
  · exact br_t z hp
  · have h2 : (100 : Int32) ≤ v := by
      rcases h with h | h
      · exact absurd h z
      · exact h
    exact br_f z (br_t h2 hp)
theorem cs_kYt {post : Int32 → Prop} {u : SY} {j : Nat} (h : j < 100) (hp : post 1) : wpY_isKey post u (nI j) :=
  br_f (nI_pos (by omega)) (br_f (nI_ge (b := 100) h (by decide)) hp)
theorem cs_rXf {post : Int32 → Prop} {v : Int32} (h : v < 0 ∨ nI 3 ≤ v) (hp : post 0) : wpX_isReader post v := by
  by_cases z : v < 0
  · exact br_t z hp
  · have h2 : (3 : Int32) ≤ v := by
      rcases h with h | h
      · exact absurd h z
      · exact h
    exact br_f z (br_t h2 hp)
theorem cs_rXt {post : Int32 → Prop} {j : Nat} (h : j < 3) (hp : post 1) : wpX_isReader post (nI j) :=
  br_f (nI_pos (by omega)) (br_f (nI_ge (b := 3) h (by decide)) hp)
theorem cs_rYf {post : Int32 → Prop} {u : SY} {v : Int32} (h : v < 0 ∨ nI 3 ≤ v) (hp : post 0) : wpY_isReader post u v := by
  by_cases z : v < 0
  · exact br_t z hp
  · have h2 : (3 : Int32) ≤ v := by
      rcases h with h | h
      · exact absurd h z
      · exact h
    exact br_f z (br_t h2 hp)
theorem cs_rYt {post : Int32 → Prop} {u : SY} {j : Nat} (h : j < 3) (hp : post 1) : wpY_isReader post u (nI j) :=
  br_f (nI_pos (by omega)) (br_f (nI_ge (b := 3) h (by decide)) hp)
theorem cs_x10 {q k : Nat} (hk : k < 100) : nI q * 10 + nI k / 10 = nI (q * 10 + k / 10) := by
  rw [show nI k / (10 : Int32) = nI (k / 10) from pk_div (d := 10) (by omega) (by decide) (by decide)]
  exact cs_ix q 10 (k / 10)
theorem cs_r10 {q k : Nat} (hk : k < 100) : nI q * 10 + (nI k - nI k / 10 * 10) = nI (q * 10 + k % 10) := by
  rw [show nI k - nI k / (10 : Int32) * 10 = nI (k % 10) from pk_rem (d := 10) (by omega) (by decide) (by decide)]
  exact cs_ix q 10 (k % 10)
section
variable {cr cn pw : Int32} {H V L C R N : Nat → Int32} {p : Nat}
theorem cs_cellOf {post : Int32 → Prop} {q k : Nat} (hL : cs_Leaf p L) (hp : p ≤ 513) (hq : q < p) (hk : k < 100) (h : post (nI (cs_ce L q k))) :
    wpX_cellOf post (cr, cn, pw, H, V, L, C, R, N) (nI q) (nI k) := by
  obtain ⟨l, hl, e⟩ := hL q hq (k / 10) (by omega)
  refine ⟨cs_10, pk_in (q * 10 + k / 10) 5130 (by omega) (cs_x10 hk), cs_10, ?_⟩
  rw [cs_x10 hk, nI_clamp (by omega), e, cs_r10 hk]
  rw [cs_ceN (by omega) e] at h
  exact h
theorem cs_holds {post : Int32 → Prop} {q k : Nat} (h01 : ∀ j, H j = 0 ∨ H j = 1) (hL : cs_Leaf p L) (hp : p ≤ 513) (hq : q < p) (hk : k < 100) (h : post (H (cs_ce L q k))) :
    wpX_holds post (cr, cn, pw, H, V, L, C, R, N) (nI q) (nI k) := by
  have hc := cs_ceL hL hp hq hk
  unfold wpX_holds
  dsimp only
  refine cs_cellOf hL hp hq hk ⟨vp_in_nI (by omega) (by decide), ?_⟩
  rw [nI_clamp (by omega)]
  exact ⟨cs_nn (h01 _), h⟩
/-! the copies -/
theorem cs_cl {post : SX → Prop} {l t : Nat} (hl : l < t) (ht : t < 513) (h01 : ∀ j, H j = 0 ∨ H j = 1)
    (h : post (cr, cn, pw, cs_cp H (l * 10) (t * 10) 10, cs_cp V (l * 10) (t * 10) 10, L, C, R, N)) : ∀ d i : Nat, i + d = 10 →
    wX_copyLeaf_2 post (nI l) (nI t) cr cn pw (d + 1) (nI i) (cs_cp H (l * 10) (t * 10) i) (cs_cp V (l * 10) (t * 10) i) L C R N := by
  intro d
  induction d with
  | zero =>
    intro i hi
    have e : i = 10 := by omega
    subst e
    exact br_t (nI_le (a := 10) (b := 10) (by omega) (by decide)) h
  | succ d ih =>
    intro i hi
    have a1 := cs_ix l 10 i
    have a2 := cs_ix t 10 i
    have b1 : vp_in (nI l * 10 + nI i) 5130 := pk_in (l * 10 + i) 5130 (by omega) a1
    have b2 : vp_in (nI t * 10 + nI i) 5130 := pk_in (t * 10 + i) 5130 (by omega) a2
    have c1 : (nI l * 10 + nI i).toNatClampNeg = l * 10 + i := pk_cl (l * 10 + i) a1
    have c2 : (nI t * 10 + nI i).toNatClampNeg = t * 10 + i := pk_cl (t * 10 + i) a2
    refine br_f (nI_ge (b := 10) (by omega) (by decide)) ⟨b1, b2, nm_r (e' := cs_cp H (l * 10) (t * 10) (i + 1)) ?_ ⟨b1, b2, nm_r (e' := cs_cp V (l * 10) (t * 10) (i + 1)) ?_ (nm_r (nI_1 i) ?_)⟩⟩
    · rw [c1, c2, cs_nb (cs_cp01 h01 _ _ _ _)]
      exact cs_cpS (by omega)
    · rw [c1, c2]
      exact cs_cpS (by omega)
    · exact ih (i + 1) (by omega)
theorem cs_copyLeaf {post : SX → Prop} {l t : Nat} (hl : l < t) (ht : t < 513) (h01 : ∀ j, H j = 0 ∨ H j = 1)
    (h : post (cr, cn, pw, cs_cp H (l * 10) (t * 10) 10, cs_cp V (l * 10) (t * 10) 10, L, C, R, N)) : wpX_copyLeaf post (cr, cn, pw, H, V, L, C, R, N) (nI l) (nI t) := by
  have g := cs_cl hl ht h01 h 10 0 rfl
  rw [cs_cpZ, cs_cpZ] at g
  exact ⟨_, g⟩
theorem cs_cr {post : SX → Prop} {l t : Nat} (hl : l < t) (ht : t < 513)
    (h : post (cr, cn, pw, H, V, cs_cp L (l * 10) (t * 10) 10, upd C t (C l), R, N)) : ∀ d i : Nat, i + d = 10 →
    wX_copyRoot_2 post (nI l) (nI t) cr cn pw (d + 1) (nI i) H V (cs_cp L (l * 10) (t * 10) i) C R N := by
  intro d
  induction d with
  | zero =>
    intro i hi
    have e : i = 10 := by omega
    subst e
    refine br_t (nI_le (a := 10) (b := 10) (by omega) (by decide)) ⟨vp_in_nI (by omega) (by decide), vp_in_nI ht (by decide), nm_r (e' := upd C t (C l)) ?_ h⟩
    rw [nI_clamp (by omega), nI_clamp (by omega)]
  | succ d ih =>
    intro i hi
    have a1 := cs_ix l 10 i
    have a2 := cs_ix t 10 i
    have b1 : vp_in (nI l * 10 + nI i) 5130 := pk_in (l * 10 + i) 5130 (by omega) a1
    have b2 : vp_in (nI t * 10 + nI i) 5130 := pk_in (t * 10 + i) 5130 (by omega) a2
    have c1 : (nI l * 10 + nI i).toNatClampNeg = l * 10 + i := pk_cl (l * 10 + i) a1
    have c2 : (nI t * 10 + nI i).toNatClampNeg = t * 10 + i := pk_cl (t * 10 + i) a2
    refine br_f (nI_ge (b := 10) (by omega) (by decide)) ⟨b1, b2, nm_r (e' := cs_cp L (l * 10) (t * 10) (i + 1)) ?_ (nm_r (nI_1 i) ?_)⟩
    · rw [c1, c2]
      exact cs_cpS (by omega)
    · exact ih (i + 1) (by omega)
theorem cs_copyRoot {post : SX → Prop} {l t : Nat} (hl : l < t) (ht : t < 513)
    (h : post (cr, cn, pw, H, V, cs_cp L (l * 10) (t * 10) 10, upd C t (C l), R, N)) : wpX_copyRoot post (cr, cn, pw, H, V, L, C, R, N) (nI l) (nI t) := by
  have g := cs_cr (V := V) hl ht h 10 0 rfl
  rw [cs_cpZ] at g
  exact ⟨_, g⟩
theorem cs_uu (A : Nat → Int32) (t : Nat) (x y : Int32) : upd (upd A t x) t y = upd A t y := by
  funext j
  by_cases e : j = t
  · rw [e, pk_us, pk_us]
  · rw [pk_un e, pk_un e, pk_un e]
/-! the change -/
theorem cs_114 {post : SX → Prop} {t m : Nat} {h x b : Int32} (ht : t < 513) (hm : m < 10) (hh : h = 0 ∨ h = 1) {y : Int32}
    (g : post (cr, cn, pw, upd H (t * 10 + m) h, upd V (t * 10 + m) x, L, upd C t (y + (h - b)), upd R 3 (nI t), N)) :
    wX_writeChange_114 post h x (nI t) (nI (t * 10 + m)) b h y (nI t) cr cn pw H V L C R N := by
  have b2 : vp_in (nI (t * 10 + m)) 5130 := vp_in_nI (by omega) (by decide)
  have c2 : (nI (t * 10 + m)).toNatClampNeg = t * 10 + m := nI_clamp (by omega)
  refine ⟨vp_in_nI ht (by decide), nm_r (e' := upd C t (y + (h - b))) (by rw [nI_clamp (by omega)]) ⟨b2, nm_r (e' := upd H (t * 10 + m) h) (by rw [c2, cs_nb hh]) ⟨b2, nm_r (e' := upd V (t * 10 + m) x) (by rw [c2]) (nm_e g)⟩⟩⟩
theorem cs_99 {post : SX → Prop} {t m : Nat} {h x : Int32} (ht : t < 513) (hm : m < 10) (hh : h = 0 ∨ h = 1) {y : Int32} (h01 : H (t * 10 + m) = 0 ∨ H (t * 10 + m) = 1)
    (g : post (cr, cn, pw, upd H (t * 10 + m) h, upd V (t * 10 + m) x, L, upd C t (y + (h - H (t * 10 + m))), upd R 3 (nI t), N)) :
    wX_writeChange_99 post h x (nI t) (nI (t * 10 + m)) h y (nI t) cr cn pw H V L C R N := by
  have b2 : vp_in (nI (t * 10 + m)) 5130 := vp_in_nI (by omega) (by decide)
  have c2 : (nI (t * 10 + m)).toNatClampNeg = t * 10 + m := nI_clamp (by omega)
  refine ⟨b2, ?_⟩
  rw [c2]
  rcases h01 with z | z
  · rw [z] at g
    exact br_t z (cs_114 ht hm hh g)
  · rw [z] at g
    exact br_f (by rw [z]; exact cs_01) (cs_114 ht hm hh g)
theorem cs_wc {post : SX → Prop} {w l key : Nat} {h x : Int32} (h01 : ∀ j, H j = 0 ∨ H j = 1) (hp : p < 513) (hw : w < p) (ew : R 3 = nI w) (hl : l < p) (el : L (w * 10 + key / 10) = nI l) (hk : key < 100) (hh : h = 0 ∨ h = 1)
    (g : post (cr, cn, nI (p + 1), cs_n H l p (key % 10) h, cs_n V l p (key % 10) x, cs_n L w p (key / 10) (nI p), upd C p (C w + (h - H (cs_ce L w key))), upd R 3 (nI p), N)) :
    wpX_writeChange post (cr, cn, nI p, H, V, L, C, R, N) (nI key) h x := by
  have q1 : wX_writeChange_99 post h x (nI p) (nI (p * 10 + key % 10)) h (C w) (nI p) cr cn (nI (p + 1)) (cs_cp H (l * 10) (p * 10) 10) (cs_cp V (l * 10) (p * 10) 10) (cs_n L w p (key / 10) (nI p)) (upd C p (C w)) R N := by
    refine cs_99 hp (by omega) hh (cs_cp01 h01 _ _ _ _) ?_
    rw [cs_cpI (by omega), cs_uu, ← cs_ceN (q := w) (k := key) (by omega) el]
    exact g
  refine nm_r (e' := nI w) ew (nm_r (nI_1 p) ⟨cs_10, pk_in (w * 10 + key / 10) 5130 (by omega) (cs_x10 hk), ?_⟩)
  have e0 : L (nI w * 10 + nI key / 10).toNatClampNeg = nI l := by
    rw [cs_x10 hk, nI_clamp (by omega)]
    exact el
  rw [e0]
  refine cs_copyLeaf hl hp h01 (cs_copyRoot hw hp ⟨cs_10, pk_in (p * 10 + key / 10) 5130 (by omega) (cs_x10 hk), nm_r (e' := cs_n L w p (key / 10) (nI p)) ?_ ⟨cs_10, nm_r (cs_r10 hk) ⟨vp_in_nI hp (by decide), ?_⟩⟩⟩)
  · rw [cs_x10 hk, nI_clamp (by omega)]
    rfl
  · rw [nI_clamp (by omega), pk_us]
    rcases hh with rfl | rfl
    · exact br_t rfl q1
    · exact br_f cs_01 q1
end
end
section
/-! the reference's walks, and both sides' walks where they read alone -/
theorem cs_ne {a b : Nat} (h : a ≠ b) (ha : a < 2 ^ 31) (hb : b < 2 ^ 31) : ¬ nI a = nI b := fun e => h ((nI_eq ha hb).mp e)
section
variable {fn : Int32} {T W O S : Nat → Int32}
theorem cs_cy {post : SY → Prop} {f t : Nat} (hft : f ≠ t) (hf : f < 5) (ht : t < 5) (h01 : ∀ j, T j = 0 ∨ T j = 1)
    (h : post (fn, cs_cp T (f * 100) (t * 100) 100, cs_cp W (f * 100) (t * 100) 100, O, S)) : ∀ d i : Nat, i + d = 100 →
    wY_copy_2 post (nI f) (nI t) fn (d + 1) (nI i) (cs_cp T (f * 100) (t * 100) i) (cs_cp W (f * 100) (t * 100) i) O S := by
  intro d
  induction d with
  | zero =>
    intro i hi
    have e : i = 100 := by omega
    subst e
    exact br_t (nI_le (a := 100) (b := 100) (by omega) (by decide)) h
  | succ d ih =>
    intro i hi
    have a1 := cs_ix f 100 i
    have a2 := cs_ix t 100 i
    have b1 : vp_in (nI f * 100 + nI i) 500 := pk_in (f * 100 + i) 500 (by omega) a1
    have b2 : vp_in (nI t * 100 + nI i) 500 := pk_in (t * 100 + i) 500 (by omega) a2
    have c1 : (nI f * 100 + nI i).toNatClampNeg = f * 100 + i := pk_cl (f * 100 + i) a1
    have c2 : (nI t * 100 + nI i).toNatClampNeg = t * 100 + i := pk_cl (t * 100 + i) a2
    refine br_f (nI_ge (b := 100) (by omega) (by decide)) ⟨b1, b2, nm_r (e' := cs_cp T (f * 100) (t * 100) (i + 1)) ?_ ⟨b1, b2, nm_r (e' := cs_cp W (f * 100) (t * 100) (i + 1)) ?_ (nm_r (nI_1 i) ?_)⟩⟩
    · rw [c1, c2, cs_nb (cs_cp01 h01 _ _ _ _)]
      exact cs_cpS (by omega)
    · rw [c1, c2]
      exact cs_cpS (by omega)
    · exact ih (i + 1) (by omega)
theorem cs_copyY {post : SY → Prop} (f t : Nat) (hft : f ≠ t) (hf : f < 5) (ht : t < 5) (h01 : ∀ j, T j = 0 ∨ T j = 1)
    (h : post (fn, cs_cp T (f * 100) (t * 100) 100, cs_cp W (f * 100) (t * 100) 100, O, S)) : wpY_copy post (fn, T, W, O, S) (nI f) (nI t) := by
  have g := cs_cy hft hf ht h01 h 100 0 rfl
  rw [cs_cpZ, cs_cpZ] at g
  exact ⟨_, g⟩
theorem cs_sz {post : Int32 → Prop} {b : Nat} (hb : b < 4) (h : post (nI (cs_cnt (fun k => T (b * 100 + k)) 100))) : ∀ d i : Nat, i + d = 100 →
    wY_size_14 post (nI b) fn T W O S (d + 1) (nI (cs_cnt (fun k => T (b * 100 + k)) i)) (nI i) := by
  intro d
  induction d with
  | zero =>
    intro i hi
    have e : i = 100 := by omega
    subst e
    exact br_t (nI_le (a := 100) (b := 100) (by omega) (by decide)) h
  | succ d ih =>
    intro i hi
    have a1 := cs_ix b 100 i
    have b1 : vp_in (nI b * 100 + nI i) 500 := pk_in (b * 100 + i) 500 (by omega) a1
    have c1 : (nI b * 100 + nI i).toNatClampNeg = b * 100 + i := pk_cl (b * 100 + i) a1
    have g := ih (i + 1) (by omega)
    refine br_f (nI_ge (b := 100) (by omega) (by decide)) ⟨b1, ?_⟩
    rw [c1]
    by_cases z : T (b * 100 + i) = 0
    · have e : cs_cnt (fun k => T (b * 100 + k)) (i + 1) = cs_cnt (fun k => T (b * 100 + k)) i := by
        show cs_cnt (fun k => T (b * 100 + k)) i + (if T (b * 100 + i) = 0 then 0 else 1) = _
        rw [if_pos z]
        rfl
      rw [e] at g
      exact br_t z (nm_r (nI_1 i) g)
    · have e : cs_cnt (fun k => T (b * 100 + k)) (i + 1) = cs_cnt (fun k => T (b * 100 + k)) i + 1 := by
        show cs_cnt (fun k => T (b * 100 + k)) i + (if T (b * 100 + i) = 0 then 0 else 1) = _
        rw [if_neg z]
      rw [e] at g
      exact br_f z (nm_r (nI_1 _) (nm_r (nI_1 i) g))
theorem cs_sizeY {post : Int32 → Prop} {b : Nat} (hb : b < 4) (hs : ∀ post : Int32 → Prop, post 1 → wpY_sees post (fn, T, W, O, S) (nI b))
    (h : post (nI (cs_cnt (fun k => T (b * 100 + k)) 100))) : wpY_size post (fn, T, W, O, S) (nI b) := by
  unfold wpY_size
  dsimp only
  refine hs _ (br_f cs_01 ⟨101, ?_⟩)
  exact cs_sz hb h 100 0 rfl
end
section
variable {cr cn pw : Int32} {H V L C R N : Nat → Int32} {p w : Nat} {fn : Int32} {T W O S : Nat → Int32}
theorem cs_who (hp : p ≤ 513) (hw : w < p) (ew : R 3 = nI w) (vw : cs_View H V L T W w 3) (hr : ∀ r, r < 3 → cs_Rd p H V L R N T W O S r) (who : Int32) :
    ((∀ post : Int32 → Prop, post 0 → wpX_isViewing post (cr, cn, pw, H, V, L, C, R, N) who) ∧ (∀ post : Int32 → Prop, post 0 → wpY_sees post (fn, T, W, O, S) who)) ∨
    (∃ b q : Nat, b < 4 ∧ q < p ∧ who = nI b ∧ R b = nI q ∧ cs_View H V L T W q b ∧
      (∀ post : Int32 → Prop, post 1 → wpX_isViewing post (cr, cn, pw, H, V, L, C, R, N) who) ∧ (∀ post : Int32 → Prop, post 1 → wpY_sees post (fn, T, W, O, S) who)) := by
  rcases pk_ix who (n := 4) (by decide) with h | h | ⟨b, hb, rfl⟩
  · have h3 : ¬ who = 3 := by
      intro e
      subst e
      exact absurd h (by decide)
    exact Or.inl ⟨fun post g => br_t h g, fun post g => br_f h3 (cs_rYf (Or.inl h) (br_t rfl g))⟩
  · have h3 : ¬ who = 3 := by
      intro e
      subst e
      exact absurd h (nI_ge (a := 3) (b := 4) (by decide) (by decide))
    have h4 : nI 3 ≤ who := Int32.le_trans (nI_le (a := 3) (b := 4) (by decide) (by decide)) h
    have h0 : ¬ who < 0 := by
      intro z
      have z2 : nI 4 < 0 := Int32.lt_of_le_of_lt h z
      exact nI_pos (n := 4) (by decide) z2
    exact Or.inl ⟨fun post g => br_f h0 (br_t h g), fun post g => br_f h3 (cs_rYf (Or.inr h4) (br_t rfl g))⟩
  · have i0 : ¬ nI b < 0 := nI_pos (by omega)
    have i4 : ¬ (4 : Int32) ≤ nI b := nI_ge (b := 4) hb (by decide)
    have iv : vp_in (nI b) 4 := vp_in_nI hb (by decide)
    have ic : (nI b).toNatClampNeg = b := nI_clamp (by omega)
    by_cases e : b = 3
    · subst e
      refine Or.inr ⟨3, w, by omega, hw, rfl, ew, vw, fun post g => br_f i0 (br_f i4 ⟨iv, ?_⟩), fun post g => br_t rfl g⟩
      rw [ic, ew]
      exact br_f (cs_m1 (by omega)) g
    · have h3 : ¬ nI b = 3 := cs_ne (b := 3) e (by omega) (by decide)
      have iv3 : vp_in (nI b) 3 := vp_in_nI (by omega) (by decide)
      rcases hr b (by omega) with ⟨r1, r2⟩ | ⟨q, hq, r1, r2, _, r4⟩
      · refine Or.inl ⟨fun post g => br_f i0 (br_f i4 ⟨iv, ?_⟩), fun post g => br_f h3 (cs_rYt (by omega) (br_f cs_01 ⟨iv3, ?_⟩))⟩
        · rw [ic, r1]
          exact br_t rfl g
        · rw [ic, r2]
          exact br_t rfl g
      · refine Or.inr ⟨b, q, hb, hq, rfl, r1, r4, fun post g => br_f i0 (br_f i4 ⟨iv, ?_⟩), fun post g => br_f h3 (cs_rYt (by omega) (br_f cs_01 ⟨iv3, ?_⟩))⟩
        · rw [ic, r1]
          exact br_f (cs_m1 (by omega)) g
        · rw [ic, r2]
          exact br_f cs_01 g
/-- a reader alone -/
theorem cs_rdr (hp : p ≤ 513) {b : Nat} (hb : b < 3) (hr : cs_Rd p H V L R N T W O S b) :
    (O b = 0 ∧ ∀ post : Int32 → Prop, post 0 → wpX_isViewing post (cr, cn, pw, H, V, L, C, R, N) (nI b)) ∨
    (O b = 1 ∧ S b = N b ∧ ∀ post : Int32 → Prop, post 1 → wpX_isViewing post (cr, cn, pw, H, V, L, C, R, N) (nI b)) := by
  have i0 : ¬ nI b < 0 := nI_pos (by omega)
  have i4 : ¬ (4 : Int32) ≤ nI b := nI_ge (b := 4) (by omega) (by decide)
  have iv : vp_in (nI b) 4 := vp_in_nI (by omega) (by decide)
  have ic : (nI b).toNatClampNeg = b := nI_clamp (by omega)
  rcases hr with ⟨r1, r2⟩ | ⟨q, hq, r1, r2, r3, _⟩
  · refine Or.inl ⟨r2, fun post g => br_f i0 (br_f i4 ⟨iv, ?_⟩)⟩
    rw [ic, r1]
    exact br_t rfl g
  · refine Or.inr ⟨r2, r3, fun post g => br_f i0 (br_f i4 ⟨iv, ?_⟩)⟩
    rw [ic, r1]
    exact br_f (cs_m1 (by omega)) g
theorem cs_has (hp : p ≤ 513) (h01 : ∀ j, H j = 0 ∨ H j = 1) (hL : cs_Leaf p L) (hw : w < p) (ew : R 3 = nI w) (vw : cs_View H V L T W w 3) (hr : ∀ r, r < 3 → cs_Rd p H V L R N T W O S r) (who key : Int32) :
    ((∀ post : Int32 → Prop, post 0 → wpX_has post (cr, cn, pw, H, V, L, C, R, N) who key) ∧ (∀ post : Int32 → Prop, post 0 → wpY_has post (fn, T, W, O, S) who key)) ∨
    (∃ b q j : Nat, b < 4 ∧ q < p ∧ j < 100 ∧ who = nI b ∧ key = nI j ∧ R b = nI q ∧ cs_View H V L T W q b ∧ ¬ H (cs_ce L q j) = 0 ∧
      (∀ post : Int32 → Prop, post 1 → wpX_has post (cr, cn, pw, H, V, L, C, R, N) who key) ∧ (∀ post : Int32 → Prop, post 1 → wpY_has post (fn, T, W, O, S) who key)) := by
  unfold wpX_has wpY_has
  dsimp only
  rcases cs_who (cr := cr) (cn := cn) (pw := pw) (C := C) (fn := fn) hp hw ew vw hr who with ⟨hX, hY⟩ | ⟨b, q, hb, hq, rfl, eR, hv, hX, hY⟩
  · refine Or.inl ⟨fun post g => hX _ (br_t rfl g), fun post g => ?_⟩
    rcases pk_ix key (n := 100) (by decide) with h | h | ⟨j, hj, rfl⟩
    · exact cs_kYf (Or.inl h) (br_t rfl g)
    · exact cs_kYf (Or.inr h) (br_t rfl g)
    · exact cs_kYt hj (br_f cs_01 (hY _ (br_t rfl g)))
  · have ic : (nI b).toNatClampNeg = b := nI_clamp (by omega)
    have iv : vp_in (nI b) 4 := vp_in_nI hb (by decide)
    rcases pk_ix key (n := 100) (by decide) with h | h | ⟨j, hj, rfl⟩
    · exact Or.inl ⟨fun post g => hX _ (br_f cs_01 (cs_kXf (Or.inl h) (br_t rfl g))), fun post g => cs_kYf (Or.inl h) (br_t rfl g)⟩
    · exact Or.inl ⟨fun post g => hX _ (br_f cs_01 (cs_kXf (Or.inr h) (br_t rfl g))), fun post g => cs_kYf (Or.inr h) (br_t rfl g)⟩
    · obtain ⟨v1, v2⟩ := hv j hj
      have jv : vp_in (nI b * 100 + nI j) 500 := pk_in (b * 100 + j) 500 (by omega) (cs_ix b 100 j)
      have jc : (nI b * 100 + nI j).toNatClampNeg = b * 100 + j := pk_cl (b * 100 + j) (cs_ix b 100 j)
      by_cases z : H (cs_ce L q j) = 0
      · refine Or.inl ⟨fun post g => hX _ (br_f cs_01 (cs_kXt hj (br_f cs_01 ⟨iv, ?_⟩))), fun post g => cs_kYt hj (br_f cs_01 (hY _ (br_f cs_01 ⟨jv, ?_⟩)))⟩
        · rw [ic, eR]
          exact cs_holds h01 hL hp hq hj (br_t z g)
        · rw [jc, v1]
          exact br_t z g
      · refine Or.inr ⟨b, q, j, hb, hq, hj, rfl, rfl, eR, hv, z, fun post g => hX _ (br_f cs_01 (cs_kXt hj (br_f cs_01 ⟨iv, ?_⟩))), fun post g => cs_kYt hj (br_f cs_01 (hY _ (br_f cs_01 ⟨jv, ?_⟩)))⟩
        · rw [ic, eR]
          exact cs_holds h01 hL hp hq hj (br_f z g)
        · rw [jc, v1]
          exact br_f z g
theorem cs_next (hp : p ≤ 513) (h01 : ∀ j, H j = 0 ∨ H j = 1) (hL : cs_Leaf p L) {b q : Nat} (hb : b < 4) (hq : q < p) (eR : R b = nI q) (hv : cs_View H V L T W q b) (x : Int32) : ∀ d j : Nat, j + d = 100 → ∃ r : Int32,
    (∀ post : Int32 → Prop, post r → wX_next_12 post (nI b) x cr cn pw H V L C R N (d + 1) (nI j)) ∧ (∀ post : Int32 → Prop, post r → wY_next_12 post (nI b) x fn T W O S (d + 1) (nI j)) := by
  intro d
  induction d with
  | zero =>
    intro j hj
    have e : j = 100 := by omega
    subst e
    have h : (100 : Int32) ≤ nI 100 := nI_le (a := 100) (b := 100) (by omega) (by decide)
    exact ⟨-3, fun _ g => br_t h g, fun _ g => br_t h g⟩
  | succ d ih =>
    intro j hj
    have hj2 : j < 100 := by omega
    have h : ¬ (100 : Int32) ≤ nI j := nI_ge (b := 100) hj2 (by decide)
    have ic : (nI b).toNatClampNeg = b := nI_clamp (by omega)
    have iv : vp_in (nI b) 4 := vp_in_nI hb (by decide)
    have jv : vp_in (nI b * 100 + nI j) 500 := pk_in (b * 100 + j) 500 (by omega) (cs_ix b 100 j)
    have jc : (nI b * 100 + nI j).toNatClampNeg = b * 100 + j := pk_cl (b * 100 + j) (cs_ix b 100 j)
    obtain ⟨v1, _⟩ := hv j hj2
    by_cases z0 : nI j ≤ x
    · obtain ⟨r, hX, hY⟩ := ih (j + 1) (by omega)
      exact ⟨r, fun post g => br_f h (br_t z0 (nm_r (nI_1 j) (hX post g))), fun post g => br_f h (br_t z0 (nm_r (nI_1 j) (hY post g)))⟩
    · by_cases z : H (cs_ce L q j) = 0
      · obtain ⟨r, hX, hY⟩ := ih (j + 1) (by omega)
        refine ⟨r, fun post g => br_f h (br_f z0 ⟨iv, ?_⟩), fun post g => br_f h (br_f z0 ⟨jv, ?_⟩)⟩
        · rw [ic, eR]
          exact cs_holds h01 hL hp hq hj2 (br_t z (nm_r (nI_1 j) (hX post g)))
        · rw [jc, v1]
          exact br_t z (nm_r (nI_1 j) (hY post g))
      · refine ⟨nI j, fun post g => br_f h (br_f z0 ⟨iv, ?_⟩), fun post g => br_f h (br_f z0 ⟨jv, ?_⟩)⟩
        · rw [ic, eR]
          exact cs_holds h01 hL hp hq hj2 (br_f z g)
        · rw [jc, v1]
          exact br_f z g
end
end
section
/-! the relation over the steps -/
section
variable {cr cn pw : Int32} {H V L C R N : Nat → Int32} {p w k : Nat} {fn : Int32} {T W O S : Nat → Int32}
theorem cs_vS {q : Nat} (f t : Nat) (h : cs_View H V L T W q f) : cs_View H V L (cs_cp T (f * 100) (t * 100) 100) (cs_cp W (f * 100) (t * 100) 100) q t := by
  intro j hj
  rw [cs_cpI hj, cs_cpI hj]
  exact h j hj
theorem cs_vO {q b : Nat} (f t : Nat) (hb : b ≠ t) (h : cs_View H V L T W q b) : cs_View H V L (cs_cp T (f * 100) (t * 100) 100) (cs_cp W (f * 100) (t * 100) 100) q b := by
  intro j hj
  rw [cs_cpO (by omega), cs_cpO (by omega)]
  exact h j hj
theorem cs_rdT {p' : Nat} {H' V' L' R' N' T' W' O' S' : Nat → Int32} {r : Nat} (hp : p ≤ p') (eR : R' r = R r) (eN : N' r = N r) (eO : O' r = O r) (eS : S' r = S r)
    (hv : ∀ q, q < p → cs_View H V L T W q r → cs_View H' V' L' T' W' q r) (h : cs_Rd p H V L R N T W O S r) : cs_Rd p' H' V' L' R' N' T' W' O' S' r := by
  rcases h with ⟨h1, h2⟩ | ⟨q, hq, h1, h2, h3, h4⟩
  · exact Or.inl ⟨eR.trans h1, eO.trans h2⟩
  · exact Or.inr ⟨q, by omega, eR.trans h1, eO.trans h2, by rw [eS, eN, h3], hv q hq h4⟩
theorem cs_sCommit (h : cs_Rel k cr cn pw H V L C R N fn T W O S) :
    cs_Rel k (R 3) (cn + 1) pw H V L C R N (fn + 1) (cs_cp T (3 * 100) (4 * 100) 100) (cs_cp W (3 * 100) (4 * 100) 100) O S := by
  obtain ⟨e, t, p, c, w, hp, hI, ⟨c1, c2, c3⟩, ⟨w1, w2, w3⟩, hr⟩ := h
  exact ⟨by rw [e], cs_cp01 t _ _ _, p, w, w, hp, hI, ⟨w1, w2, cs_vS 3 4 w3⟩, ⟨w1, w2, cs_vO 3 4 (by decide) w3⟩,
    fun r hr3 => cs_rdT (Nat.le_refl p) rfl rfl rfl rfl (fun q _ hv => cs_vO 3 4 (by omega) hv) (hr r hr3)⟩
theorem cs_sAbort (h : cs_Rel k cr cn pw H V L C R N fn T W O S) :
    cs_Rel k cr cn pw H V L C (upd R 3 cr) N fn (cs_cp T (4 * 100) (3 * 100) 100) (cs_cp W (4 * 100) (3 * 100) 100) O S := by
  obtain ⟨e, t, p, c, w, hp, hI, ⟨c1, c2, c3⟩, ⟨w1, w2, w3⟩, hr⟩ := h
  exact ⟨e, cs_cp01 t _ _ _, p, c, c, hp, hI, ⟨c1, c2, cs_vO 4 3 (by decide) c3⟩, ⟨c1, by rw [pk_us]; exact c2, cs_vS 4 3 c3⟩,
    fun r hr3 => cs_rdT (Nat.le_refl p) (pk_un (by omega)) rfl rfl rfl (fun q _ hv => cs_vO 4 3 (by omega) hv) (hr r hr3)⟩
theorem cs_sOpen {j : Nat} (hj : j < 3) (h : cs_Rel k cr cn pw H V L C R N fn T W O S) :
    cs_Rel k cr cn pw H V L C (upd R j cr) (upd N j cn) fn (cs_cp T (4 * 100) (j * 100) 100) (cs_cp W (4 * 100) (j * 100) 100) (upd O j 1) (upd S j fn) := by
  obtain ⟨e, t, p, c, w, hp, hI, ⟨c1, c2, c3⟩, ⟨w1, w2, w3⟩, hr⟩ := h
  refine ⟨e, cs_cp01 t _ _ _, p, c, w, hp, hI, ⟨c1, c2, cs_vO 4 j (by omega) c3⟩, ⟨w1, by rw [pk_un (by omega)]; exact w2, cs_vO 4 j (by omega) w3⟩, ?_⟩
  intro r hr3
  by_cases ej : r = j
  · subst ej
    exact Or.inr ⟨c, c1, by rw [pk_us]; exact c2, pk_us, by rw [pk_us, pk_us]; exact e, cs_vS 4 r c3⟩
  · exact cs_rdT (Nat.le_refl p) (pk_un ej) (pk_un ej) (pk_un ej) (pk_un ej) (fun q _ hv => cs_vO 4 j ej hv) (hr r hr3)
theorem cs_sClose {j : Nat} (hj : j < 3) (h : cs_Rel k cr cn pw H V L C R N fn T W O S) :
    cs_Rel k cr cn pw H V L C (upd R j (-1)) N fn T W (upd O j 0) S := by
  obtain ⟨e, t, p, c, w, hp, hI, hc, ⟨w1, w2, w3⟩, hr⟩ := h
  refine ⟨e, t, p, c, w, hp, hI, hc, ⟨w1, by rw [pk_un (by omega)]; exact w2, w3⟩, ?_⟩
  intro r hr3
  by_cases ej : r = j
  · subst ej
    exact Or.inl ⟨pk_us, pk_us⟩
  · exact cs_rdT (Nat.le_refl p) (pk_un ej) rfl (pk_un ej) rfl (fun q _ hv => hv) (hr r hr3)
theorem cs_sChg {c key l : Nat} {h x : Int32} {T' W' : Nat → Int32} (hp : p < 513) (p1 : 1 ≤ p) (p2 : 3 * p ≤ k + 3) (hI : cs_Inv p H L C) (t : ∀ j, T j = 0 ∨ T j = 1) (ef : fn = cn)
    (hc : c < p ∧ cr = nI c ∧ cs_View H V L T W c 4) (w1 : w < p) (w3 : cs_View H V L T W w 3) (hr : ∀ r, r < 3 → cs_Rd p H V L R N T W O S r)
    (hl : l < p) (el : L (w * 10 + key / 10) = nI l) (hk : key < 100) (hh : h = 0 ∨ h = 1)
    (hf : H (cs_ce L w key) = 0 → h = 0 ∨ cs_cnt (fun k => H (cs_ce L w k)) 100 < 24)
    (hT : ∀ j, j ≠ 3 * 100 + key → T' j = T j) (hW : ∀ j, j ≠ 3 * 100 + key → W' j = W j) (tk : T' (3 * 100 + key) = h) (wk : h = 0 ∨ W' (3 * 100 + key) = x) :
    cs_Rel (k + 3) cr cn (nI (p + 1)) (cs_n H l p (key % 10) h) (cs_n V l p (key % 10) x) (cs_n L w p (key / 10) (nI p)) (upd C p (C w + (h - H (cs_ce L w key)))) (upd R 3 (nI p)) N fn T' W' O S := by
  obtain ⟨c1, c2, c3⟩ := hc
  have hL := hI.2.1
  refine ⟨ef, ?_, p + 1, c, p, ⟨by omega, by omega, rfl⟩, cs_inv2 hp hI w1 hl el hk hh hf,
    ⟨by omega, c2, cs_viewO hp hL c1 (fun j hj => hT _ (by omega)) (fun j hj => hW _ (by omega)) c3⟩,
    ⟨by omega, pk_us, cs_viewN hp hL w1 hl el hk (fun j hj => hT _ (by omega)) (fun j hj => hW _ (by omega)) tk wk w3⟩, ?_⟩
  · intro j
    by_cases e : j = 3 * 100 + key
    · rw [e, tk]; exact hh
    · rw [hT j e]; exact t j
  · intro r hr3
    exact cs_rdT (Nat.le_succ p) (pk_un (by omega)) rfl rfl rfl
      (fun q hq hv => cs_viewO hp hL hq (fun j hj => hT _ (by omega)) (fun j hj => hW _ (by omega)) hv) (hr r hr3)
end
/-- the start -/
theorem cs_s0 : cs_Rel 0 0 0 1 (fun _ => 0) (fun _ => 0) (fun _ => 0) (fun _ => 0) (upd (upd (upd (upd (fun _ => 0) 3 0) 0 (-1)) 1 (-1)) 2 (-1)) (fun _ => 0) 0 (fun _ => 0) (fun _ => 0) (fun _ => 0) (fun _ => 0) := by
  have hv : ∀ q b : Nat, cs_View (fun _ => 0) (fun _ => 0) (fun _ => 0) (fun _ => 0) (fun _ => 0) q b := fun q b j hj => ⟨rfl, Or.inl rfl⟩
  refine ⟨rfl, fun _ => Or.inl rfl, 1, 0, 0, ⟨Nat.le_refl 1, Nat.le_refl 3, rfl⟩, ⟨fun _ => Or.inl rfl, fun q hq i hi => ⟨0, by omega, rfl⟩, fun q hq => ⟨?_, ?_⟩⟩, ⟨by omega, rfl, hv 0 4⟩, ⟨by omega, ?_, hv 0 3⟩, ?_⟩
  · rw [cs_cnt0 100]; omega
  · rw [cs_cnt0 100]; rfl
  · rw [pk_un (by omega), pk_un (by omega), pk_un (by omega), pk_us]; rfl
  · intro r hr
    refine Or.inl ⟨?_, rfl⟩
    by_cases e2 : r = 2
    · rw [e2, pk_us]
    · rw [pk_un e2]
      by_cases e1 : r = 1
      · rw [e1, pk_us]
      · rw [pk_un e1]
        have e0 : r = 0 := by omega
        rw [e0, pk_us]
/-- closing the readers: both loops -/
theorem cs_closeX {post : SX → Prop} {cr cn pw : Int32} {H V L C R N : Nat → Int32}
    (h : post (cr, cn, pw, H, V, L, C, upd (upd (upd R 0 (-1)) 1 (-1)) 2 (-1), N)) : wpX_closeReaders post (cr, cn, pw, H, V, L, C, R, N) := by
  refine ⟨4, ?_⟩
  refine br_f (by decide) ⟨pk_in 0 4 (by decide), nm_r (e' := upd R 0 (-1)) rfl (nm_r (e' := nI 1) rfl ?_)⟩
  refine br_f (by decide) ⟨pk_in 1 4 (by decide), nm_r (e' := upd (upd R 0 (-1)) 1 (-1)) rfl (nm_r (e' := nI 2) rfl ?_)⟩
  refine br_f (by decide) ⟨pk_in 2 4 (by decide), nm_r (e' := upd (upd (upd R 0 (-1)) 1 (-1)) 2 (-1)) rfl (nm_r (e' := nI 3) rfl ?_)⟩
  exact br_t (by decide) h
theorem cs_closeY {post : Int32 → SY → Prop} {fn : Int32} {T W O S : Nat → Int32}
    (h : post fn (fn, T, W, upd (upd (upd O 0 0) 1 0) 2 0, S)) : wY_crash_28 post fn 4 0 T W O S := by
  refine br_f (by decide) ⟨pk_in 0 3 (by decide), nm_r (e' := upd O 0 0) rfl (nm_r (e' := nI 1) rfl ?_)⟩
  refine br_f (by decide) ⟨pk_in 1 3 (by decide), nm_r (e' := upd (upd O 0 0) 1 0) rfl (nm_r (e' := nI 2) rfl ?_)⟩
  refine br_f (by decide) ⟨pk_in 2 3 (by decide), nm_r (e' := upd (upd (upd O 0 0) 1 0) 2 0) rfl (nm_r (e' := nI 3) rfl ?_)⟩
  exact br_t (by decide) h
end
section
theorem i_vc0 : wpX_init (fun u => wpY_init (fun v => i_Rel 0 u v)) := by
  unfold wpX_init
  refine nm_e ?_
  exact cs_closeX (post := fun u => wpY_init (fun v => i_Rel 0 u v)) cs_s0
theorem cs_free {post : Int32 → Prop} {cr cn : Int32} {H V L C R N : Nat → Int32} {p : Nat} (hp : p < 513) (h : post 1) : wpX_hasFreePage post (cr, cn, nI p, H, V, L, C, R, N) :=
  br_f (nI_ge (b := 513) hp (by decide)) h
theorem cs_300 (j : Nat) : 300 + nI j = nI (3 * 100 + j) := nI_add 300 j
theorem i_vc_put {k : Nat} {u : SX} {v : SY} (I : i_Rel k u v) (hk : k + 3 ≤ 1536) (v1 : Int32) (v2 : Int32) : wpX_put (fun r u' => wpY_put (fun r' v' => r' = r ∧ i_Rel (k + 3) u' v') v v1 v2) u v1 v2 := by
  obtain ⟨cr, cn, pw, H, V, L, C, R, N⟩ := u
  obtain ⟨fn, T, W, O, S⟩ := v
  have J := i_up I
  obtain ⟨ef, t, p, c, w, ⟨p1, p2, rfl⟩, hI, hc, ⟨w1, w2, w3⟩, hr⟩ := I
  have hp : p < 513 := by omega
  obtain ⟨h01, hL, hS⟩ := id hI
  unfold wpX_put wpY_put
  dsimp only
  rcases pk_ix v1 (n := 100) (by decide) with h | h | ⟨key, hkey, rfl⟩
  · exact cs_kXf (Or.inl h) (br_t rfl (cs_kYf (Or.inl h) (br_t rfl ⟨rfl, J⟩)))
  · exact cs_kXf (Or.inr h) (br_t rfl (cs_kYf (Or.inr h) (br_t rfl ⟨rfl, J⟩)))
  · obtain ⟨l, hl, el⟩ := hL w w1 (key / 10) (by omega)
    obtain ⟨s1, s2⟩ := hS w w1
    obtain ⟨t1, t2⟩ := w3 key hkey
    have yv : vp_in (300 + nI key) 500 := pk_in (3 * 100 + key) 500 (by omega) (cs_300 key)
    have yc : (300 + nI key).toNatClampNeg = 3 * 100 + key := pk_cl (3 * 100 + key) (cs_300 key)
    have sees : ∀ post : Int32 → Prop, post 1 → wpY_sees post (fn, T, W, O, S) (nI 3) := fun post g => br_t rfl g
    have ec : cs_cnt (fun k => T (3 * 100 + k)) 100 = cs_cnt (fun k => H (cs_ce L w k)) 100 := cs_cntC 100 (fun j hj => (w3 j hj).1)
    have chg : (H (cs_ce L w key) = 0 → cs_cnt (fun k => H (cs_ce L w k)) 100 < 24) → cs_Rel (k + 3) cr cn (nI (p + 1)) (cs_n H l p (key % 10) 1) (cs_n V l p (key % 10) v2) (cs_n L w p (key / 10) (nI p)) (upd C p (C w + (1 - H (cs_ce L w key)))) (upd R 3 (nI p)) N fn (upd T (3 * 100 + key) 1) (upd W (3 * 100 + key) v2) O S := fun hf =>
      cs_sChg hp p1 p2 hI t ef hc w1 w3 hr hl el hkey (Or.inr rfl) (fun z => Or.inr (hf z)) (fun j hj => pk_un hj) (fun j hj => pk_un hj) pk_us (Or.inr pk_us)
    refine cs_kXt hkey (br_f cs_01 ?_)
    rw [w2]
    refine cs_holds h01 hL (by omega) w1 hkey ?_
    by_cases z : H (cs_ce L w key) = 0
    · refine br_t z ⟨vp_in_nI (by omega) (by decide), ?_⟩
      rw [nI_clamp (by omega), s2]
      by_cases f : cs_cnt (fun k => H (cs_ce L w k)) 100 < 24
      · have f2 : nI (cs_cnt (fun k => H (cs_ce L w k)) 100) < 24 := nI_lt (b := 24) f (by decide)
        have f3 : ¬ nI (cs_cnt (fun k => H (cs_ce L w k)) 100) = 24 := cs_ne (b := 24) (by omega) (by omega) (by decide)
        refine br_t f2 ?_
        unfold wX_put_44
        refine cs_free hp (br_f cs_01 (cs_wc h01 hp w1 w2 hl el hkey (Or.inr rfl) (br_t z ?_)))
        refine cs_kYt hkey (br_f cs_01 ⟨yv, nm_r (e' := 0) (by rw [yc, t1, z]) (br_t rfl ?_)⟩)
        refine cs_sizeY (b := 3) (by decide) sees ?_
        rw [ec]
        refine br_f f3 ?_
        exact ⟨yv, nm_r (e' := upd T (3 * 100 + key) 1) (by rw [yc]; rfl) ⟨yv, nm_r (e' := upd W (3 * 100 + key) v2) (by rw [yc]) (br_t rfl ⟨rfl, chg (fun _ => f)⟩)⟩⟩
      · have f1 : cs_cnt (fun k => H (cs_ce L w k)) 100 = 24 := by omega
        rw [f1]
        refine br_f (nI_nlt (a := 24) (b := 24) (by decide) (by decide)) ?_
        refine cs_kYt hkey (br_f cs_01 ⟨yv, nm_r (e' := 0) (by rw [yc, t1, z]) (br_t rfl ?_)⟩)
        refine cs_sizeY (b := 3) (by decide) sees ?_
        rw [ec, f1]
        exact br_t rfl ⟨rfl, J⟩
    · refine br_f z ?_
      unfold wX_put_44
      refine cs_free hp (br_f cs_01 (cs_wc h01 hp w1 w2 hl el hkey (Or.inr rfl) (br_f z ?_)))
      refine cs_kYt hkey (br_f cs_01 ⟨yv, nm_r (e' := H (cs_ce L w key)) (by rw [yc, t1]) (br_f z ?_)⟩)
      exact ⟨yv, nm_r (e' := upd T (3 * 100 + key) 1) (by rw [yc]; rfl) ⟨yv, nm_r (e' := upd W (3 * 100 + key) v2) (by rw [yc]) (br_f z ⟨rfl, chg (fun z2 => absurd z2 z)⟩)⟩⟩
theorem i_vc_erase {k : Nat} {u : SX} {v : SY} (I : i_Rel k u v) (hk : k + 3 ≤ 1536) (v1 : Int32) : wpX_erase (fun r u' => wpY_erase (fun r' v' => r' = r ∧ i_Rel (k + 3) u' v') v v1) u v1 := by
  obtain ⟨cr, cn, pw, H, V, L, C, R, N⟩ := u
  obtain ⟨fn, T, W, O, S⟩ := v
  have J := i_up I
  obtain ⟨ef, t, p, c, w, ⟨p1, p2, rfl⟩, hI, hc, ⟨w1, w2, w3⟩, hr⟩ := I
  have hp : p < 513 := by omega
  obtain ⟨h01, hL, hS⟩ := id hI
  unfold wpX_erase wpY_erase
  dsimp only
  rcases pk_ix v1 (n := 100) (by decide) with h | h | ⟨key, hkey, rfl⟩
  · exact cs_kXf (Or.inl h) (br_t rfl (cs_kYf (Or.inl h) (br_t rfl ⟨rfl, J⟩)))
  · exact cs_kXf (Or.inr h) (br_t rfl (cs_kYf (Or.inr h) (br_t rfl ⟨rfl, J⟩)))
  · obtain ⟨l, hl, el⟩ := hL w w1 (key / 10) (by omega)
    obtain ⟨t1, t2⟩ := w3 key hkey
    have yv : vp_in (300 + nI key) 500 := pk_in (3 * 100 + key) 500 (by omega) (cs_300 key)
    have yc : (300 + nI key).toNatClampNeg = 3 * 100 + key := pk_cl (3 * 100 + key) (cs_300 key)
    refine cs_kXt hkey (br_f cs_01 ?_)
    rw [w2]
    refine cs_holds h01 hL (by omega) w1 hkey ?_
    by_cases z : H (cs_ce L w key) = 0
    · refine br_t z (cs_kYt hkey (br_f cs_01 ⟨yv, ?_⟩))
      rw [yc, t1]
      refine br_t z ⟨yv, nm_r (e' := T) ?_ ⟨rfl, J⟩⟩
      rw [yc]
      funext j
      by_cases e : j = 3 * 100 + key
      · rw [e, pk_us, t1, z]; rfl
      · exact pk_un e
    · refine br_f z (cs_free hp (br_f cs_01 (cs_wc h01 hp w1 w2 hl el hkey (Or.inl rfl) (cs_kYt hkey (br_f cs_01 ⟨yv, ?_⟩)))))
      rw [yc, t1]
      refine br_f z ⟨yv, nm_r (e' := upd T (3 * 100 + key) 0) (by rw [yc]; rfl) ⟨rfl, ?_⟩⟩
      exact cs_sChg hp p1 p2 hI t ef hc w1 w3 hr hl el hkey (Or.inl rfl) (fun _ => Or.inl rfl) (fun j hj => pk_un hj) (fun j hj => rfl) pk_us (Or.inl rfl)
theorem i_vc_has {k : Nat} {u : SX} {v : SY} (I : i_Rel k u v) (hk : k + 3 ≤ 1536) (v1 : Int32) (v2 : Int32) : wpX_has (fun r => wpY_has (fun r' => r' = r ∧ i_Rel (k + 3) u v) v v1 v2) u v1 v2 := by
  obtain ⟨cr, cn, pw, H, V, L, C, R, N⟩ := u
  obtain ⟨fn, T, W, O, S⟩ := v
  have J := i_up I
  obtain ⟨ef, t, p, c, w, ⟨p1, p2, rfl⟩, ⟨h01, hL, hS⟩, hc, ⟨w1, w2, w3⟩, hr⟩ := I
  rcases cs_has (cr := cr) (cn := cn) (pw := nI p) (C := C) (fn := fn) (by omega) h01 hL w1 w2 w3 hr v1 v2 with ⟨hX, hY⟩ | ⟨b, q, j, hb, hq, hj, rfl, rfl, eR, hv, z, hX, hY⟩
  · exact hX _ (hY _ ⟨rfl, J⟩)
  · exact hX _ (hY _ ⟨rfl, J⟩)
theorem i_vc_get {k : Nat} {u : SX} {v : SY} (I : i_Rel k u v) (hk : k + 3 ≤ 1536) (v1 : Int32) (v2 : Int32) : wpX_get (fun r => wpY_get (fun r' => r' = r ∧ i_Rel (k + 3) u v) v v1 v2) u v1 v2 := by
  obtain ⟨cr, cn, pw, H, V, L, C, R, N⟩ := u
  obtain ⟨fn, T, W, O, S⟩ := v
  have J := i_up I
  obtain ⟨ef, t, p, c, w, ⟨p1, p2, rfl⟩, ⟨h01, hL, hS⟩, hc, ⟨w1, w2, w3⟩, hr⟩ := I
  unfold wpX_get wpY_get
  dsimp only
  rcases cs_has (cr := cr) (cn := cn) (pw := nI p) (C := C) (fn := fn) (by omega) h01 hL w1 w2 w3 hr v1 v2 with ⟨hX, hY⟩ | ⟨b, q, j, hb, hq, hj, rfl, rfl, eR, hv, z, hX, hY⟩
  · exact hX _ (br_t rfl (hY _ (br_t rfl ⟨rfl, J⟩)))
  · refine hX _ (br_f cs_01 ⟨vp_in_nI hb (by decide), ?_⟩)
    rw [nI_clamp (by omega), eR]
    have hce := cs_ceL hL (by omega) hq hj
    refine cs_cellOf hL (by omega) hq hj ⟨vp_in_nI (by omega) (by decide), ?_⟩
    refine hY _ (br_f cs_01 ⟨pk_in (b * 100 + j) 500 (by omega) (cs_ix b 100 j), ?_, J⟩)
    rw [cs_ix b 100 j, nI_clamp (by omega), nI_clamp (by omega)]
    exact (hv j hj).2.resolve_left z
theorem i_vc_next {k : Nat} {u : SX} {v : SY} (I : i_Rel k u v) (hk : k + 3 ≤ 1536) (v1 : Int32) (v2 : Int32) : wpX_next (fun r => wpY_next (fun r' => r' = r ∧ i_Rel (k + 3) u v) v v1 v2) u v1 v2 := by
  obtain ⟨cr, cn, pw, H, V, L, C, R, N⟩ := u
  obtain ⟨fn, T, W, O, S⟩ := v
  have J := i_up I
  obtain ⟨ef, t, p, c, w, ⟨p1, p2, rfl⟩, ⟨h01, hL, hS⟩, hc, ⟨w1, w2, w3⟩, hr⟩ := I
  unfold wpX_next wpY_next
  dsimp only
  rcases cs_who (cr := cr) (cn := cn) (pw := nI p) (C := C) (fn := fn) (by omega) w1 w2 w3 hr v1 with ⟨hX, hY⟩ | ⟨b, q, hb, hq, rfl, eR, hv, hX, hY⟩
  · exact hX _ (br_t rfl (hY _ (br_t rfl ⟨rfl, J⟩)))
  · obtain ⟨r, gX, gY⟩ := cs_next (cr := cr) (cn := cn) (pw := nI p) (C := C) (N := N) (fn := fn) (O := O) (S := S) (by omega) h01 hL hb hq eR hv v2 100 0 rfl
    rw [nI_0] at gX gY
    exact hX _ (br_f cs_01 ⟨_, gX _ (hY _ (br_f cs_01 ⟨_, gY _ ⟨rfl, J⟩⟩))⟩)
theorem i_vc_size {k : Nat} {u : SX} {v : SY} (I : i_Rel k u v) (hk : k + 3 ≤ 1536) (v1 : Int32) : wpX_size (fun r => wpY_size (fun r' => r' = r ∧ i_Rel (k + 3) u v) v v1) u v1 := by
  obtain ⟨cr, cn, pw, H, V, L, C, R, N⟩ := u
  obtain ⟨fn, T, W, O, S⟩ := v
  have J := i_up I
  obtain ⟨ef, t, p, c, w, ⟨p1, p2, rfl⟩, ⟨h01, hL, hS⟩, hc, ⟨w1, w2, w3⟩, hr⟩ := I
  unfold wpX_size
  dsimp only
  rcases cs_who (cr := cr) (cn := cn) (pw := nI p) (C := C) (fn := fn) (by omega) w1 w2 w3 hr v1 with ⟨hX, hY⟩ | ⟨b, q, hb, hq, rfl, eR, hv, hX, hY⟩
  · refine hX _ (br_t rfl ?_)
    unfold wpY_size
    dsimp only
    exact hY _ (br_t rfl ⟨rfl, J⟩)
  · refine hX _ (br_f cs_01 ⟨vp_in_nI hb (by decide), ?_⟩)
    rw [nI_clamp (by omega), eR]
    refine ⟨vp_in_nI (by omega) (by decide), ?_⟩
    refine cs_sizeY hb hY ⟨?_, J⟩
    rw [nI_clamp (by omega), (hS q hq).2, cs_cntC 100 (fun j hj => (hv j hj).1)]
theorem i_vc_commit {k : Nat} {u : SX} {v : SY} (I : i_Rel k u v) (hk : k + 3 ≤ 1536) : wpX_commit (fun r u' => wpY_commit (fun r' v' => r' = r ∧ i_Rel (k + 3) u' v') v) u := by
  obtain ⟨cr, cn, pw, H, V, L, C, R, N⟩ := u
  obtain ⟨fn, T, W, O, S⟩ := v
  have J : cs_Rel (k + 3) _ _ _ _ _ _ _ _ _ _ _ _ _ _ := i_up I
  unfold wpX_commit wpY_commit
  dsimp only
  refine nm_e (nm_e ?_)
  refine cs_copyY 3 4 (by decide) (by decide) (by decide) J.2.1 (nm_e ⟨by rw [J.1], ?_⟩)
  exact cs_sCommit J
theorem i_vc_abort {k : Nat} {u : SX} {v : SY} (I : i_Rel k u v) (hk : k + 3 ≤ 1536) : wpX_abort (fun r u' => wpY_abort (fun r' v' => r' = r ∧ i_Rel (k + 3) u' v') v) u := by
  obtain ⟨cr, cn, pw, H, V, L, C, R, N⟩ := u
  obtain ⟨fn, T, W, O, S⟩ := v
  have J : cs_Rel (k + 3) _ _ _ _ _ _ _ _ _ _ _ _ _ _ := i_up I
  unfold wpX_abort wpY_abort
  dsimp only
  refine nm_e ?_
  refine cs_copyY 4 3 (by decide) (by decide) (by decide) J.2.1 ⟨J.1, ?_⟩
  exact cs_sAbort J
theorem i_vc_open {k : Nat} {u : SX} {v : SY} (I : i_Rel k u v) (hk : k + 3 ≤ 1536) (v1 : Int32) : wpX_open (fun r u' => wpY_open (fun r' v' => r' = r ∧ i_Rel (k + 3) u' v') v v1) u v1 := by
  obtain ⟨cr, cn, pw, H, V, L, C, R, N⟩ := u
  obtain ⟨fn, T, W, O, S⟩ := v
  have J : cs_Rel (k + 3) _ _ _ _ _ _ _ _ _ _ _ _ _ _ := i_up I
  unfold wpX_open wpY_open
  dsimp only
  rcases pk_ix v1 (n := 3) (by decide) with h | h | ⟨j, hj, rfl⟩
  · exact cs_rXf (Or.inl h) (br_t rfl (cs_rYf (Or.inl h) (br_t rfl ⟨rfl, J⟩)))
  · exact cs_rXf (Or.inr h) (br_t rfl (cs_rYf (Or.inr h) (br_t rfl ⟨rfl, J⟩)))
  · have ic : (nI j).toNatClampNeg = j := nI_clamp (by omega)
    have i3 : vp_in (nI j) 3 := vp_in_nI hj (by decide)
    refine cs_rXt hj (br_f cs_01 ⟨vp_in_nI (by omega) (by decide), nm_r (e' := upd R j cr) (by rw [ic]) ⟨i3, nm_r (e' := upd N j cn) (by rw [ic]) ?_⟩⟩)
    refine cs_rYt hj (br_f cs_01 ?_)
    refine cs_copyY 4 j (by omega) (by decide) (by omega) J.2.1 ⟨i3, nm_r (e' := upd O j 1) (by rw [ic]; rfl) ⟨i3, nm_r (e' := upd S j fn) (by rw [ic]) ⟨J.1, ?_⟩⟩⟩
    exact cs_sOpen hj J
theorem i_vc_close {k : Nat} {u : SX} {v : SY} (I : i_Rel k u v) (hk : k + 3 ≤ 1536) (v1 : Int32) : wpX_close (fun r u' => wpY_close (fun r' v' => r' = r ∧ i_Rel (k + 3) u' v') v v1) u v1 := by
  obtain ⟨cr, cn, pw, H, V, L, C, R, N⟩ := u
  obtain ⟨fn, T, W, O, S⟩ := v
  have J : cs_Rel (k + 3) _ _ _ _ _ _ _ _ _ _ _ _ _ _ := i_up I
  unfold wpX_close wpY_close
  dsimp only
  rcases pk_ix v1 (n := 3) (by decide) with h | h | ⟨j, hj, rfl⟩
  · exact cs_rXf (Or.inl h) (br_t rfl (cs_rYf (Or.inl h) (br_t rfl ⟨rfl, J⟩)))
  · exact cs_rXf (Or.inr h) (br_t rfl (cs_rYf (Or.inr h) (br_t rfl ⟨rfl, J⟩)))
  · have ic : (nI j).toNatClampNeg = j := nI_clamp (by omega)
    have i3 : vp_in (nI j) 3 := vp_in_nI hj (by decide)
    have K := cs_sClose hj J
    obtain ⟨ef, t, p, c, w, ⟨p1, p2, rfl⟩, hI, hc, hw, hr⟩ := I
    refine cs_rXt hj (br_f cs_01 ?_)
    rcases cs_rdr (cr := cr) (cn := cn) (pw := nI p) (C := C) (by omega) hj (hr j hj) with ⟨o, hX⟩ | ⟨o, _, hX⟩
    · refine hX _ ⟨vp_in_nI (by omega) (by decide), nm_r (e' := upd R j (-1)) (by rw [ic]) (br_t rfl ?_)⟩
      refine cs_rYt hj (br_f cs_01 ⟨i3, ?_⟩)
      rw [ic, o]
      exact br_t rfl ⟨i3, nm_r (e' := upd O j 0) (by rw [ic]; rfl) ⟨rfl, K⟩⟩
    · refine hX _ ⟨vp_in_nI (by omega) (by decide), nm_r (e' := upd R j (-1)) (by rw [ic]) (br_f cs_01 ?_)⟩
      refine cs_rYt hj (br_f cs_01 ⟨i3, ?_⟩)
      rw [ic, o]
      exact br_f cs_01 ⟨i3, nm_r (e' := upd O j 0) (by rw [ic]; rfl) ⟨rfl, K⟩⟩
theorem cs_25X {post : Int32 → SX → Prop} {cr cn pw : Int32} {H V L C R N : Nat → Int32}
    (h : post cn (cr, cn, pw, H, V, L, C, upd (upd (upd (upd R 3 cr) 0 (-1)) 1 (-1)) 2 (-1), N)) : wX_crash_25 post cr cn pw H V L C R N := by
  unfold wX_crash_25
  refine nm_e ?_
  refine cs_closeX ?_
  exact h
theorem cs_21Y {post : Int32 → SY → Prop} {fn : Int32} {T W O S : Nat → Int32} (t : ∀ j, T j = 0 ∨ T j = 1)
    (h : post fn (fn, cs_cp T (4 * 100) (3 * 100) 100, cs_cp W (4 * 100) (3 * 100) 100, upd (upd (upd O 0 0) 1 0) 2 0, S)) : wY_crash_21 post fn T W O S := by
  unfold wY_crash_21 wpY_abort
  dsimp only
  refine cs_copyY 4 3 (by decide) (by decide) (by decide) t ⟨4, ?_⟩
  exact cs_closeY h
theorem cs_sCrash {k : Nat} {cr cn pw : Int32} {H V L C R N : Nat → Int32} {fn : Int32} {T W O S : Nat → Int32} (h : cs_Rel k cr cn pw H V L C R N fn T W O S) :
    cs_Rel k cr cn pw H V L C (upd (upd (upd (upd R 3 cr) 0 (-1)) 1 (-1)) 2 (-1)) N fn (cs_cp T (4 * 100) (3 * 100) 100) (cs_cp W (4 * 100) (3 * 100) 100) (upd (upd (upd O 0 0) 1 0) 2 0) S :=
  cs_sClose (by decide) (cs_sClose (by decide) (cs_sClose (by decide) (cs_sAbort h)))
theorem i_vc_crash {k : Nat} {u : SX} {v : SY} (I : i_Rel k u v) (hk : k + 3 ≤ 1536) (v1 : Int32) : wpX_crash (fun r u' => wpY_crash (fun r' v' => r' = r ∧ i_Rel (k + 3) u' v') v v1) u v1 := by
  obtain ⟨cr, cn, pw, H, V, L, C, R, N⟩ := u
  obtain ⟨fn, T, W, O, S⟩ := v
  have J : cs_Rel (k + 3) _ _ _ _ _ _ _ _ _ _ _ _ _ _ := i_up I
  have no : ∀ x : Int32, ¬ x = 1 → ∀ post : Int32 → SX → Prop, post cn (cr, cn, pw, H, V, L, C, upd (upd (upd (upd R 3 cr) 0 (-1)) 1 (-1)) 2 (-1), N) → wX_crash_16 post x cr cn pw H V L C R N := by
    intro x hx post h
    exact br_f hx (cs_25X h)
  unfold wpX_crash wpY_crash
  dsimp only
  rcases pk_ix v1 (n := 3) (by decide) with h | h | ⟨j, hj, rfl⟩
  · have n0 : ¬ v1 = 0 := by
      intro e
      subst e
      exact absurd h (by decide)
    have n1 : ¬ v1 = 1 := by
      intro e
      subst e
      exact absurd h (by decide)
    have n2 : ¬ v1 = 2 := by
      intro e
      subst e
      exact absurd h (by decide)
    exact br_f n0 (br_f n1 (br_f n2 (br_t h ⟨rfl, J⟩)))
  · have n0 : ¬ v1 = 0 := by
      intro e
      subst e
      exact absurd h (by decide)
    have n1 : ¬ v1 = 1 := by
      intro e
      subst e
      exact absurd h (by decide)
    have n2 : ¬ v1 = 2 := by
      intro e
      subst e
      exact absurd h (by decide)
    have n3 : ¬ v1 < 0 := by
      intro z
      have z2 : nI 3 < 0 := Int32.lt_of_le_of_lt h z
      exact nI_pos (n := 3) (by decide) z2
    have n4 : ¬ v1 ≤ 2 := by
      intro z
      have z2 : nI 3 ≤ nI 2 := Int32.le_trans h z
      exact nI_ge (a := 2) (b := 3) (by decide) (by decide) z2
    exact br_f n0 (br_f n1 (br_f n2 (br_f n3 (br_f n4 ⟨rfl, J⟩))))
  · have m0 : ¬ nI j < 0 := nI_pos (by omega)
    have m2 : nI j ≤ 2 := nI_le (b := 2) (by omega) (by decide)
    have e3 : j = 0 ∨ j = 1 ∨ j = 2 := by omega
    rcases e3 with rfl | rfl | rfl
    · refine br_t rfl (no _ (by decide) _ ?_)
      exact br_f m0 (br_t m2 (br_f (by decide) (cs_21Y J.2.1 ⟨J.1, cs_sCrash J⟩)))
    · refine br_f (by decide) (br_t rfl (br_t rfl (nm_e (nm_e (cs_25X ?_)))))
      refine br_f m0 (br_t m2 (br_t rfl ?_))
      have K := cs_sCommit J
      unfold wpY_commit
      dsimp only
      refine cs_copyY 3 4 (by decide) (by decide) (by decide) J.2.1 (nm_e ?_)
      exact cs_21Y K.2.1 ⟨K.1, cs_sCrash K⟩
    · refine br_f (by decide) (br_f (by decide) (br_t rfl (no _ (by decide) _ ?_)))
      exact br_f m0 (br_t m2 (br_f (by decide) (cs_21Y J.2.1 ⟨J.1, cs_sCrash J⟩)))
theorem i_vc_number {k : Nat} {u : SX} {v : SY} (I : i_Rel k u v) (hk : k + 3 ≤ 1536) : wpX_number (fun r => wpY_number (fun r' => r' = r ∧ i_Rel (k + 3) u v) v) u := by
  obtain ⟨cr, cn, pw, H, V, L, C, R, N⟩ := u
  obtain ⟨fn, T, W, O, S⟩ := v
  have J : cs_Rel (k + 3) _ _ _ _ _ _ _ _ _ _ _ _ _ _ := i_up I
  exact ⟨J.1, J⟩
theorem i_vc_seen {k : Nat} {u : SX} {v : SY} (I : i_Rel k u v) (hk : k + 3 ≤ 1536) (v1 : Int32) : wpX_seen (fun r => wpY_seen (fun r' => r' = r ∧ i_Rel (k + 3) u v) v v1) u v1 := by
  obtain ⟨cr, cn, pw, H, V, L, C, R, N⟩ := u
  obtain ⟨fn, T, W, O, S⟩ := v
  have J : cs_Rel (k + 3) _ _ _ _ _ _ _ _ _ _ _ _ _ _ := i_up I
  unfold wpX_seen wpY_seen
  dsimp only
  rcases pk_ix v1 (n := 3) (by decide) with h | h | ⟨j, hj, rfl⟩
  · exact cs_rXf (Or.inl h) (br_t rfl (cs_rYf (Or.inl h) (br_t rfl ⟨rfl, J⟩)))
  · exact cs_rXf (Or.inr h) (br_t rfl (cs_rYf (Or.inr h) (br_t rfl ⟨rfl, J⟩)))
  · have ic : (nI j).toNatClampNeg = j := nI_clamp (by omega)
    have i3 : vp_in (nI j) 3 := vp_in_nI hj (by decide)
    obtain ⟨ef, t, p, c, w, ⟨p1, p2, rfl⟩, hI, hc, hw, hr⟩ := I
    refine cs_rXt hj (br_f cs_01 ?_)
    rcases cs_rdr (cr := cr) (cn := cn) (pw := nI p) (C := C) (by omega) hj (hr j hj) with ⟨o, hX⟩ | ⟨o, s, hX⟩
    · refine hX _ (br_t rfl (cs_rYt hj (br_f cs_01 ⟨i3, ?_⟩)))
      rw [ic, o]
      exact br_t rfl ⟨rfl, J⟩
    · refine hX _ (br_f cs_01 ⟨i3, cs_rYt hj (br_f cs_01 ⟨i3, ?_⟩)⟩)
      rw [ic, o]
      exact br_f cs_01 ⟨i3, s, J⟩
end
