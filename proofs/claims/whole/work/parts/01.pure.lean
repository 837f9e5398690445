theorem pk_us {f : Nat → Int32} {k : Nat} {x : Int32} : upd f k x k = x := if_pos rfl
theorem pk_un {f : Nat → Int32} {k j : Nat} {x : Int32} (h : j ≠ k) : upd f k x j = f j := if_neg h
theorem pk_sub {a b : Nat} (h : b ≤ a) : nI a - nI b = nI (a - b) := by
  obtain ⟨c, rfl⟩ : ∃ c, a = c + b := ⟨a - b, by omega⟩
  rw [← nI_add, Int32.add_sub_cancel, Nat.add_sub_cancel]
theorem pk_mul (a b : Nat) : nI a * nI b = nI (a * b) := (Int32.ofNat_mul a b).symm
theorem pk_div {a d : Nat} (ha : a < 2 ^ 31) (h0 : 0 < d) (hd : d < 2 ^ 31) : nI a / nI d = nI (a / d) := by
  apply Int32.toInt_inj.mp
  rw [lg_idiv_nonneg (by rw [nI_toInt ha]; omega) (by rw [nI_toInt hd]; omega), nI_toInt ha, nI_toInt hd, nI_toInt (Nat.lt_of_le_of_lt (Nat.div_le_self a d) ha)]
  first | rfl | exact (Int.natCast_ediv _ _).symm
theorem pk_rem {a d : Nat} (ha : a < 2 ^ 31) (h0 : 0 < d) (hd : d < 2 ^ 31) : nI a - nI a / nI d * nI d = nI (a % d) := by
  rw [pk_div ha h0 hd, pk_mul, pk_sub (Nat.div_mul_le_self a d)]
  exact congrArg nI (by have := Nat.div_add_mod' a d; omega)
theorem pk_ix (x : Int32) {n : Nat} (hn : n < 2 ^ 31) : x < 0 ∨ nI n ≤ x ∨ ∃ j : Nat, j < n ∧ x = nI j := by
  by_cases h : x < 0
  · exact Or.inl h
  · obtain ⟨j, hj, rfl⟩ := nI_of h
    by_cases h2 : j < n
    · exact Or.inr (Or.inr ⟨j, h2, rfl⟩)
    · exact Or.inr (Or.inl (nI_le (by omega) hj))
theorem pk_in {x : Int32} (n N : Nat) (h : n < N) (hx : x = nI n := by rfl) (hN : N < 2 ^ 31 := by omega) : vp_in x N := by
  subst hx
  exact vp_in_nI h hN
theorem pk_cl {x : Int32} (n : Nat) (hx : x = nI n := by rfl) (h : n < 2 ^ 31 := by omega) : x.toNatClampNeg = n := by
  subst hx
  exact nI_clamp h
/-! pure rows of this claim: the count, the copy, a cell of a page -/
theorem cs_ix (a d i : Nat) {D : Int32} (hD : D = nI d := by rfl) : nI a * D + nI i = nI (a * d + i) := by
  rw [hD, pk_mul, nI_add]
theorem cs_nb {x : Int32} (h : x = 0 ∨ x = 1) : vp_nar .boolean x = x := by
  rcases h with h | h <;> rw [h] <;> rfl
theorem cs_nn {x : Int32} (h : x = 0 ∨ x = 1) : narrow .boolean (.int x) = .int x := by
  rcases h with h | h <;> rw [h] <;> rfl
theorem cs_10 : ¬ (10 : Int32) = 0 := by decide
theorem cs_01 : ¬ (1 : Int32) = 0 := by decide
theorem cs_m1 {q : Nat} (h : q < 2 ^ 31) : ¬ nI q = -1 := by
  intro e
  have e2 := congrArg Int32.toInt e
  rw [nI_toInt h, show (-1 : Int32).toInt = -1 from by decide] at e2
  omega
/-- how many of the first n are not 0 -/
def cs_cnt (f : Nat → Int32) : Nat → Nat
  | 0 => 0
  | n + 1 => cs_cnt f n + (if f n = 0 then 0 else 1)
theorem cs_cntC {f g : Nat → Int32} : ∀ n : Nat, (∀ k, k < n → f k = g k) → cs_cnt f n = cs_cnt g n := by
  intro n
  induction n with
  | zero => intro _; rfl
  | succ n ih =>
    intro h
    show cs_cnt f n + (if f n = 0 then 0 else 1) = cs_cnt g n + (if g n = 0 then 0 else 1)
    rw [ih (fun k hk => h k (by omega)), h n (by omega)]
theorem cs_cntU {f g : Nat → Int32} {j : Nat} : ∀ n : Nat, j < n → (∀ k, k < n → k ≠ j → g k = f k) →
    cs_cnt g n + (if f j = 0 then 0 else 1) = cs_cnt f n + (if g j = 0 then 0 else 1) := by
  intro n
  induction n with
  | zero => intro h; omega
  | succ n ih =>
    intro hj h
    show cs_cnt g n + (if g n = 0 then 0 else 1) + _ = cs_cnt f n + (if f n = 0 then 0 else 1) + _
    by_cases e : j = n
    · subst e
      have e2 : cs_cnt g j = cs_cnt f j := cs_cntC j (fun k hk => h k (by omega) (by omega))
      rw [e2]
      omega
    · have e1 := ih (by omega) (fun k hk hne => h k (by omega) hne)
      have e2 := h n (by omega) (by omega)
      rw [e2]
      omega
theorem cs_cntL (f : Nat → Int32) : ∀ n : Nat, cs_cnt f n ≤ n := by
  intro n
  induction n with
  | zero => exact Nat.le_refl 0
  | succ n ih =>
    show cs_cnt f n + (if f n = 0 then 0 else 1) ≤ n + 1
    by_cases h : f n = 0
    · rw [if_pos h]; omega
    · rw [if_neg h]; omega
theorem cs_cnt0 : ∀ n : Nat, cs_cnt (fun _ => 0) n = 0 := by
  intro n
  induction n with
  | zero => rfl
  | succ n ih =>
    show cs_cnt (fun _ => 0) n + (if (0 : Int32) = 0 then 0 else 1) = 0
    rw [ih, if_pos rfl]
/-- n cells from f on, copied to t on -/
def cs_cp (A : Nat → Int32) (f t n : Nat) : Nat → Int32 := fun j => if t ≤ j ∧ j < t + n then A (f + (j - t)) else A j
theorem cs_cpZ (A : Nat → Int32) (f t : Nat) : cs_cp A f t 0 = A := by
  funext j
  exact if_neg (by omega)
theorem cs_cpI {A : Nat → Int32} {f t n j : Nat} (h : j < n) : cs_cp A f t n (t + j) = A (f + j) := by
  show (if t ≤ t + j ∧ t + j < t + n then A (f + (t + j - t)) else A (t + j)) = A (f + j)
  rw [if_pos (by omega), Nat.add_sub_cancel_left]
theorem cs_cpO {A : Nat → Int32} {f t n j : Nat} (h : j < t ∨ t + n ≤ j) : cs_cp A f t n j = A j := if_neg (by omega)
theorem cs_cpS {A : Nat → Int32} {f t n : Nat} (h : f + n < t ∨ t + n ≤ f + n) : upd (cs_cp A f t n) (t + n) (cs_cp A f t n (f + n)) = cs_cp A f t (n + 1) := by
  funext j
  rw [cs_cpO h]
  by_cases e : j = t + n
  · rw [e, pk_us, cs_cpI (by omega)]
  · rw [pk_un e]
    by_cases e2 : t ≤ j ∧ j < t + n
    · obtain ⟨i, rfl⟩ : ∃ i, j = t + i := ⟨j - t, by omega⟩
      rw [cs_cpI (by omega), cs_cpI (by omega)]
    · rw [cs_cpO (by omega), cs_cpO (by omega)]
theorem cs_cp01 {A : Nat → Int32} (h : ∀ j, A j = 0 ∨ A j = 1) (f t n : Nat) : ∀ j, cs_cp A f t n j = 0 ∨ cs_cp A f t n j = 1 := by
  intro j
  by_cases e : t ≤ j ∧ j < t + n
  · rw [show cs_cp A f t n j = A (f + (j - t)) from if_pos e]; exact h _
  · rw [show cs_cp A f t n j = A j from if_neg e]; exact h _
theorem cs_upd01 {A : Nat → Int32} (h : ∀ j, A j = 0 ∨ A j = 1) {x : Int32} (hx : x = 0 ∨ x = 1) (k : Nat) : ∀ j, upd A k x j = 0 ∨ upd A k x j = 1 := by
  intro j
  by_cases e : j = k
  · rw [e, pk_us]; exact hx
  · rw [pk_un e]; exact h j
/-- the cell of key k under root q -/
def cs_ce (L : Nat → Int32) (q k : Nat) : Nat := (L (q * 10 + k / 10)).toNatClampNeg * 10 + k % 10
