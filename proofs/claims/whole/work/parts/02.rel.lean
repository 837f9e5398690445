/-- page p: the ten cells of page l, but x at m -/
def cs_n (A : Nat → Int32) (l p m : Nat) (x : Int32) : Nat → Int32 := upd (cs_cp A (l * 10) (p * 10) 10) (p * 10 + m) x
theorem cs_nO {A : Nat → Int32} {l p m : Nat} {x : Int32} {j : Nat} (h : j < p * 10) : cs_n A l p m x j = A j := by
  show upd _ _ _ _ = _
  rw [pk_un (by omega), cs_cpO (by omega)]
theorem cs_nI {A : Nat → Int32} {l p m : Nat} {x : Int32} {i : Nat} (h : i < 10) (hm : i ≠ m) : cs_n A l p m x (p * 10 + i) = A (l * 10 + i) := by
  show upd _ _ _ _ = _
  rw [pk_un (by omega), cs_cpI h]
theorem cs_nE {A : Nat → Int32} {l p m : Nat} {x : Int32} : cs_n A l p m x (p * 10 + m) = x := pk_us
/-- block b of the reference's arrays shows what root q shows -/
def cs_View (H V L T W : Nat → Int32) (q b : Nat) : Prop := ∀ k, k < 100 → T (b * 100 + k) = H (cs_ce L q k) ∧ (H (cs_ce L q k) = 0 ∨ W (b * 100 + k) = V (cs_ce L q k))
def cs_Leaf (p : Nat) (L : Nat → Int32) : Prop := ∀ q, q < p → ∀ i, i < 10 → ∃ l, l < p ∧ L (q * 10 + i) = nI l
def cs_Size (p : Nat) (H L C : Nat → Int32) : Prop := ∀ q, q < p → cs_cnt (fun k => H (cs_ce L q k)) 100 ≤ 24 ∧ C q = nI (cs_cnt (fun k => H (cs_ce L q k)) 100)
def cs_Inv (p : Nat) (H L C : Nat → Int32) : Prop := (∀ j, H j = 0 ∨ H j = 1) ∧ cs_Leaf p L ∧ cs_Size p H L C
def cs_Rd (p : Nat) (H V L R N T W O S : Nat → Int32) (r : Nat) : Prop :=
  (R r = -1 ∧ O r = 0) ∨ (∃ q, q < p ∧ R r = nI q ∧ O r = 1 ∧ S r = N r ∧ cs_View H V L T W q r)
/-- the whole relation, over the names -/
def cs_Rel (k : Nat) (cr cn pw : Int32) (H V L C R N : Nat → Int32) (fn : Int32) (T W O S : Nat → Int32) : Prop :=
  fn = cn ∧ (∀ j, T j = 0 ∨ T j = 1) ∧ ∃ p c w : Nat, (1 ≤ p ∧ 3 * p ≤ k + 3 ∧ pw = nI p) ∧ cs_Inv p H L C ∧
    (c < p ∧ cr = nI c ∧ cs_View H V L T W c 4) ∧ (w < p ∧ R 3 = nI w ∧ cs_View H V L T W w 3) ∧
    ∀ r, r < 3 → cs_Rd p H V L R N T W O S r
def i_Rel (k : Nat) (u : SX) (v : SY) : Prop := match u, v with
  | (cr, cn, pw, H, V, L, C, R, N), (fn, T, W, O, S) => cs_Rel k cr cn pw H V L C R N fn T W O S
theorem cs_up {k m : Nat} {cr cn pw : Int32} {H V L C R N : Nat → Int32} {fn : Int32} {T W O S : Nat → Int32} (hm : k ≤ m)
    (h : cs_Rel k cr cn pw H V L C R N fn T W O S) : cs_Rel m cr cn pw H V L C R N fn T W O S := by
  obtain ⟨e, t, p, c, w, ⟨h1, h2, h3⟩, h4⟩ := h
  exact ⟨e, t, p, c, w, ⟨h1, by omega, h3⟩, h4⟩
theorem i_up {k : Nat} {u : SX} {v : SY} (h : i_Rel k u v) : i_Rel (k + 3) u v := by
  obtain ⟨cr, cn, pw, H, V, L, C, R, N⟩ := u
  obtain ⟨fn, T, W, O, S⟩ := v
  exact cs_up (by omega) h
/-! cells -/
theorem cs_ceN {L : Nat → Int32} {q k l : Nat} (hl : l < 2 ^ 31) (e : L (q * 10 + k / 10) = nI l) : cs_ce L q k = l * 10 + k % 10 := by
  show (L (q * 10 + k / 10)).toNatClampNeg * 10 + k % 10 = _
  rw [e, nI_clamp hl]
theorem cs_ceL {p : Nat} {L : Nat → Int32} (hL : cs_Leaf p L) (hp : p ≤ 513) {q k : Nat} (hq : q < p) (hk : k < 100) : cs_ce L q k < p * 10 := by
  obtain ⟨l, hl, e⟩ := hL q hq (k / 10) (by omega)
  rw [cs_ceN (by omega) e]
  omega
/-! a change: root w and its leaf l become page p, but for key -/
section
variable {p w l key : Nat} {H V L C : Nat → Int32} {h x : Int32}
theorem cs_ce1 {q k : Nat} {y : Int32} (hq : q < p) (hk : k < 100) : cs_ce (cs_n L w p (key / 10) y) q k = cs_ce L q k := by
  show (cs_n L w p (key / 10) y (q * 10 + k / 10)).toNatClampNeg * 10 + k % 10 = _
  rw [cs_nO (by omega)]
  rfl
theorem cs_ce2 {k : Nat} (hp : p < 513) (hk : k < 100) (e : k / 10 = key / 10) : cs_ce (cs_n L w p (key / 10) (nI p)) p k = p * 10 + k % 10 := by
  refine cs_ceN (by omega) ?_
  rw [e]
  exact cs_nE
theorem cs_ce3 {k : Nat} {y : Int32} (hk : k < 100) (e : k / 10 ≠ key / 10) : cs_ce (cs_n L w p (key / 10) y) p k = cs_ce L w k := by
  show (cs_n L w p (key / 10) y (p * 10 + k / 10)).toNatClampNeg * 10 + k % 10 = _
  rw [cs_nI (by omega) e]
  rfl
/-- the old roots show what they showed -/
theorem cs_old (A : Nat → Int32) (y : Int32) (hp : p < 513) (hL : cs_Leaf p L) {q k : Nat} (hq : q < p) (hk : k < 100) :
    cs_n A l p (key % 10) y (cs_ce (cs_n L w p (key / 10) (nI p)) q k) = A (cs_ce L q k) := by
  rw [cs_ce1 hq hk, cs_nO (cs_ceL hL (by omega) hq hk)]
/-- the new root shows what root w showed, but at key -/
theorem cs_new (A : Nat → Int32) (y : Int32) (hp : p < 513) (hL : cs_Leaf p L) (hw : w < p) (hl : l < p) (el : L (w * 10 + key / 10) = nI l) {k : Nat} (hk : k < 100) (hne : k ≠ key) :
    cs_n A l p (key % 10) y (cs_ce (cs_n L w p (key / 10) (nI p)) p k) = A (cs_ce L w k) := by
  by_cases e : k / 10 = key / 10
  · rw [cs_ce2 hp hk e, cs_nI (by omega) (by omega), cs_ceN (l := l) (by omega) (by rw [e]; exact el)]
  · rw [cs_ce3 hk e, cs_nO (cs_ceL hL (by omega) hw hk)]
theorem cs_key (A : Nat → Int32) (y : Int32) (hp : p < 513) (hk : key < 100) :
    cs_n A l p (key % 10) y (cs_ce (cs_n L w p (key / 10) (nI p)) p key) = y := by
  rw [cs_ce2 hp hk rfl]
  exact cs_nE
theorem cs_leaf2 (hp : p < 513) (hL : cs_Leaf p L) (hw : w < p) (hk : key < 100) : cs_Leaf (p + 1) (cs_n L w p (key / 10) (nI p)) := by
  intro q hq i hi
  by_cases e : q = p
  · subst e
    by_cases e2 : i = key / 10
    · subst e2
      exact ⟨q, by omega, cs_nE⟩
    · obtain ⟨m, hm, em⟩ := hL w hw i hi
      exact ⟨m, by omega, by rw [cs_nI hi e2]; exact em⟩
  · obtain ⟨m, hm, em⟩ := hL q (by omega) i hi
    exact ⟨m, by omega, by rw [cs_nO (by omega)]; exact em⟩
theorem cs_add {n m : Nat} {h b : Int32} (hh : h = 0 ∨ h = 1) (hb : b = 0 ∨ b = 1) (e : m + (if b = 0 then 0 else 1) = n + (if h = 0 then 0 else 1)) : nI n + (h - b) = nI m := by
  rcases hh with rfl | rfl <;> rcases hb with rfl | rfl
  · rw [if_pos rfl] at e
    have e2 : m = n := by omega
    rw [e2, show (0 : Int32) - 0 = 0 from by decide, Int32.add_zero]
  · rw [if_pos rfl, if_neg cs_01] at e
    have e2 : n = m + 1 := by omega
    rw [e2, show (0 : Int32) - 1 = -1 from by decide, ← nI_1, Int32.add_assoc, show (1 : Int32) + (-1) = 0 from rfl, Int32.add_zero]
  · rw [if_pos rfl, if_neg cs_01] at e
    have e2 : m = n + 1 := by omega
    rw [e2, show (1 : Int32) - 0 = 1 from by decide, nI_1]
  · rw [if_neg cs_01] at e
    have e2 : m = n := by omega
    rw [e2, show (1 : Int32) - 1 = 0 from by decide, Int32.add_zero]
/-- what is kept over a change -/
theorem cs_inv2 (hp : p < 513) (I : cs_Inv p H L C) (hw : w < p) (hl : l < p) (el : L (w * 10 + key / 10) = nI l) (hk : key < 100) (hh : h = 0 ∨ h = 1)
    (hf : H (cs_ce L w key) = 0 → h = 0 ∨ cs_cnt (fun k => H (cs_ce L w k)) 100 < 24) :
    cs_Inv (p + 1) (cs_n H l p (key % 10) h) (cs_n L w p (key / 10) (nI p)) (upd C p (C w + (h - H (cs_ce L w key)))) := by
  obtain ⟨h01, hL, hS⟩ := I
  refine ⟨cs_upd01 (cs_cp01 h01 _ _ _) hh _, cs_leaf2 hp hL hw hk, ?_⟩
  intro q hq
  by_cases e : q = p
  · subst e
    obtain ⟨s1, s2⟩ := hS w hw
    have hc : cs_cnt (fun k => cs_n H l q (key % 10) h (cs_ce (cs_n L w q (key / 10) (nI q)) q k)) 100 + (if H (cs_ce L w key) = 0 then 0 else 1) = cs_cnt (fun k => H (cs_ce L w k)) 100 + (if h = 0 then 0 else 1) := by
      have e1 := cs_cntU (f := fun k => H (cs_ce L w k)) (g := fun k => cs_n H l q (key % 10) h (cs_ce (cs_n L w q (key / 10) (nI q)) q k)) 100 hk (fun k hk2 hne => cs_new H h hp hL hw hl el hk2 hne)
      rw [cs_key H h hp hk] at e1
      exact e1
    refine ⟨?_, ?_⟩
    · rcases h01 (cs_ce L w key) with z | z
      · have f1 := hf z
        rw [if_pos z] at hc
        rcases f1 with f1 | f1
        · rw [if_pos f1] at hc; omega
        · have : (if h = 0 then 0 else 1) ≤ 1 := by
            by_cases z2 : h = 0
            · rw [if_pos z2]; omega
            · rw [if_neg z2]; omega
          omega
      · rw [z, if_neg cs_01] at hc
        have : (if h = 0 then 0 else 1) ≤ 1 := by
          by_cases z2 : h = 0
          · rw [if_pos z2]; omega
          · rw [if_neg z2]; omega
        omega
    · rw [pk_us, s2]
      exact cs_add hh (h01 _) hc
  · have hq2 : q < p := by omega
    obtain ⟨s1, s2⟩ := hS q hq2
    have hc : cs_cnt (fun k => cs_n H l p (key % 10) h (cs_ce (cs_n L w p (key / 10) (nI p)) q k)) 100 = cs_cnt (fun k => H (cs_ce L q k)) 100 :=
      cs_cntC 100 (fun k hk2 => cs_old H h hp hL hq2 hk2)
    rw [hc, pk_un e]
    exact ⟨s1, s2⟩
theorem cs_viewO {T W T' W' : Nat → Int32} {q b : Nat} (hp : p < 513) (hL : cs_Leaf p L) (hq : q < p) (ht : ∀ k, k < 100 → T' (b * 100 + k) = T (b * 100 + k)) (hw : ∀ k, k < 100 → W' (b * 100 + k) = W (b * 100 + k))
    (hv : cs_View H V L T W q b) : cs_View (cs_n H l p (key % 10) h) (cs_n V l p (key % 10) x) (cs_n L w p (key / 10) (nI p)) T' W' q b := by
  intro k hk
  rw [cs_old H h hp hL hq hk, cs_old V x hp hL hq hk, ht k hk, hw k hk]
  exact hv k hk
theorem cs_viewN {T W T' W' : Nat → Int32} (hp : p < 513) (hL : cs_Leaf p L) (hw : w < p) (hl : l < p) (el : L (w * 10 + key / 10) = nI l) (hk : key < 100)
    (ht : ∀ k, k ≠ key → T' (3 * 100 + k) = T (3 * 100 + k)) (hW : ∀ k, k ≠ key → W' (3 * 100 + k) = W (3 * 100 + k))
    (tk : T' (3 * 100 + key) = h) (wk : h = 0 ∨ W' (3 * 100 + key) = x)
    (hv : cs_View H V L T W w 3) : cs_View (cs_n H l p (key % 10) h) (cs_n V l p (key % 10) x) (cs_n L w p (key / 10) (nI p)) T' W' p 3 := by
  intro k hk2
  by_cases e : k = key
  · subst e
    rw [cs_key H h hp hk, cs_key V x hp hk]
    exact ⟨tk, wk⟩
  · rw [cs_new H h hp hL hw hl el hk2 e, cs_new V x hp hL hw hl el hk2 e, ht k e, hW k e]
    exact hv k hk2
end
