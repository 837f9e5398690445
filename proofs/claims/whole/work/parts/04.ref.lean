/-! the reference's walks, and both sides' walks where they read alone -/
theorem cs_ne {a b : Nat} (h : a ≠ b) (ha : a < 2 ^ 31) (hb : b < 2 ^ 31) : ¬ nI a = nI b := fun e => h ((nI_eq ha hb).mp e)
section
variable {fn : Int32} {T W O S : Nat → Int32}
theorem cs_cy {post : SY → Prop} {f t : Nat} (hft : f ≠ t) (hf : f < 5) (ht : t < 5) (h01 : ∀ j, T j = 0 ∨ T j = 1)
    (h : post (fn, cs_cp T (f * 100) (t * 100) 100, cs_cp W (f * 100) (t * 100) 100, O, S)) : ∀ d i : Nat, i + d = 100 →
    wY_copy_2 post (nI f) (nI t) fn (d + 1) (nI i) (cs_cp T (f * 100) (t * 100) i) (cs_cp W (f * 100) (t * 100) i) O S := by
  intro d
  induction d with
  | zero =>
    intro i hi
    have e : i = 100 := by omega
    subst e
    exact br_t (nI_le (a := 100) (b := 100) (by omega) (by decide)) h
  | succ d ih =>
    intro i hi
    have a1 := cs_ix f 100 i
    have a2 := cs_ix t 100 i
    have b1 : vp_in (nI f * 100 + nI i) 500 := pk_in (f * 100 + i) 500 (by omega) a1
    have b2 : vp_in (nI t * 100 + nI i) 500 := pk_in (t * 100 + i) 500 (by omega) a2
    have c1 : (nI f * 100 + nI i).toNatClampNeg = f * 100 + i := pk_cl (f * 100 + i) a1
    have c2 : (nI t * 100 + nI i).toNatClampNeg = t * 100 + i := pk_cl (t * 100 + i) a2
    refine br_f (nI_ge (b := 100) (by omega) (by decide)) ⟨b1, b2, nm_r (e' := cs_cp T (f * 100) (t * 100) (i + 1)) ?_ ⟨b1, b2, nm_r (e' := cs_cp W (f * 100) (t * 100) (i + 1)) ?_ (nm_r (nI_1 i) ?_)⟩⟩
    · rw [c1, c2, cs_nb (cs_cp01 h01 _ _ _ _)]
      exact cs_cpS (by omega)
    · rw [c1, c2]
      exact cs_cpS (by omega)
    · exact ih (i + 1) (by omega)
theorem cs_copyY {post : SY → Prop} (f t : Nat) (hft : f ≠ t) (hf : f < 5) (ht : t < 5) (h01 : ∀ j, T j = 0 ∨ T j = 1)
    (h : post (fn, cs_cp T (f * 100) (t * 100) 100, cs_cp W (f * 100) (t * 100) 100, O, S)) : wpY_copy post (fn, T, W, O, S) (nI f) (nI t) := by
  have g := cs_cy hft hf ht h01 h 100 0 rfl
  rw [cs_cpZ, cs_cpZ] at g
  exact ⟨_, g⟩
theorem cs_sz {post : Int32 → Prop} {b : Nat} (hb : b < 4) (h : post (nI (cs_cnt (fun k => T (b * 100 + k)) 100))) : ∀ d i : Nat, i + d = 100 →
    wY_size_14 post (nI b) fn T W O S (d + 1) (nI (cs_cnt (fun k => T (b * 100 + k)) i)) (nI i) := by
  intro d
  induction d with
  | zero =>
    intro i hi
    have e : i = 100 := by omega
    subst e
    exact br_t (nI_le (a := 100) (b := 100) (by omega) (by decide)) h
  | succ d ih =>
    intro i hi
    have a1 := cs_ix b 100 i
    have b1 : vp_in (nI b * 100 + nI i) 500 := pk_in (b * 100 + i) 500 (by omega) a1
    have c1 : (nI b * 100 + nI i).toNatClampNeg = b * 100 + i := pk_cl (b * 100 + i) a1
    have g := ih (i + 1) (by omega)
    refine br_f (nI_ge (b := 100) (by omega) (by decide)) ⟨b1, ?_⟩
    rw [c1]
    by_cases z : T (b * 100 + i) = 0
    · have e : cs_cnt (fun k => T (b * 100 + k)) (i + 1) = cs_cnt (fun k => T (b * 100 + k)) i := by
        show cs_cnt (fun k => T (b * 100 + k)) i + (if T (b * 100 + i) = 0 then 0 else 1) = _
        rw [if_pos z]
        rfl
      rw [e] at g
      exact br_t z (nm_r (nI_1 i) g)
    · have e : cs_cnt (fun k => T (b * 100 + k)) (i + 1) = cs_cnt (fun k => T (b * 100 + k)) i + 1 := by
        show cs_cnt (fun k => T (b * 100 + k)) i + (if T (b * 100 + i) = 0 then 0 else 1) = _
        rw [if_neg z]
      rw [e] at g
      exact br_f z (nm_r (nI_1 _) (nm_r (nI_1 i) g))
theorem cs_sizeY {post : Int32 → Prop} {b : Nat} (hb : b < 4) (hs : ∀ post : Int32 → Prop, post 1 → wpY_sees post (fn, T, W, O, S) (nI b))
    (h : post (nI (cs_cnt (fun k => T (b * 100 + k)) 100))) : wpY_size post (fn, T, W, O, S) (nI b) := by
  unfold wpY_size
  dsimp only
  refine hs _ (br_f cs_01 ⟨101, ?_⟩)
  exact cs_sz hb h 100 0 rfl
end
section
variable {cr cn pw : Int32} {H V L C R N : Nat → Int32} {p w : Nat} {fn : Int32} {T W O S : Nat → Int32}
theorem cs_who (hp : p ≤ 513) (hw : w < p) (ew : R 3 = nI w) (vw : cs_View H V L T W w 3) (hr : ∀ r, r < 3 → cs_Rd p H V L R N T W O S r) (who : Int32) :
    ((∀ post : Int32 → Prop, post 0 → wpX_isViewing post (cr, cn, pw, H, V, L, C, R, N) who) ∧ (∀ post : Int32 → Prop, post 0 → wpY_sees post (fn, T, W, O, S) who)) ∨
    (∃ b q : Nat, b < 4 ∧ q < p ∧ who = nI b ∧ R b = nI q ∧ cs_View H V L T W q b ∧
      (∀ post : Int32 → Prop, post 1 → wpX_isViewing post (cr, cn, pw, H, V, L, C, R, N) who) ∧ (∀ post : Int32 → Prop, post 1 → wpY_sees post (fn, T, W, O, S) who)) := by
  rcases pk_ix who (n := 4) (by decide) with h | h | ⟨b, hb, rfl⟩
  · have h3 : ¬ who = 3 := by
      intro e
      subst e
      exact absurd h (by decide)
    exact Or.inl ⟨fun post g => br_t h g, fun post g => br_f h3 (cs_rYf (Or.inl h) (br_t rfl g))⟩
  · have h3 : ¬ who = 3 := by
      intro e
      subst e
      exact absurd h (nI_ge (a := 3) (b := 4) (by decide) (by decide))
    have h4 : nI 3 ≤ who := Int32.le_trans (nI_le (a := 3) (b := 4) (by decide) (by decide)) h
    have h0 : ¬ who < 0 := by
      intro z
      have z2 : nI 4 < 0 := Int32.lt_of_le_of_lt h z
      exact nI_pos (n := 4) (by decide) z2
    exact Or.inl ⟨fun post g => br_f h0 (br_t h g), fun post g => br_f h3 (cs_rYf (Or.inr h4) (br_t rfl g))⟩
  · have i0 : ¬ nI b < 0 := nI_pos (by omega)
    have i4 : ¬ (4 : Int32) ≤ nI b := nI_ge (b := 4) hb (by decide)
    have iv : vp_in (nI b) 4 := vp_in_nI hb (by decide)
    have ic : (nI b).toNatClampNeg = b := nI_clamp (by omega)
    by_cases e : b = 3
    · subst e
      refine Or.inr ⟨3, w, by omega, hw, rfl, ew, vw, fun post g => br_f i0 (br_f i4 ⟨iv, ?_⟩), fun post g => br_t rfl g⟩
      rw [ic, ew]
      exact br_f (cs_m1 (by omega)) g
    · have h3 : ¬ nI b = 3 := cs_ne (b := 3) e (by omega) (by decide)
      have iv3 : vp_in (nI b) 3 := vp_in_nI (by omega) (by decide)
      rcases hr b (by omega) with ⟨r1, r2⟩ | ⟨q, hq, r1, r2, _, r4⟩
      · refine Or.inl ⟨fun post g => br_f i0 (br_f i4 ⟨iv, ?_⟩), fun post g => br_f h3 (cs_rYt (by omega) (br_f cs_01 ⟨iv3, ?_⟩))⟩
        · rw [ic, r1]
          exact br_t rfl g
        · rw [ic, r2]
          exact br_t rfl g
      · refine Or.inr ⟨b, q, hb, hq, rfl, r1, r4, fun post g => br_f i0 (br_f i4 ⟨iv, ?_⟩), fun post g => br_f h3 (cs_rYt (by omega) (br_f cs_01 ⟨iv3, ?_⟩))⟩
        · rw [ic, r1]
          exact br_f (cs_m1 (by omega)) g
        · rw [ic, r2]
          exact br_f cs_01 g
/-- a reader alone -/
theorem cs_rdr (hp : p ≤ 513) {b : Nat} (hb : b < 3) (hr : cs_Rd p H V L R N T W O S b) :
    (O b = 0 ∧ ∀ post : Int32 → Prop, post 0 → wpX_isViewing post (cr, cn, pw, H, V, L, C, R, N) (nI b)) ∨
    (O b = 1 ∧ S b = N b ∧ ∀ post : Int32 → Prop, post 1 → wpX_isViewing post (cr, cn, pw, H, V, L, C, R, N) (nI b)) := by
  have i0 : ¬ nI b < 0 := nI_pos (by omega)
  have i4 : ¬ (4 : Int32) ≤ nI b := nI_ge (b := 4) (by omega) (by decide)
  have iv : vp_in (nI b) 4 := vp_in_nI (by omega) (by decide)
  have ic : (nI b).toNatClampNeg = b := nI_clamp (by omega)
  rcases hr with ⟨r1, r2⟩ | ⟨q, hq, r1, r2, r3, _⟩
  · refine Or.inl ⟨r2, fun post g => br_f i0 (br_f i4 ⟨iv, ?_⟩)⟩
    rw [ic, r1]
    exact br_t rfl g
  · refine Or.inr ⟨r2, r3, fun post g => br_f i0 (br_f i4 ⟨iv, ?_⟩)⟩
    rw [ic, r1]
    exact br_f (cs_m1 (by omega)) g
theorem cs_has (hp : p ≤ 513) (h01 : ∀ j, H j = 0 ∨ H j = 1) (hL : cs_Leaf p L) (hw : w < p) (ew : R 3 = nI w) (vw : cs_View H V L T W w 3) (hr : ∀ r, r < 3 → cs_Rd p H V L R N T W O S r) (who key : Int32) :
    ((∀ post : Int32 → Prop, post 0 → wpX_has post (cr, cn, pw, H, V, L, C, R, N) who key) ∧ (∀ post : Int32 → Prop, post 0 → wpY_has post (fn, T, W, O, S) who key)) ∨
    (∃ b q j : Nat, b < 4 ∧ q < p ∧ j < 100 ∧ who = nI b ∧ key = nI j ∧ R b = nI q ∧ cs_View H V L T W q b ∧ ¬ H (cs_ce L q j) = 0 ∧
      (∀ post : Int32 → Prop, post 1 → wpX_has post (cr, cn, pw, H, V, L, C, R, N) who key) ∧ (∀ post : Int32 → Prop, post 1 → wpY_has post (fn, T, W, O, S) who key)) := by
  unfold wpX_has wpY_has
  dsimp only
  rcases cs_who (cr := cr) (cn := cn) (pw := pw) (C := C) (fn := fn) hp hw ew vw hr who with ⟨hX, hY⟩ | ⟨b, q, hb, hq, rfl, eR, hv, hX, hY⟩
  · refine Or.inl ⟨fun post g => hX _ (br_t rfl g), fun post g => ?_⟩
    rcases pk_ix key (n := 100) (by decide) with h | h | ⟨j, hj, rfl⟩
    · exact cs_kYf (Or.inl h) (br_t rfl g)
    · exact cs_kYf (Or.inr h) (br_t rfl g)
    · exact cs_kYt hj (br_f cs_01 (hY _ (br_t rfl g)))
  · have ic : (nI b).toNatClampNeg = b := nI_clamp (by omega)
    have iv : vp_in (nI b) 4 := vp_in_nI hb (by decide)
    rcases pk_ix key (n := 100) (by decide) with h | h | ⟨j, hj, rfl⟩
    · exact Or.inl ⟨fun post g => hX _ (br_f cs_01 (cs_kXf (Or.inl h) (br_t rfl g))), fun post g => cs_kYf (Or.inl h) (br_t rfl g)⟩
    · exact Or.inl ⟨fun post g => hX _ (br_f cs_01 (cs_kXf (Or.inr h) (br_t rfl g))), fun post g => cs_kYf (Or.inr h) (br_t rfl g)⟩
    · obtain ⟨v1, v2⟩ := hv j hj
      have jv : vp_in (nI b * 100 + nI j) 500 := pk_in (b * 100 + j) 500 (by omega) (cs_ix b 100 j)
      have jc : (nI b * 100 + nI j).toNatClampNeg = b * 100 + j := pk_cl (b * 100 + j) (cs_ix b 100 j)
      by_cases z : H (cs_ce L q j) = 0
      · refine Or.inl ⟨fun post g => hX _ (br_f cs_01 (cs_kXt hj (br_f cs_01 ⟨iv, ?_⟩))), fun post g => cs_kYt hj (br_f cs_01 (hY _ (br_f cs_01 ⟨jv, ?_⟩)))⟩
        · rw [ic, eR]
          exact cs_holds h01 hL hp hq hj (br_t z g)
        · rw [jc, v1]
          exact br_t z g
      · refine Or.inr ⟨b, q, j, hb, hq, hj, rfl, rfl, eR, hv, z, fun post g => hX _ (br_f cs_01 (cs_kXt hj (br_f cs_01 ⟨iv, ?_⟩))), fun post g => cs_kYt hj (br_f cs_01 (hY _ (br_f cs_01 ⟨jv, ?_⟩)))⟩
        · rw [ic, eR]
          exact cs_holds h01 hL hp hq hj (br_f z g)
        · rw [jc, v1]
          exact br_f z g
theorem cs_next (hp : p ≤ 513) (h01 : ∀ j, H j = 0 ∨ H j = 1) (hL : cs_Leaf p L) {b q : Nat} (hb : b < 4) (hq : q < p) (eR : R b = nI q) (hv : cs_View H V L T W q b) (x : Int32) : ∀ d j : Nat, j + d = 100 → ∃ r : Int32,
    (∀ post : Int32 → Prop, post r → wX_next_12 post (nI b) x cr cn pw H V L C R N (d + 1) (nI j)) ∧ (∀ post : Int32 → Prop, post r → wY_next_12 post (nI b) x fn T W O S (d + 1) (nI j)) := by
  intro d
  induction d with
  | zero =>
    intro j hj
    have e : j = 100 := by omega
    subst e
    have h : (100 : Int32) ≤ nI 100 := nI_le (a := 100) (b := 100) (by omega) (by decide)
    exact ⟨-3, fun _ g => br_t h g, fun _ g => br_t h g⟩
  | succ d ih =>
    intro j hj
    have hj2 : j < 100 := by omega
    have h : ¬ (100 : Int32) ≤ nI j := nI_ge (b := 100) hj2 (by decide)
    have ic : (nI b).toNatClampNeg = b := nI_clamp (by omega)
    have iv : vp_in (nI b) 4 := vp_in_nI hb (by decide)
    have jv : vp_in (nI b * 100 + nI j) 500 := pk_in (b * 100 + j) 500 (by omega) (cs_ix b 100 j)
    have jc : (nI b * 100 + nI j).toNatClampNeg = b * 100 + j := pk_cl (b * 100 + j) (cs_ix b 100 j)
    obtain ⟨v1, _⟩ := hv j hj2
    by_cases z0 : nI j ≤ x
    · obtain ⟨r, hX, hY⟩ := ih (j + 1) (by omega)
      exact ⟨r, fun post g => br_f h (br_t z0 (nm_r (nI_1 j) (hX post g))), fun post g => br_f h (br_t z0 (nm_r (nI_1 j) (hY post g)))⟩
    · by_cases z : H (cs_ce L q j) = 0
      · obtain ⟨r, hX, hY⟩ := ih (j + 1) (by omega)
        refine ⟨r, fun post g => br_f h (br_f z0 ⟨iv, ?_⟩), fun post g => br_f h (br_f z0 ⟨jv, ?_⟩)⟩
        · rw [ic, eR]
          exact cs_holds h01 hL hp hq hj2 (br_t z (nm_r (nI_1 j) (hX post g)))
        · rw [jc, v1]
          exact br_t z (nm_r (nI_1 j) (hY post g))
      · refine ⟨nI j, fun post g => br_f h (br_f z0 ⟨iv, ?_⟩), fun post g => br_f h (br_f z0 ⟨jv, ?_⟩)⟩
        · rw [ic, eR]
          exact cs_holds h01 hL hp hq hj2 (br_f z g)
        · rw [jc, v1]
          exact br_f z g
end
