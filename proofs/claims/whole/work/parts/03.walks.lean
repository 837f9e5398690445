/-! the small methods, each with a general post -/
theorem cs_kXf {post : Int32 → Prop} {v : Int32} (h : v < 0 ∨ nI 100 ≤ v) (hp : post 0) : wpX_isKey post v := by
  by_cases z : v < 0
  · exact br_t z hp
  · have h2 : (100 : Int32) ≤ v := by
      rcases h with h | h
      · exact absurd h z
      · exact h
    exact br_f z (br_t h2 hp)
theorem cs_kXt {post : Int32 → Prop} {j : Nat} (h : j < 100) (hp : post 1) : wpX_isKey post (nI j) :=
  br_f (nI_pos (by omega)) (br_f (nI_ge (b := 100) h (by decide)) hp)
theorem cs_kYf {post : Int32 → Prop} {u : SY} {v : Int32} (h : v < 0 ∨ nI 100 ≤ v) (hp : post 0) : wpY_isKey post u v := by
  by_cases z : v < 0
  · exact br_t z hp
  · have h2 : (100 : Int32) ≤ v := by
      rcases h with h | h
      · exact absurd h z
      · exact h
    exact br_f z (br_t h2 hp)
theorem cs_kYt {post : Int32 → Prop} {u : SY} {j : Nat} (h : j < 100) (hp : post 1) : wpY_isKey post u (nI j) :=
  br_f (nI_pos (by omega)) (br_f (nI_ge (b := 100) h (by decide)) hp)
theorem cs_rXf {post : Int32 → Prop} {v : Int32} (h : v < 0 ∨ nI 3 ≤ v) (hp : post 0) : wpX_isReader post v := by
  by_cases z : v < 0
  · exact br_t z hp
  · have h2 : (3 : Int32) ≤ v := by
      rcases h with h | h
      · exact absurd h z
      · exact h
    exact br_f z (br_t h2 hp)
theorem cs_rXt {post : Int32 → Prop} {j : Nat} (h : j < 3) (hp : post 1) : wpX_isReader post (nI j) :=
  br_f (nI_pos (by omega)) (br_f (nI_ge (b := 3) h (by decide)) hp)
theorem cs_rYf {post : Int32 → Prop} {u : SY} {v : Int32} (h : v < 0 ∨ nI 3 ≤ v) (hp : post 0) : wpY_isReader post u v := by
  by_cases z : v < 0
  · exact br_t z hp
  · have h2 : (3 : Int32) ≤ v := by
      rcases h with h | h
      · exact absurd h z
      · exact h
    exact br_f z (br_t h2 hp)
theorem cs_rYt {post : Int32 → Prop} {u : SY} {j : Nat} (h : j < 3) (hp : post 1) : wpY_isReader post u (nI j) :=
  br_f (nI_pos (by omega)) (br_f (nI_ge (b := 3) h (by decide)) hp)
theorem cs_x10 {q k : Nat} (hk : k < 100) : nI q * 10 + nI k / 10 = nI (q * 10 + k / 10) := by
  rw [show nI k / (10 : Int32) = nI (k / 10) from pk_div (d := 10) (by omega) (by decide) (by decide)]
  exact cs_ix q 10 (k / 10)
theorem cs_r10 {q k : Nat} (hk : k < 100) : nI q * 10 + (nI k - nI k / 10 * 10) = nI (q * 10 + k % 10) := by
  rw [show nI k - nI k / (10 : Int32) * 10 = nI (k % 10) from pk_rem (d := 10) (by omega) (by decide) (by decide)]
  exact cs_ix q 10 (k % 10)
section
variable {cr cn pw : Int32} {H V L C R N : Nat → Int32} {p : Nat}
theorem cs_cellOf {post : Int32 → Prop} {q k : Nat} (hL : cs_Leaf p L) (hp : p ≤ 513) (hq : q < p) (hk : k < 100) (h : post (nI (cs_ce L q k))) :
    wpX_cellOf post (cr, cn, pw, H, V, L, C, R, N) (nI q) (nI k) := by
  obtain ⟨l, hl, e⟩ := hL q hq (k / 10) (by omega)
  refine ⟨cs_10, pk_in (q * 10 + k / 10) 5130 (by omega) (cs_x10 hk), cs_10, ?_⟩
  rw [cs_x10 hk, nI_clamp (by omega), e, cs_r10 hk]
  rw [cs_ceN (by omega) e] at h
  exact h
theorem cs_holds {post : Int32 → Prop} {q k : Nat} (h01 : ∀ j, H j = 0 ∨ H j = 1) (hL : cs_Leaf p L) (hp : p ≤ 513) (hq : q < p) (hk : k < 100) (h : post (H (cs_ce L q k))) :
    wpX_holds post (cr, cn, pw, H, V, L, C, R, N) (nI q) (nI k) := by
  have hc := cs_ceL hL hp hq hk
  unfold wpX_holds
  dsimp only
  refine cs_cellOf hL hp hq hk ⟨vp_in_nI (by omega) (by decide), ?_⟩
  rw [nI_clamp (by omega)]
  exact ⟨cs_nn (h01 _), h⟩
/-! the copies -/
theorem cs_cl {post : SX → Prop} {l t : Nat} (hl : l < t) (ht : t < 513) (h01 : ∀ j, H j = 0 ∨ H j = 1)
    (h : post (cr, cn, pw, cs_cp H (l * 10) (t * 10) 10, cs_cp V (l * 10) (t * 10) 10, L, C, R, N)) : ∀ d i : Nat, i + d = 10 →
    wX_copyLeaf_2 post (nI l) (nI t) cr cn pw (d + 1) (nI i) (cs_cp H (l * 10) (t * 10) i) (cs_cp V (l * 10) (t * 10) i) L C R N := by
  intro d
  induction d with
  | zero =>
    intro i hi
    have e : i = 10 := by omega
    subst e
    exact br_t (nI_le (a := 10) (b := 10) (by omega) (by decide)) h
  | succ d ih =>
    intro i hi
    have a1 := cs_ix l 10 i
    have a2 := cs_ix t 10 i
    have b1 : vp_in (nI l * 10 + nI i) 5130 := pk_in (l * 10 + i) 5130 (by omega) a1
    have b2 : vp_in (nI t * 10 + nI i) 5130 := pk_in (t * 10 + i) 5130 (by omega) a2
    have c1 : (nI l * 10 + nI i).toNatClampNeg = l * 10 + i := pk_cl (l * 10 + i) a1
    have c2 : (nI t * 10 + nI i).toNatClampNeg = t * 10 + i := pk_cl (t * 10 + i) a2
    refine br_f (nI_ge (b := 10) (by omega) (by decide)) ⟨b1, b2, nm_r (e' := cs_cp H (l * 10) (t * 10) (i + 1)) ?_ ⟨b1, b2, nm_r (e' := cs_cp V (l * 10) (t * 10) (i + 1)) ?_ (nm_r (nI_1 i) ?_)⟩⟩
    · rw [c1, c2, cs_nb (cs_cp01 h01 _ _ _ _)]
      exact cs_cpS (by omega)
    · rw [c1, c2]
      exact cs_cpS (by omega)
    · exact ih (i + 1) (by omega)
theorem cs_copyLeaf {post : SX → Prop} {l t : Nat} (hl : l < t) (ht : t < 513) (h01 : ∀ j, H j = 0 ∨ H j = 1)
    (h : post (cr, cn, pw, cs_cp H (l * 10) (t * 10) 10, cs_cp V (l * 10) (t * 10) 10, L, C, R, N)) : wpX_copyLeaf post (cr, cn, pw, H, V, L, C, R, N) (nI l) (nI t) := by
  have g := cs_cl hl ht h01 h 10 0 rfl
  rw [cs_cpZ, cs_cpZ] at g
  exact ⟨_, g⟩
theorem cs_cr {post : SX → Prop} {l t : Nat} (hl : l < t) (ht : t < 513)
    (h : post (cr, cn, pw, H, V, cs_cp L (l * 10) (t * 10) 10, upd C t (C l), R, N)) : ∀ d i : Nat, i + d = 10 →
    wX_copyRoot_2 post (nI l) (nI t) cr cn pw (d + 1) (nI i) H V (cs_cp L (l * 10) (t * 10) i) C R N := by
  intro d
  induction d with
  | zero =>
    intro i hi
    have e : i = 10 := by omega
    subst e
    refine br_t (nI_le (a := 10) (b := 10) (by omega) (by decide)) ⟨vp_in_nI (by omega) (by decide), vp_in_nI ht (by decide), nm_r (e' := upd C t (C l)) ?_ h⟩
    rw [nI_clamp (by omega), nI_clamp (by omega)]
  | succ d ih =>
    intro i hi
    have a1 := cs_ix l 10 i
    have a2 := cs_ix t 10 i
    have b1 : vp_in (nI l * 10 + nI i) 5130 := pk_in (l * 10 + i) 5130 (by omega) a1
    have b2 : vp_in (nI t * 10 + nI i) 5130 := pk_in (t * 10 + i) 5130 (by omega) a2
    have c1 : (nI l * 10 + nI i).toNatClampNeg = l * 10 + i := pk_cl (l * 10 + i) a1
    have c2 : (nI t * 10 + nI i).toNatClampNeg = t * 10 + i := pk_cl (t * 10 + i) a2
    refine br_f (nI_ge (b := 10) (by omega) (by decide)) ⟨b1, b2, nm_r (e' := cs_cp L (l * 10) (t * 10) (i + 1)) ?_ (nm_r (nI_1 i) ?_)⟩
    · rw [c1, c2]
      exact cs_cpS (by omega)
    · exact ih (i + 1) (by omega)
theorem cs_copyRoot {post : SX → Prop} {l t : Nat} (hl : l < t) (ht : t < 513)
    (h : post (cr, cn, pw, H, V, cs_cp L (l * 10) (t * 10) 10, upd C t (C l), R, N)) : wpX_copyRoot post (cr, cn, pw, H, V, L, C, R, N) (nI l) (nI t) := by
  have g := cs_cr (V := V) hl ht h 10 0 rfl
  rw [cs_cpZ] at g
  exact ⟨_, g⟩
theorem cs_uu (A : Nat → Int32) (t : Nat) (x y : Int32) : upd (upd A t x) t y = upd A t y := by
  funext j
  by_cases e : j = t
  · rw [e, pk_us, pk_us]
  · rw [pk_un e, pk_un e, pk_un e]
/-! the change -/
theorem cs_114 {post : SX → Prop} {t m : Nat} {h x b : Int32} (ht : t < 513) (hm : m < 10) (hh : h = 0 ∨ h = 1) {y : Int32}
    (g : post (cr, cn, pw, upd H (t * 10 + m) h, upd V (t * 10 + m) x, L, upd C t (y + (h - b)), upd R 3 (nI t), N)) :
    wX_writeChange_114 post h x (nI t) (nI (t * 10 + m)) b h y (nI t) cr cn pw H V L C R N := by
  have b2 : vp_in (nI (t * 10 + m)) 5130 := vp_in_nI (by omega) (by decide)
  have c2 : (nI (t * 10 + m)).toNatClampNeg = t * 10 + m := nI_clamp (by omega)
  refine ⟨vp_in_nI ht (by decide), nm_r (e' := upd C t (y + (h - b))) (by rw [nI_clamp (by omega)]) ⟨b2, nm_r (e' := upd H (t * 10 + m) h) (by rw [c2, cs_nb hh]) ⟨b2, nm_r (e' := upd V (t * 10 + m) x) (by rw [c2]) (nm_e g)⟩⟩⟩
theorem cs_99 {post : SX → Prop} {t m : Nat} {h x : Int32} (ht : t < 513) (hm : m < 10) (hh : h = 0 ∨ h = 1) {y : Int32} (h01 : H (t * 10 + m) = 0 ∨ H (t * 10 + m) = 1)
    (g : post (cr, cn, pw, upd H (t * 10 + m) h, upd V (t * 10 + m) x, L, upd C t (y + (h - H (t * 10 + m))), upd R 3 (nI t), N)) :
    wX_writeChange_99 post h x (nI t) (nI (t * 10 + m)) h y (nI t) cr cn pw H V L C R N := by
  have b2 : vp_in (nI (t * 10 + m)) 5130 := vp_in_nI (by omega) (by decide)
  have c2 : (nI (t * 10 + m)).toNatClampNeg = t * 10 + m := nI_clamp (by omega)
  refine ⟨b2, ?_⟩
  rw [c2]
  rcases h01 with z | z
  · rw [z] at g
    exact br_t z (cs_114 ht hm hh g)
  · rw [z] at g
    exact br_f (by rw [z]; exact cs_01) (cs_114 ht hm hh g)
theorem cs_wc {post : SX → Prop} {w l key : Nat} {h x : Int32} (h01 : ∀ j, H j = 0 ∨ H j = 1) (hp : p < 513) (hw : w < p) (ew : R 3 = nI w) (hl : l < p) (el : L (w * 10 + key / 10) = nI l) (hk : key < 100) (hh : h = 0 ∨ h = 1)
    (g : post (cr, cn, nI (p + 1), cs_n H l p (key % 10) h, cs_n V l p (key % 10) x, cs_n L w p (key / 10) (nI p), upd C p (C w + (h - H (cs_ce L w key))), upd R 3 (nI p), N)) :
    wpX_writeChange post (cr, cn, nI p, H, V, L, C, R, N) (nI key) h x := by
  have q1 : wX_writeChange_99 post h x (nI p) (nI (p * 10 + key % 10)) h (C w) (nI p) cr cn (nI (p + 1)) (cs_cp H (l * 10) (p * 10) 10) (cs_cp V (l * 10) (p * 10) 10) (cs_n L w p (key / 10) (nI p)) (upd C p (C w)) R N := by
    refine cs_99 hp (by omega) hh (cs_cp01 h01 _ _ _ _) ?_
    rw [cs_cpI (by omega), cs_uu, ← cs_ceN (q := w) (k := key) (by omega) el]
    exact g
  refine nm_r (e' := nI w) ew (nm_r (nI_1 p) ⟨cs_10, pk_in (w * 10 + key / 10) 5130 (by omega) (cs_x10 hk), ?_⟩)
  have e0 : L (nI w * 10 + nI key / 10).toNatClampNeg = nI l := by
    rw [cs_x10 hk, nI_clamp (by omega)]
    exact el
  rw [e0]
  refine cs_copyLeaf hl hp h01 (cs_copyRoot hw hp ⟨cs_10, pk_in (p * 10 + key / 10) 5130 (by omega) (cs_x10 hk), nm_r (e' := cs_n L w p (key / 10) (nI p)) ?_ ⟨cs_10, nm_r (cs_r10 hk) ⟨vp_in_nI hp (by decide), ?_⟩⟩⟩)
  · rw [cs_x10 hk, nI_clamp (by omega)]
    rfl
  · rw [nI_clamp (by omega), pk_us]
    rcases hh with rfl | rfl
    · exact br_t rfl q1
    · exact br_f cs_01 q1
end
