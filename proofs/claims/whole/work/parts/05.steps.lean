/-! the relation over the steps -/
section
variable {cr cn pw : Int32} {H V L C R N : Nat → Int32} {p w k : Nat} {fn : Int32} {T W O S : Nat → Int32}
theorem cs_vS {q : Nat} (f t : Nat) (h : cs_View H V L T W q f) : cs_View H V L (cs_cp T (f * 100) (t * 100) 100) (cs_cp W (f * 100) (t * 100) 100) q t := by
  intro j hj
  rw [cs_cpI hj, cs_cpI hj]
  exact h j hj
theorem cs_vO {q b : Nat} (f t : Nat) (hb : b ≠ t) (h : cs_View H V L T W q b) : cs_View H V L (cs_cp T (f * 100) (t * 100) 100) (cs_cp W (f * 100) (t * 100) 100) q b := by
  intro j hj
  rw [cs_cpO (by omega), cs_cpO (by omega)]
  exact h j hj
theorem cs_rdT {p' : Nat} {H' V' L' R' N' T' W' O' S' : Nat → Int32} {r : Nat} (hp : p ≤ p') (eR : R' r = R r) (eN : N' r = N r) (eO : O' r = O r) (eS : S' r = S r)
    (hv : ∀ q, q < p → cs_View H V L T W q r → cs_View H' V' L' T' W' q r) (h : cs_Rd p H V L R N T W O S r) : cs_Rd p' H' V' L' R' N' T' W' O' S' r := by
  rcases h with ⟨h1, h2⟩ | ⟨q, hq, h1, h2, h3, h4⟩
  · exact Or.inl ⟨eR.trans h1, eO.trans h2⟩
  · exact Or.inr ⟨q, by omega, eR.trans h1, eO.trans h2, by rw [eS, eN, h3], hv q hq h4⟩
theorem cs_sCommit (h : cs_Rel k cr cn pw H V L C R N fn T W O S) :
    cs_Rel k (R 3) (cn + 1) pw H V L C R N (fn + 1) (cs_cp T (3 * 100) (4 * 100) 100) (cs_cp W (3 * 100) (4 * 100) 100) O S := by
  obtain ⟨e, t, p, c, w, hp, hI, ⟨c1, c2, c3⟩, ⟨w1, w2, w3⟩, hr⟩ := h
  exact ⟨by rw [e], cs_cp01 t _ _ _, p, w, w, hp, hI, ⟨w1, w2, cs_vS 3 4 w3⟩, ⟨w1, w2, cs_vO 3 4 (by decide) w3⟩,
    fun r hr3 => cs_rdT (Nat.le_refl p) rfl rfl rfl rfl (fun q _ hv => cs_vO 3 4 (by omega) hv) (hr r hr3)⟩
theorem cs_sAbort (h : cs_Rel k cr cn pw H V L C R N fn T W O S) :
    cs_Rel k cr cn pw H V L C (upd R 3 cr) N fn (cs_cp T (4 * 100) (3 * 100) 100) (cs_cp W (4 * 100) (3 * 100) 100) O S := by
  obtain ⟨e, t, p, c, w, hp, hI, ⟨c1, c2, c3⟩, ⟨w1, w2, w3⟩, hr⟩ := h
  exact ⟨e, cs_cp01 t _ _ _, p, c, c, hp, hI, ⟨c1, c2, cs_vO 4 3 (by decide) c3⟩, ⟨c1, by rw [pk_us]; exact c2, cs_vS 4 3 c3⟩,
    fun r hr3 => cs_rdT (Nat.le_refl p) (pk_un (by omega)) rfl rfl rfl (fun q _ hv => cs_vO 4 3 (by omega) hv) (hr r hr3)⟩
theorem cs_sOpen {j : Nat} (hj : j < 3) (h : cs_Rel k cr cn pw H V L C R N fn T W O S) :
    cs_Rel k cr cn pw H V L C (upd R j cr) (upd N j cn) fn (cs_cp T (4 * 100) (j * 100) 100) (cs_cp W (4 * 100) (j * 100) 100) (upd O j 1) (upd S j fn) := by
  obtain ⟨e, t, p, c, w, hp, hI, ⟨c1, c2, c3⟩, ⟨w1, w2, w3⟩, hr⟩ := h
  refine ⟨e, cs_cp01 t _ _ _, p, c, w, hp, hI, ⟨c1, c2, cs_vO 4 j (by omega) c3⟩, ⟨w1, by rw [pk_un (by omega)]; exact w2, cs_vO 4 j (by omega) w3⟩, ?_⟩
  intro r hr3
  by_cases ej : r = j
  · subst ej
    exact Or.inr ⟨c, c1, by rw [pk_us]; exact c2, pk_us, by rw [pk_us, pk_us]; exact e, cs_vS 4 r c3⟩
  · exact cs_rdT (Nat.le_refl p) (pk_un ej) (pk_un ej) (pk_un ej) (pk_un ej) (fun q _ hv => cs_vO 4 j ej hv) (hr r hr3)
theorem cs_sClose {j : Nat} (hj : j < 3) (h : cs_Rel k cr cn pw H V L C R N fn T W O S) :
    cs_Rel k cr cn pw H V L C (upd R j (-1)) N fn T W (upd O j 0) S := by
  obtain ⟨e, t, p, c, w, hp, hI, hc, ⟨w1, w2, w3⟩, hr⟩ := h
  refine ⟨e, t, p, c, w, hp, hI, hc, ⟨w1, by rw [pk_un (by omega)]; exact w2, w3⟩, ?_⟩
  intro r hr3
  by_cases ej : r = j
  · subst ej
    exact Or.inl ⟨pk_us, pk_us⟩
  · exact cs_rdT (Nat.le_refl p) (pk_un ej) rfl (pk_un ej) rfl (fun q _ hv => hv) (hr r hr3)
theorem cs_sChg {c key l : Nat} {h x : Int32} {T' W' : Nat → Int32} (hp : p < 513) (p1 : 1 ≤ p) (p2 : 3 * p ≤ k + 3) (hI : cs_Inv p H L C) (t : ∀ j, T j = 0 ∨ T j = 1) (ef : fn = cn)
    (hc : c < p ∧ cr = nI c ∧ cs_View H V L T W c 4) (w1 : w < p) (w3 : cs_View H V L T W w 3) (hr : ∀ r, r < 3 → cs_Rd p H V L R N T W O S r)
    (hl : l < p) (el : L (w * 10 + key / 10) = nI l) (hk : key < 100) (hh : h = 0 ∨ h = 1)
    (hf : H (cs_ce L w key) = 0 → h = 0 ∨ cs_cnt (fun k => H (cs_ce L w k)) 100 < 24)
    (hT : ∀ j, j ≠ 3 * 100 + key → T' j = T j) (hW : ∀ j, j ≠ 3 * 100 + key → W' j = W j) (tk : T' (3 * 100 + key) = h) (wk : h = 0 ∨ W' (3 * 100 + key) = x) :
    cs_Rel (k + 3) cr cn (nI (p + 1)) (cs_n H l p (key % 10) h) (cs_n V l p (key % 10) x) (cs_n L w p (key / 10) (nI p)) (upd C p (C w + (h - H (cs_ce L w key)))) (upd R 3 (nI p)) N fn T' W' O S := by
  obtain ⟨c1, c2, c3⟩ := hc
  have hL := hI.2.1
  refine ⟨ef, ?_, p + 1, c, p, ⟨by omega, by omega, rfl⟩, cs_inv2 hp hI w1 hl el hk hh hf,
    ⟨by omega, c2, cs_viewO hp hL c1 (fun j hj => hT _ (by omega)) (fun j hj => hW _ (by omega)) c3⟩,
    ⟨by omega, pk_us, cs_viewN hp hL w1 hl el hk (fun j hj => hT _ (by omega)) (fun j hj => hW _ (by omega)) tk wk w3⟩, ?_⟩
  · intro j
    by_cases e : j = 3 * 100 + key
    · rw [e, tk]; exact hh
    · rw [hT j e]; exact t j
  · intro r hr3
    exact cs_rdT (Nat.le_succ p) (pk_un (by omega)) rfl rfl rfl
      (fun q hq hv => cs_viewO hp hL hq (fun j hj => hT _ (by omega)) (fun j hj => hW _ (by omega)) hv) (hr r hr3)
end
/-- the start -/
theorem cs_s0 : cs_Rel 0 0 0 1 (fun _ => 0) (fun _ => 0) (fun _ => 0) (fun _ => 0) (upd (upd (upd (upd (fun _ => 0) 3 0) 0 (-1)) 1 (-1)) 2 (-1)) (fun _ => 0) 0 (fun _ => 0) (fun _ => 0) (fun _ => 0) (fun _ => 0) := by
  have hv : ∀ q b : Nat, cs_View (fun _ => 0) (fun _ => 0) (fun _ => 0) (fun _ => 0) (fun _ => 0) q b := fun q b j hj => ⟨rfl, Or.inl rfl⟩
  refine ⟨rfl, fun _ => Or.inl rfl, 1, 0, 0, ⟨Nat.le_refl 1, Nat.le_refl 3, rfl⟩, ⟨fun _ => Or.inl rfl, fun q hq i hi => ⟨0, by omega, rfl⟩, fun q hq => ⟨?_, ?_⟩⟩, ⟨by omega, rfl, hv 0 4⟩, ⟨by omega, ?_, hv 0 3⟩, ?_⟩
  · rw [cs_cnt0 100]; omega
  · rw [cs_cnt0 100]; rfl
  · rw [pk_un (by omega), pk_un (by omega), pk_un (by omega), pk_us]; rfl
  · intro r hr
    refine Or.inl ⟨?_, rfl⟩
    by_cases e2 : r = 2
    · rw [e2, pk_us]
    · rw [pk_un e2]
      by_cases e1 : r = 1
      · rw [e1, pk_us]
      · rw [pk_un e1]
        have e0 : r = 0 := by omega
        rw [e0, pk_us]
/-- closing the readers: both loops -/
theorem cs_closeX {post : SX → Prop} {cr cn pw : Int32} {H V L C R N : Nat → Int32}
    (h : post (cr, cn, pw, H, V, L, C, upd (upd (upd R 0 (-1)) 1 (-1)) 2 (-1), N)) : wpX_closeReaders post (cr, cn, pw, H, V, L, C, R, N) := by
  refine ⟨4, ?_⟩
  refine br_f (by decide) ⟨pk_in 0 4 (by decide), nm_r (e' := upd R 0 (-1)) rfl (nm_r (e' := nI 1) rfl ?_)⟩
  refine br_f (by decide) ⟨pk_in 1 4 (by decide), nm_r (e' := upd (upd R 0 (-1)) 1 (-1)) rfl (nm_r (e' := nI 2) rfl ?_)⟩
  refine br_f (by decide) ⟨pk_in 2 4 (by decide), nm_r (e' := upd (upd (upd R 0 (-1)) 1 (-1)) 2 (-1)) rfl (nm_r (e' := nI 3) rfl ?_)⟩
  exact br_t (by decide) h
theorem cs_closeY {post : Int32 → SY → Prop} {fn : Int32} {T W O S : Nat → Int32}
    (h : post fn (fn, T, W, upd (upd (upd O 0 0) 1 0) 2 0, S)) : wY_crash_28 post fn 4 0 T W O S := by
  refine br_f (by decide) ⟨pk_in 0 3 (by decide), nm_r (e' := upd O 0 0) rfl (nm_r (e' := nI 1) rfl ?_)⟩
  refine br_f (by decide) ⟨pk_in 1 3 (by decide), nm_r (e' := upd (upd O 0 0) 1 0) rfl (nm_r (e' := nI 2) rfl ?_)⟩
  refine br_f (by decide) ⟨pk_in 2 3 (by decide), nm_r (e' := upd (upd (upd O 0 0) 1 0) 2 0) rfl (nm_r (e' := nI 3) rfl ?_)⟩
  exact br_t (by decide) h
