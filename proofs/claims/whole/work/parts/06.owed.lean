theorem i_vc0 : wpX_init (fun u => wpY_init (fun v => i_Rel 0 u v)) := by
  unfold wpX_init
  refine nm_e ?_
  exact cs_closeX (post := fun u => wpY_init (fun v => i_Rel 0 u v)) cs_s0
theorem cs_free {post : Int32 → Prop} {cr cn : Int32} {H V L C R N : Nat → Int32} {p : Nat} (hp : p < 513) (h : post 1) : wpX_hasFreePage post (cr, cn, nI p, H, V, L, C, R, N) :=
  br_f (nI_ge (b := 513) hp (by decide)) h
theorem cs_300 (j : Nat) : 300 + nI j = nI (3 * 100 + j) := nI_add 300 j
theorem i_vc_put {k : Nat} {u : SX} {v : SY} (I : i_Rel k u v) (hk : k + 3 ≤ 1536) (v1 : Int32) (v2 : Int32) : wpX_put (fun r u' => wpY_put (fun r' v' => r' = r ∧ i_Rel (k + 3) u' v') v v1 v2) u v1 v2 := by
  obtain ⟨cr, cn, pw, H, V, L, C, R, N⟩ := u
  obtain ⟨fn, T, W, O, S⟩ := v
  have J := i_up I
  obtain ⟨ef, t, p, c, w, ⟨p1, p2, rfl⟩, hI, hc, ⟨w1, w2, w3⟩, hr⟩ := I
  have hp : p < 513 := by omega
  obtain ⟨h01, hL, hS⟩ := id hI
  unfold wpX_put wpY_put
  dsimp only
  rcases pk_ix v1 (n := 100) (by decide) with h | h | ⟨key, hkey, rfl⟩
  · exact cs_kXf (Or.inl h) (br_t rfl (cs_kYf (Or.inl h) (br_t rfl ⟨rfl, J⟩)))
  · exact cs_kXf (Or.inr h) (br_t rfl (cs_kYf (Or.inr h) (br_t rfl ⟨rfl, J⟩)))
  · obtain ⟨l, hl, el⟩ := hL w w1 (key / 10) (by omega)
    obtain ⟨s1, s2⟩ := hS w w1
    obtain ⟨t1, t2⟩ := w3 key hkey
    have yv : vp_in (300 + nI key) 500 := pk_in (3 * 100 + key) 500 (by omega) (cs_300 key)
    have yc : (300 + nI key).toNatClampNeg = 3 * 100 + key := pk_cl (3 * 100 + key) (cs_300 key)
    have sees : ∀ post : Int32 → Prop, post 1 → wpY_sees post (fn, T, W, O, S) (nI 3) := fun post g => br_t rfl g
    have ec : cs_cnt (fun k => T (3 * 100 + k)) 100 = cs_cnt (fun k => H (cs_ce L w k)) 100 := cs_cntC 100 (fun j hj => (w3 j hj).1)
    have chg : (H (cs_ce L w key) = 0 → cs_cnt (fun k => H (cs_ce L w k)) 100 < 24) → cs_Rel (k + 3) cr cn (nI (p + 1)) (cs_n H l p (key % 10) 1) (cs_n V l p (key % 10) v2) (cs_n L w p (key / 10) (nI p)) (upd C p (C w + (1 - H (cs_ce L w key)))) (upd R 3 (nI p)) N fn (upd T (3 * 100 + key) 1) (upd W (3 * 100 + key) v2) O S := fun hf =>
      cs_sChg hp p1 p2 hI t ef hc w1 w3 hr hl el hkey (Or.inr rfl) (fun z => Or.inr (hf z)) (fun j hj => pk_un hj) (fun j hj => pk_un hj) pk_us (Or.inr pk_us)
    refine cs_kXt hkey (br_f cs_01 ?_)
    rw [w2]
    refine cs_holds h01 hL (by omega) w1 hkey ?_
    by_cases z : H (cs_ce L w key) = 0
    · refine br_t z ⟨vp_in_nI (by omega) (by decide), ?_⟩
      rw [nI_clamp (by omega), s2]
      by_cases f : cs_cnt (fun k => H (cs_ce L w k)) 100 < 24
      · have f2 : nI (cs_cnt (fun k => H (cs_ce L w k)) 100) < 24 := nI_lt (b := 24) f (by decide)
        have f3 : ¬ nI (cs_cnt (fun k => H (cs_ce L w k)) 100) = 24 := cs_ne (b := 24) (by omega) (by omega) (by decide)
        refine br_t f2 ?_
        unfold wX_put_44
        refine cs_free hp (br_f cs_01 (cs_wc h01 hp w1 w2 hl el hkey (Or.inr rfl) (br_t z ?_)))
        refine cs_kYt hkey (br_f cs_01 ⟨yv, nm_r (e' := 0) (by rw [yc, t1, z]) (br_t rfl ?_)⟩)
        refine cs_sizeY (b := 3) (by decide) sees ?_
        rw [ec]
        refine br_f f3 ?_
        exact ⟨yv, nm_r (e' := upd T (3 * 100 + key) 1) (by rw [yc]; rfl) ⟨yv, nm_r (e' := upd W (3 * 100 + key) v2) (by rw [yc]) (br_t rfl ⟨rfl, chg (fun _ => f)⟩)⟩⟩
      · have f1 : cs_cnt (fun k => H (cs_ce L w k)) 100 = 24 := by omega
        rw [f1]
        refine br_f (nI_nlt (a := 24) (b := 24) (by decide) (by decide)) ?_
        refine cs_kYt hkey (br_f cs_01 ⟨yv, nm_r (e' := 0) (by rw [yc, t1, z]) (br_t rfl ?_)⟩)
        refine cs_sizeY (b := 3) (by decide) sees ?_
        rw [ec, f1]
        exact br_t rfl ⟨rfl, J⟩
    · refine br_f z ?_
      unfold wX_put_44
      refine cs_free hp (br_f cs_01 (cs_wc h01 hp w1 w2 hl el hkey (Or.inr rfl) (br_f z ?_)))
      refine cs_kYt hkey (br_f cs_01 ⟨yv, nm_r (e' := H (cs_ce L w key)) (by rw [yc, t1]) (br_f z ?_)⟩)
      exact ⟨yv, nm_r (e' := upd T (3 * 100 + key) 1) (by rw [yc]; rfl) ⟨yv, nm_r (e' := upd W (3 * 100 + key) v2) (by rw [yc]) (br_f z ⟨rfl, chg (fun z2 => absurd z2 z)⟩)⟩⟩
theorem i_vc_erase {k : Nat} {u : SX} {v : SY} (I : i_Rel k u v) (hk : k + 3 ≤ 1536) (v1 : Int32) : wpX_erase (fun r u' => wpY_erase (fun r' v' => r' = r ∧ i_Rel (k + 3) u' v') v v1) u v1 := by
  obtain ⟨cr, cn, pw, H, V, L, C, R, N⟩ := u
  obtain ⟨fn, T, W, O, S⟩ := v
  have J := i_up I
  obtain ⟨ef, t, p, c, w, ⟨p1, p2, rfl⟩, hI, hc, ⟨w1, w2, w3⟩, hr⟩ := I
  have hp : p < 513 := by omega
  obtain ⟨h01, hL, hS⟩ := id hI
  unfold wpX_erase wpY_erase
  dsimp only
  rcases pk_ix v1 (n := 100) (by decide) with h | h | ⟨key, hkey, rfl⟩
  · exact cs_kXf (Or.inl h) (br_t rfl (cs_kYf (Or.inl h) (br_t rfl ⟨rfl, J⟩)))
  · exact cs_kXf (Or.inr h) (br_t rfl (cs_kYf (Or.inr h) (br_t rfl ⟨rfl, J⟩)))
  · obtain ⟨l, hl, el⟩ := hL w w1 (key / 10) (by omega)
    obtain ⟨t1, t2⟩ := w3 key hkey
    have yv : vp_in (300 + nI key) 500 := pk_in (3 * 100 + key) 500 (by omega) (cs_300 key)
    have yc : (300 + nI key).toNatClampNeg = 3 * 100 + key := pk_cl (3 * 100 + key) (cs_300 key)
    refine cs_kXt hkey (br_f cs_01 ?_)
    rw [w2]
    refine cs_holds h01 hL (by omega) w1 hkey ?_
    by_cases z : H (cs_ce L w key) = 0
    · refine br_t z (cs_kYt hkey (br_f cs_01 ⟨yv, ?_⟩))
      rw [yc, t1]
      refine br_t z ⟨yv, nm_r (e' := T) ?_ ⟨rfl, J⟩⟩
      rw [yc]
      funext j
      by_cases e : j = 3 * 100 + key
      · rw [e, pk_us, t1, z]; rfl
      · exact pk_un e
    · refine br_f z (cs_free hp (br_f cs_01 (cs_wc h01 hp w1 w2 hl el hkey (Or.inl rfl) (cs_kYt hkey (br_f cs_01 ⟨yv, ?_⟩)))))
      rw [yc, t1]
      refine br_f z ⟨yv, nm_r (e' := upd T (3 * 100 + key) 0) (by rw [yc]; rfl) ⟨rfl, ?_⟩⟩
      exact cs_sChg hp p1 p2 hI t ef hc w1 w3 hr hl el hkey (Or.inl rfl) (fun _ => Or.inl rfl) (fun j hj => pk_un hj) (fun j hj => rfl) pk_us (Or.inl rfl)
theorem i_vc_has {k : Nat} {u : SX} {v : SY} (I : i_Rel k u v) (hk : k + 3 ≤ 1536) (v1 : Int32) (v2 : Int32) : wpX_has (fun r => wpY_has (fun r' => r' = r ∧ i_Rel (k + 3) u v) v v1 v2) u v1 v2 := by
  obtain ⟨cr, cn, pw, H, V, L, C, R, N⟩ := u
  obtain ⟨fn, T, W, O, S⟩ := v
  have J := i_up I
  obtain ⟨ef, t, p, c, w, ⟨p1, p2, rfl⟩, ⟨h01, hL, hS⟩, hc, ⟨w1, w2, w3⟩, hr⟩ := I
  rcases cs_has (cr := cr) (cn := cn) (pw := nI p) (C := C) (fn := fn) (by omega) h01 hL w1 w2 w3 hr v1 v2 with ⟨hX, hY⟩ | ⟨b, q, j, hb, hq, hj, rfl, rfl, eR, hv, z, hX, hY⟩
  · exact hX _ (hY _ ⟨rfl, J⟩)
  · exact hX _ (hY _ ⟨rfl, J⟩)
theorem i_vc_get {k : Nat} {u : SX} {v : SY} (I : i_Rel k u v) (hk : k + 3 ≤ 1536) (v1 : Int32) (v2 : Int32) : wpX_get (fun r => wpY_get (fun r' => r' = r ∧ i_Rel (k + 3) u v) v v1 v2) u v1 v2 := by
  obtain ⟨cr, cn, pw, H, V, L, C, R, N⟩ := u
  obtain ⟨fn, T, W, O, S⟩ := v
  have J := i_up I
  obtain ⟨ef, t, p, c, w, ⟨p1, p2, rfl⟩, ⟨h01, hL, hS⟩, hc, ⟨w1, w2, w3⟩, hr⟩ := I
  unfold wpX_get wpY_get
  dsimp only
  rcases cs_has (cr := cr) (cn := cn) (pw := nI p) (C := C) (fn := fn) (by omega) h01 hL w1 w2 w3 hr v1 v2 with ⟨hX, hY⟩ | ⟨b, q, j, hb, hq, hj, rfl, rfl, eR, hv, z, hX, hY⟩
  · exact hX _ (br_t rfl (hY _ (br_t rfl ⟨rfl, J⟩)))
  · refine hX _ (br_f cs_01 ⟨vp_in_nI hb (by decide), ?_⟩)
    rw [nI_clamp (by omega), eR]
    have hce := cs_ceL hL (by omega) hq hj
    refine cs_cellOf hL (by omega) hq hj ⟨vp_in_nI (by omega) (by decide), ?_⟩
    refine hY _ (br_f cs_01 ⟨pk_in (b * 100 + j) 500 (by omega) (cs_ix b 100 j), ?_, J⟩)
    rw [cs_ix b 100 j, nI_clamp (by omega), nI_clamp (by omega)]
    exact (hv j hj).2.resolve_left z
theorem i_vc_next {k : Nat} {u : SX} {v : SY} (I : i_Rel k u v) (hk : k + 3 ≤ 1536) (v1 : Int32) (v2 : Int32) : wpX_next (fun r => wpY_next (fun r' => r' = r ∧ i_Rel (k + 3) u v) v v1 v2) u v1 v2 := by
  obtain ⟨cr, cn, pw, H, V, L, C, R, N⟩ := u
  obtain ⟨fn, T, W, O, S⟩ := v
  have J := i_up I
  obtain ⟨ef, t, p, c, w, ⟨p1, p2, rfl⟩, ⟨h01, hL, hS⟩, hc, ⟨w1, w2, w3⟩, hr⟩ := I
  unfold wpX_next wpY_next
  dsimp only
  rcases cs_who (cr := cr) (cn := cn) (pw := nI p) (C := C) (fn := fn) (by omega) w1 w2 w3 hr v1 with ⟨hX, hY⟩ | ⟨b, q, hb, hq, rfl, eR, hv, hX, hY⟩
  · exact hX _ (br_t rfl (hY _ (br_t rfl ⟨rfl, J⟩)))
  · obtain ⟨r, gX, gY⟩ := cs_next (cr := cr) (cn := cn) (pw := nI p) (C := C) (N := N) (fn := fn) (O := O) (S := S) (by omega) h01 hL hb hq eR hv v2 100 0 rfl
    rw [nI_0] at gX gY
    exact hX _ (br_f cs_01 ⟨_, gX _ (hY _ (br_f cs_01 ⟨_, gY _ ⟨rfl, J⟩⟩))⟩)
theorem i_vc_size {k : Nat} {u : SX} {v : SY} (I : i_Rel k u v) (hk : k + 3 ≤ 1536) (v1 : Int32) : wpX_size (fun r => wpY_size (fun r' => r' = r ∧ i_Rel (k + 3) u v) v v1) u v1 := by
  obtain ⟨cr, cn, pw, H, V, L, C, R, N⟩ := u
  obtain ⟨fn, T, W, O, S⟩ := v
  have J := i_up I
  obtain ⟨ef, t, p, c, w, ⟨p1, p2, rfl⟩, ⟨h01, hL, hS⟩, hc, ⟨w1, w2, w3⟩, hr⟩ := I
  unfold wpX_size
  dsimp only
  rcases cs_who (cr := cr) (cn := cn) (pw := nI p) (C := C) (fn := fn) (by omega) w1 w2 w3 hr v1 with ⟨hX, hY⟩ | ⟨b, q, hb, hq, rfl, eR, hv, hX, hY⟩
  · refine hX _ (br_t rfl ?_)
    unfold wpY_size
    dsimp only
    exact hY _ (br_t rfl ⟨rfl, J⟩)
  · refine hX _ (br_f cs_01 ⟨vp_in_nI hb (by decide), ?_⟩)
    rw [nI_clamp (by omega), eR]
    refine ⟨vp_in_nI (by omega) (by decide), ?_⟩
    refine cs_sizeY hb hY ⟨?_, J⟩
    rw [nI_clamp (by omega), (hS q hq).2, cs_cntC 100 (fun j hj => (hv j hj).1)]
theorem i_vc_commit {k : Nat} {u : SX} {v : SY} (I : i_Rel k u v) (hk : k + 3 ≤ 1536) : wpX_commit (fun r u' => wpY_commit (fun r' v' => r' = r ∧ i_Rel (k + 3) u' v') v) u := by
  obtain ⟨cr, cn, pw, H, V, L, C, R, N⟩ := u
  obtain ⟨fn, T, W, O, S⟩ := v
  have J : cs_Rel (k + 3) _ _ _ _ _ _ _ _ _ _ _ _ _ _ := i_up I
  unfold wpX_commit wpY_commit
  dsimp only
  refine nm_e (nm_e ?_)
  refine cs_copyY 3 4 (by decide) (by decide) (by decide) J.2.1 (nm_e ⟨by rw [J.1], ?_⟩)
  exact cs_sCommit J
theorem i_vc_abort {k : Nat} {u : SX} {v : SY} (I : i_Rel k u v) (hk : k + 3 ≤ 1536) : wpX_abort (fun r u' => wpY_abort (fun r' v' => r' = r ∧ i_Rel (k + 3) u' v') v) u := by
  obtain ⟨cr, cn, pw, H, V, L, C, R, N⟩ := u
  obtain ⟨fn, T, W, O, S⟩ := v
  have J : cs_Rel (k + 3) _ _ _ _ _ _ _ _ _ _ _ _ _ _ := i_up I
  unfold wpX_abort wpY_abort
  dsimp only
  refine nm_e ?_
  refine cs_copyY 4 3 (by decide) (by decide) (by decide) J.2.1 ⟨J.1, ?_⟩
  exact cs_sAbort J
theorem i_vc_open {k : Nat} {u : SX} {v : SY} (I : i_Rel k u v) (hk : k + 3 ≤ 1536) (v1 : Int32) : wpX_open (fun r u' => wpY_open (fun r' v' => r' = r ∧ i_Rel (k + 3) u' v') v v1) u v1 := by
  obtain ⟨cr, cn, pw, H, V, L, C, R, N⟩ := u
  obtain ⟨fn, T, W, O, S⟩ := v
  have J : cs_Rel (k + 3) _ _ _ _ _ _ _ _ _ _ _ _ _ _ := i_up I
  unfold wpX_open wpY_open
  dsimp only
  rcases pk_ix v1 (n := 3) (by decide) with h | h | ⟨j, hj, rfl⟩
  · exact cs_rXf (Or.inl h) (br_t rfl (cs_rYf (Or.inl h) (br_t rfl ⟨rfl, J⟩)))
  · exact cs_rXf (Or.inr h) (br_t rfl (cs_rYf (Or.inr h) (br_t rfl ⟨rfl, J⟩)))
  · have ic : (nI j).toNatClampNeg = j := nI_clamp (by omega)
    have i3 : vp_in (nI j) 3 := vp_in_nI hj (by decide)
    refine cs_rXt hj (br_f cs_01 ⟨vp_in_nI (by omega) (by decide), nm_r (e' := upd R j cr) (by rw [ic]) ⟨i3, nm_r (e' := upd N j cn) (by rw [ic]) ?_⟩⟩)
    refine cs_rYt hj (br_f cs_01 ?_)
    refine cs_copyY 4 j (by omega) (by decide) (by omega) J.2.1 ⟨i3, nm_r (e' := upd O j 1) (by rw [ic]; rfl) ⟨i3, nm_r (e' := upd S j fn) (by rw [ic]) ⟨J.1, ?_⟩⟩⟩
    exact cs_sOpen hj J
theorem i_vc_close {k : Nat} {u : SX} {v : SY} (I : i_Rel k u v) (hk : k + 3 ≤ 1536) (v1 : Int32) : wpX_close (fun r u' => wpY_close (fun r' v' => r' = r ∧ i_Rel (k + 3) u' v') v v1) u v1 := by
  obtain ⟨cr, cn, pw, H, V, L, C, R, N⟩ := u
  obtain ⟨fn, T, W, O, S⟩ := v
  have J : cs_Rel (k + 3) _ _ _ _ _ _ _ _ _ _ _ _ _ _ := i_up I
  unfold wpX_close wpY_close
  dsimp only
  rcases pk_ix v1 (n := 3) (by decide) with h | h | ⟨j, hj, rfl⟩
  · exact cs_rXf (Or.inl h) (br_t rfl (cs_rYf (Or.inl h) (br_t rfl ⟨rfl, J⟩)))
  · exact cs_rXf (Or.inr h) (br_t rfl (cs_rYf (Or.inr h) (br_t rfl ⟨rfl, J⟩)))
  · have ic : (nI j).toNatClampNeg = j := nI_clamp (by omega)
    have i3 : vp_in (nI j) 3 := vp_in_nI hj (by decide)
    have K := cs_sClose hj J
    obtain ⟨ef, t, p, c, w, ⟨p1, p2, rfl⟩, hI, hc, hw, hr⟩ := I
    refine cs_rXt hj (br_f cs_01 ?_)
    rcases cs_rdr (cr := cr) (cn := cn) (pw := nI p) (C := C) (by omega) hj (hr j hj) with ⟨o, hX⟩ | ⟨o, _, hX⟩
    · refine hX _ ⟨vp_in_nI (by omega) (by decide), nm_r (e' := upd R j (-1)) (by rw [ic]) (br_t rfl ?_)⟩
      refine cs_rYt hj (br_f cs_01 ⟨i3, ?_⟩)
      rw [ic, o]
      exact br_t rfl ⟨i3, nm_r (e' := upd O j 0) (by rw [ic]; rfl) ⟨rfl, K⟩⟩
    · refine hX _ ⟨vp_in_nI (by omega) (by decide), nm_r (e' := upd R j (-1)) (by rw [ic]) (br_f cs_01 ?_)⟩
      refine cs_rYt hj (br_f cs_01 ⟨i3, ?_⟩)
      rw [ic, o]
      exact br_f cs_01 ⟨i3, nm_r (e' := upd O j 0) (by rw [ic]; rfl) ⟨rfl, K⟩⟩
theorem cs_25X {post : Int32 → SX → Prop} {cr cn pw : Int32} {H V L C R N : Nat → Int32}
    (h : post cn (cr, cn, pw, H, V, L, C, upd (upd (upd (upd R 3 cr) 0 (-1)) 1 (-1)) 2 (-1), N)) : wX_crash_25 post cr cn pw H V L C R N := by
  unfold wX_crash_25
  refine nm_e ?_
  refine cs_closeX ?_
  exact h
theorem cs_21Y {post : Int32 → SY → Prop} {fn : Int32} {T W O S : Nat → Int32} (t : ∀ j, T j = 0 ∨ T j = 1)
    (h : post fn (fn, cs_cp T (4 * 100) (3 * 100) 100, cs_cp W (4 * 100) (3 * 100) 100, upd (upd (upd O 0 0) 1 0) 2 0, S)) : wY_crash_21 post fn T W O S := by
  unfold wY_crash_21 wpY_abort
  dsimp only
  refine cs_copyY 4 3 (by decide) (by decide) (by decide) t ⟨4, ?_⟩
  exact cs_closeY h
theorem cs_sCrash {k : Nat} {cr cn pw : Int32} {H V L C R N : Nat → Int32} {fn : Int32} {T W O S : Nat → Int32} (h : cs_Rel k cr cn pw H V L C R N fn T W O S) :
    cs_Rel k cr cn pw H V L C (upd (upd (upd (upd R 3 cr) 0 (-1)) 1 (-1)) 2 (-1)) N fn (cs_cp T (4 * 100) (3 * 100) 100) (cs_cp W (4 * 100) (3 * 100) 100) (upd (upd (upd O 0 0) 1 0) 2 0) S :=
  cs_sClose (by decide) (cs_sClose (by decide) (cs_sClose (by decide) (cs_sAbort h)))
theorem i_vc_crash {k : Nat} {u : SX} {v : SY} (I : i_Rel k u v) (hk : k + 3 ≤ 1536) (v1 : Int32) : wpX_crash (fun r u' => wpY_crash (fun r' v' => r' = r ∧ i_Rel (k + 3) u' v') v v1) u v1 := by
  obtain ⟨cr, cn, pw, H, V, L, C, R, N⟩ := u
  obtain ⟨fn, T, W, O, S⟩ := v
  have J : cs_Rel (k + 3) _ _ _ _ _ _ _ _ _ _ _ _ _ _ := i_up I
  have no : ∀ x : Int32, ¬ x = 1 → ∀ post : Int32 → SX → Prop, post cn (cr, cn, pw, H, V, L, C, upd (upd (upd (upd R 3 cr) 0 (-1)) 1 (-1)) 2 (-1), N) → wX_crash_16 post x cr cn pw H V L C R N := by
    intro x hx post h
    exact br_f hx (cs_25X h)
  unfold wpX_crash wpY_crash
  dsimp only
  rcases pk_ix v1 (n := 3) (by decide) with h | h | ⟨j, hj, rfl⟩
  · have n0 : ¬ v1 = 0 := by
      intro e
      subst e
      exact absurd h (by decide)
    have n1 : ¬ v1 = 1 := by
      intro e
      subst e
      exact absurd h (by decide)
    have n2 : ¬ v1 = 2 := by
      intro e
      subst e
      exact absurd h (by decide)
    exact br_f n0 (br_f n1 (br_f n2 (br_t h ⟨rfl, J⟩)))
  · have n0 : ¬ v1 = 0 := by
      intro e
      subst e
      exact absurd h (by decide)
    have n1 : ¬ v1 = 1 := by
      intro e
      subst e
      exact absurd h (by decide)
    have n2 : ¬ v1 = 2 := by
      intro e
      subst e
      exact absurd h (by decide)
    have n3 : ¬ v1 < 0 := by
      intro z
      have z2 : nI 3 < 0 := Int32.lt_of_le_of_lt h z
      exact nI_pos (n := 3) (by decide) z2
    have n4 : ¬ v1 ≤ 2 := by
      intro z
      have z2 : nI 3 ≤ nI 2 := Int32.le_trans h z
      exact nI_ge (a := 2) (b := 3) (by decide) (by decide) z2
    exact br_f n0 (br_f n1 (br_f n2 (br_f n3 (br_f n4 ⟨rfl, J⟩))))
  · have m0 : ¬ nI j < 0 := nI_pos (by omega)
    have m2 : nI j ≤ 2 := nI_le (b := 2) (by omega) (by decide)
    have e3 : j = 0 ∨ j = 1 ∨ j = 2 := by omega
    rcases e3 with rfl | rfl | rfl
    · refine br_t rfl (no _ (by decide) _ ?_)
      exact br_f m0 (br_t m2 (br_f (by decide) (cs_21Y J.2.1 ⟨J.1, cs_sCrash J⟩)))
    · refine br_f (by decide) (br_t rfl (br_t rfl (nm_e (nm_e (cs_25X ?_)))))
      refine br_f m0 (br_t m2 (br_t rfl ?_))
      have K := cs_sCommit J
      unfold wpY_commit
      dsimp only
      refine cs_copyY 3 4 (by decide) (by decide) (by decide) J.2.1 (nm_e ?_)
      exact cs_21Y K.2.1 ⟨K.1, cs_sCrash K⟩
    · refine br_f (by decide) (br_f (by decide) (br_t rfl (no _ (by decide) _ ?_)))
      exact br_f m0 (br_t m2 (br_f (by decide) (cs_21Y J.2.1 ⟨J.1, cs_sCrash J⟩)))
theorem i_vc_number {k : Nat} {u : SX} {v : SY} (I : i_Rel k u v) (hk : k + 3 ≤ 1536) : wpX_number (fun r => wpY_number (fun r' => r' = r ∧ i_Rel (k + 3) u v) v) u := by
  obtain ⟨cr, cn, pw, H, V, L, C, R, N⟩ := u
  obtain ⟨fn, T, W, O, S⟩ := v
  have J : cs_Rel (k + 3) _ _ _ _ _ _ _ _ _ _ _ _ _ _ := i_up I
  exact ⟨J.1, J⟩
theorem i_vc_seen {k : Nat} {u : SX} {v : SY} (I : i_Rel k u v) (hk : k + 3 ≤ 1536) (v1 : Int32) : wpX_seen (fun r => wpY_seen (fun r' => r' = r ∧ i_Rel (k + 3) u v) v v1) u v1 := by
  obtain ⟨cr, cn, pw, H, V, L, C, R, N⟩ := u
  obtain ⟨fn, T, W, O, S⟩ := v
  have J : cs_Rel (k + 3) _ _ _ _ _ _ _ _ _ _ _ _ _ _ := i_up I
  unfold wpX_seen wpY_seen
  dsimp only
  rcases pk_ix v1 (n := 3) (by decide) with h | h | ⟨j, hj, rfl⟩
  · exact cs_rXf (Or.inl h) (br_t rfl (cs_rYf (Or.inl h) (br_t rfl ⟨rfl, J⟩)))
  · exact cs_rXf (Or.inr h) (br_t rfl (cs_rYf (Or.inr h) (br_t rfl ⟨rfl, J⟩)))
  · have ic : (nI j).toNatClampNeg = j := nI_clamp (by omega)
    have i3 : vp_in (nI j) 3 := vp_in_nI hj (by decide)
    obtain ⟨ef, t, p, c, w, ⟨p1, p2, rfl⟩, hI, hc, hw, hr⟩ := I
    refine cs_rXt hj (br_f cs_01 ?_)
    rcases cs_rdr (cr := cr) (cn := cn) (pw := nI p) (C := C) (by omega) hj (hr j hj) with ⟨o, hX⟩ | ⟨o, s, hX⟩
    · refine hX _ (br_t rfl (cs_rYt hj (br_f cs_01 ⟨i3, ?_⟩)))
      rw [ic, o]
      exact br_t rfl ⟨rfl, J⟩
    · refine hX _ (br_f cs_01 ⟨i3, cs_rYt hj (br_f cs_01 ⟨i3, ?_⟩)⟩)
      rw [ic, o]
      exact br_f cs_01 ⟨i3, s, J⟩
