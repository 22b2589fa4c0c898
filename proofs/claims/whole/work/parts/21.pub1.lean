/-! ===== calls on both ===== -/
def gS (a j : Nat) : Prop := a = 2 ∨ a = 3 ∨ a = 4 ∨ a = 5 ∨ a = 43 ∨ a = 44 ∨ a = 45 ∨ (a = 42 ∧ 1 ≤ j ∧ j ≤ 5)
def gM (a j : Nat) : Prop := a = 32 ∨ a = 33 ∨ a = 46 ∨ a = 47 ∨ a = 48 ∨ a = 49 ∨ (a = 42 ∧ j = 8)
def gP (a _j : Nat) : Prop := a = 36 ∨ a = 50
def gD (a j : Nat) : Prop := a = 38 ∨ a = 39 ∨ a = 40 ∨ a = 41 ∨ a = 51 ∨ a = 52 ∨ a = 53 ∨ (a = 42 ∧ j = 14)
def gK (a j : Nat) : Prop := a = 0 ∨ (9 ≤ a ∧ a ≤ 25) ∨ a = 62 ∨ (a = 42 ∧ j = 28)
theorem SXc.cg' {t : Nat → Nat} {f sh sk : Nat} {n w : Nat → Nat} {h h' : zH} (hs : SXc t f sh sk n w h) (he : ∀ a j, gS a j → h'.1 a j = h.1 a j) (hr : RK h' t n w) : SXc t f sh sk n w h' := by
  obtain ⟨a1, a2, a3, a4, a5, a6, a7, a8, a9, a10, a11, a12, a13⟩ := hs
  have e : ∀ a j, gS a j → h'.1 a j = h.1 a j := he
  refine ⟨a1, a2, a3, a4, fun j hj => ?_, ?_, ?_, ?_, ?_, ?_, fun k hk => ?_, fun j hj => ?_, hr⟩
  · rw [e 2 j (by simp [gS]), e 43 j (by simp [gS])]; exact a5 j hj
  · dsimp only; rw [e 3 0 (by simp [gS]), e 42 (0 + 1) (by simp [gS])]; exact a6
  · dsimp only; rw [e 3 1 (by simp [gS]), e 42 (1 + 1) (by simp [gS])]; exact a7
  · dsimp only; rw [e 3 2 (by simp [gS]), e 42 (2 + 1) (by simp [gS])]; exact a8
  · dsimp only; rw [e 3 3 (by simp [gS]), e 42 (3 + 1) (by simp [gS])]; exact a9
  · dsimp only; rw [e 3 4 (by simp [gS]), e 42 (4 + 1) (by simp [gS])]; exact a10
  · rw [e 5 k (by simp [gS]), e 44 k (by simp [gS])]; exact a11 k hk
  · rw [e 4 j (by simp [gS]), e 45 j (by simp [gS])]; exact a12 j hj
theorem IM.cg {h h' : zH} (hi : IM h) (he : ∀ a j, gM a j → h'.1 a j = h.1 a j) : IM h' := by
  obtain ⟨mk, nm, ⟨a1, a2, a3⟩, ⟨b1, b2, b3⟩⟩ := hi
  refine ⟨mk, nm, ⟨a1, by rw [he 32 2 (by simp [gM])]; exact a2, fun m hm => ?_⟩, ⟨b1, by rw [he 42 8 (by simp [gM])]; exact b2, fun m hm => ?_⟩⟩
  · rw [he 33 _ (by simp [gM]), he 33 _ (by simp [gM]), he 33 _ (by simp [gM]), he 33 _ (by simp [gM])]; exact a3 m hm
  · rw [he 46 _ (by simp [gM]), he 47 _ (by simp [gM]), he 48 _ (by simp [gM]), he 49 _ (by simp [gM])]; exact b3 m hm
theorem IP.cg {h h' : zH} (hi : IP h) (he : ∀ a j, gP a j → h'.1 a j = h.1 a j) : IP h' := fun p hp => by rw [he 36 p (by simp [gP]), he 50 p (by simp [gP])]; exact hi p hp
theorem ID.cg {h h' : zH} (hi : ID h) (he : ∀ a j, gD a j → h'.1 a j = h.1 a j) : ID h' := by
  obtain ⟨nd, a, b, c, d⟩ := hi
  exact ⟨nd, a, by rw [he 38 3 (by simp [gD])]; exact b, by rw [he 42 14 (by simp [gD])]; exact c, fun k hk => by rw [he 39 k (by simp [gD]), he 40 k (by simp [gD]), he 41 k (by simp [gD]), he 51 k (by simp [gD]), he 52 k (by simp [gD]), he 53 k (by simp [gD])]; exact d k hk⟩
theorem SXk.cg {t : Nat → Nat} {f sh sk : Nat} {n w : Nat → Nat} {p : Nat} {h h' : zH} (hs : SXk t f sh sk n w p h) (hp : p < 3) (he : ∀ a j, gK a j → h'.1 a j = h.1 a j) : SXk t f sh sk n w p h' := by
  have e : ∀ i j, i < 5 → h'.1 (9 + i + 6 * p) j = h.1 (9 + i + 6 * p) j := fun i j hi => he _ _ (by unfold gK; omega)
  have e2 : ∀ j, h'.1 62 j = h.1 62 j := fun j => he _ _ (by simp [gK])
  exact SX.cg hs (fun j _ => e 0 j (by omega)) (fun j _ => e 1 j (by omega)) (fun j _ => e 2 j (by omega)) (fun j _ => e 3 j (by omega)) (fun j _ => e 4 j (by omega)) (fun j _ => e2 _) (fun j _ => e2 _) (fun j _ => e2 _) (fun j _ => e2 _)
theorem IK.cg {h h' : zH} (hi : IK h) (he : ∀ a j, gK a j → h'.1 a j = h.1 a j) : IK h' := by
  obtain ⟨k, a, b, c, d⟩ := hi
  refine ⟨k, a, by rw [he 0 2 (by simp [gK])]; exact b, by rw [he 42 28 (by simp [gK])]; exact c, fun p hp => ?_⟩
  obtain ⟨t, f, sh, sk, n, w, hs⟩ := d p hp
  exact ⟨t, f, sh, sk, n, w, hs.cg (by omega) he⟩
theorem p_outside {h : zH} (hi : Inv h) (a b c : Int32) : Pair R_X7_outside R_X8_outside [.int a, .int b, .int c] h := by
  obtain ⟨t, f, sh, sk, n, w, hs⟩ := hi.1
  by_cases hv : (0 ≤ a ∧ a ≤ 2) ∧ (0 ≤ b ∧ b ≤ 3) ∧ (0 ≤ c ∧ c ≤ 900)
  · obtain ⟨s, hs1, rfl⟩ := in_n (b := 2) (by omega) hv.1.1 hv.1.2
    obtain ⟨k, hk1, rfl⟩ := in_n (b := 3) (by omega) hv.2.1.1 hv.2.1.2
    obtain ⟨i, hi1, rfl⟩ := in_n (b := 900) (by omega) hv.2.2.1 hv.2.2.2
    exact ⟨.int (valE (lof (bn t f s k) i)), h, h, r_X7_outside _ _ _ _ _ _ ⟨_, rfl⟩ (t_X7_outside_0 _ _ _ _ _ (gd (fun z => absurd hv.1 z) (fun _ _ => gd_isColour (fun z => absurd hv.2.1 z) (fun _ _ => gd_isRight' (fun _ _ => ⟨_, _, c_unbent hs.bt hs1 hk1 (by omega), rfl, rfl⟩) (fun z => absurd hv.2.2 z))))), r_X8_outside _ _ _ _ _ _ ⟨_, rfl⟩ (t_X8_outside_0 _ _ _ _ _ (ge (fun z => absurd hv.1 z) (fun _ _ => ge (fun z => absurd hv.2.1 z) (fun _ _ => ge (fun z => absurd hv.2.2 z) (fun _ _ => ⟨_, _, m_least hs.bm hs1 hk1 (by omega), rfl, rfl⟩))))), hi⟩
  · exact ⟨.int (-1), h, h, r_X7_outside _ _ _ _ _ _ ⟨_, rfl⟩ (t_X7_outside_0 _ _ _ _ _ (gd (fun _ => ⟨rfl, rfl⟩) (fun u0 w0 => gd_isColour (fun _ => ⟨rfl, rfl⟩) (fun u1 w1 => gd_isRight' (fun u2 w2 => absurd ⟨⟨u0, w0⟩, ⟨u1, w1⟩, u2, w2⟩ hv) (fun _ => ⟨rfl, rfl⟩))))), r_X8_outside _ _ _ _ _ _ ⟨_, rfl⟩ (t_X8_outside_0 _ _ _ _ _ (ge (fun _ => ⟨rfl, rfl⟩) (fun u0 w0 => ge (fun _ => ⟨rfl, rfl⟩) (fun u1 w1 => ge (fun _ => ⟨rfl, rfl⟩) (fun u2 w2 => absurd ⟨⟨u0, w0⟩, ⟨u1, w1⟩, u2, w2⟩ hv))))), hi⟩
theorem p_turned {h : zH} (hi : Inv h) (a b c : Int32) : Pair R_X7_turned R_X8_turned [.int a, .int b, .int c] h := by
  obtain ⟨t, f, sh, sk, n, w, hs⟩ := hi.1
  by_cases hv : (200 ≤ a ∧ a ≤ 1200) ∧ (0 ≤ b ∧ b ≤ 3) ∧ (0 ≤ c ∧ c ≤ 900)
  · have h0 : (0 : Int32) ≤ a := Int32.le_trans (by decide) hv.1.1
    obtain ⟨s, hs1, rfl⟩ := in_n (b := 1200) (by omega) h0 hv.1.2
    obtain ⟨k, hk1, rfl⟩ := in_n (b := 3) (by omega) hv.2.1.1 hv.2.1.2
    obtain ⟨i, hi1, rfl⟩ := in_n (b := 900) (by omega) hv.2.2.1 hv.2.2.2
    exact ⟨.int (oV (turnO (bn t f 1 k) s i)), h, h, r_X7_turned _ _ _ _ _ _ ⟨_, rfl⟩ (t_X7_turned_0 _ _ _ _ _ (gd (fun z => absurd hv.1 z) (fun _ _ => gd_isColour (fun z => absurd hv.2.1 z) (fun _ _ => gd_isRight' (fun _ _ => ⟨_, _, c_turnOf hs.bt hs1 hk1 hi1, rfl, rfl⟩) (fun z => absurd hv.2.2 z))))), r_X8_turned _ _ _ _ _ _ ⟨_, rfl⟩ (t_X8_turned_0 _ _ _ _ _ (ge (fun z => absurd hv.1 z) (fun _ _ => ge (fun z => absurd hv.2.1 z) (fun _ _ => ge (fun z => absurd hv.2.2 z) (fun _ _ => ⟨_, _, m_turnedBy hs.bm hs1 hk1 hi1, rfl, rfl⟩))))), hi⟩
  · exact ⟨.int (-100000), h, h, r_X7_turned _ _ _ _ _ _ ⟨_, rfl⟩ (t_X7_turned_0 _ _ _ _ _ (gd (fun _ => ⟨rfl, rfl⟩) (fun u0 w0 => gd_isColour (fun _ => ⟨rfl, rfl⟩) (fun u1 w1 => gd_isRight' (fun u2 w2 => absurd ⟨⟨u0, w0⟩, ⟨u1, w1⟩, u2, w2⟩ hv) (fun _ => ⟨rfl, rfl⟩))))), r_X8_turned _ _ _ _ _ _ ⟨_, rfl⟩ (t_X8_turned_0 _ _ _ _ _ (ge (fun _ => ⟨rfl, rfl⟩) (fun u0 w0 => ge (fun _ => ⟨rfl, rfl⟩) (fun u1 w1 => ge (fun _ => ⟨rfl, rfl⟩) (fun u2 w2 => absurd ⟨⟨u0, w0⟩, ⟨u1, w1⟩, u2, w2⟩ hv))))), hi⟩
theorem p_ring {h : zH} (hi : Inv h) (a b : Int32) : Pair R_X7_ring R_X8_ring [.int a, .int b] h := by
  obtain ⟨t, f, sh, sk, n, w, hs⟩ := hi.1
  by_cases hv : (200 ≤ a ∧ a ≤ 1200) ∧ (0 ≤ b ∧ b ≤ 3)
  · have h0 : (0 : Int32) ≤ a := Int32.le_trans (by decide) hv.1.1
    obtain ⟨s, hs1, rfl⟩ := in_n (b := 1200) (by omega) h0 hv.1.2
    obtain ⟨k, hk1, rfl⟩ := in_n (b := 3) (by omega) hv.2.1 hv.2.2
    exact ⟨.int (oV (rgO (bn t f 1 k) s 901)), h, h, r_X7_ring _ _ _ _ _ ⟨_, rfl⟩ (t_X7_ring_0 _ _ _ _ (gd (fun z => absurd hv.1 z) (fun _ _ => gd_isColour' (fun _ _ => ⟨_, _, c_leastTurn hs.bt hs1 hk1, rfl, rfl⟩) (fun z => absurd hv.2 z)))), r_X8_ring _ _ _ _ _ ⟨_, rfl⟩ (t_X8_ring_0 _ _ _ _ (ge (fun z => absurd hv.1 z) (fun _ _ => ge (fun z => absurd hv.2 z) (fun _ _ => ⟨_, _, m_ringOf hs.bm hs1 hk1, rfl, rfl⟩)))), hi⟩
  · exact ⟨.int (-100000), h, h, r_X7_ring _ _ _ _ _ ⟨_, rfl⟩ (t_X7_ring_0 _ _ _ _ (gd (fun _ => ⟨rfl, rfl⟩) (fun u0 w0 => gd_isColour' (fun u1 w1 => absurd ⟨⟨u0, w0⟩, u1, w1⟩ hv) (fun _ => ⟨rfl, rfl⟩)))), r_X8_ring _ _ _ _ _ ⟨_, rfl⟩ (t_X8_ring_0 _ _ _ _ (ge (fun _ => ⟨rfl, rfl⟩) (fun u0 w0 => ge (fun _ => ⟨rfl, rfl⟩) (fun u1 w1 => absurd ⟨⟨u0, w0⟩, u1, w1⟩ hv)))), hi⟩
theorem p_cut {h : zH} (hi : Inv h) (a b : Int32) : Pair R_X7_cut R_X8_cut [.int a, .int b] h := by
  obtain ⟨t, f, sh, sk, n, w, hs⟩ := hi.1
  by_cases hv : (0 ≤ a ∧ a ≤ 11) ∧ ((-1) ≤ b ∧ b ≤ 1)
  · obtain ⟨p, hp1, rfl⟩ := in_n (b := 11) (by omega) hv.1.1 hv.1.2
    have vp : vp_in (nI p) 12 := vp_in_nI (by omega) (by omega)
    have hc : (nI p).toNatClampNeg = p := nI_clamp (by omega)
    refine ⟨.int (h.1 36 p), zsi h 36 p b, zsi (zsi h 36 p b) 50 p b, r_X7_cut _ _ _ _ _ ⟨_, rfl⟩ (t_X7_cut_0 _ _ _ _ (gd (fun z => absurd hv.1 z) (fun _ _ => gd' (fun _ _ => ⟨vp, vp, ?_⟩) (fun z => absurd hv.2 z)))), r_X8_cut _ _ _ _ _ ⟨_, rfl⟩ (t_X8_cut_0 _ _ _ _ (ge (fun z => absurd hv.1 z) (fun _ _ => ge' (fun _ _ => ⟨vp, vp, ?_⟩) (fun z => absurd hv.2 z)))), ?_⟩
    · rw [hc]; exact ⟨rfl, rfl⟩
    · rw [hc, zr_ne (by omega), (hi.2.2.1 p (by omega)).1]; exact ⟨rfl, rfl⟩
    · have he : ∀ a j, ¬ (a = 36 ∨ a = 50) → (zsi (zsi h 36 p b) 50 p b).1 a j = h.1 a j := fun a j hn => by rw [zr_ne (by omega), zr_ne (by omega)]
      refine ⟨⟨t, f, sh, sk, n, w, hs.cg' (fun a j hg => he a j (by unfold gS at hg; omega)) (fun k hk i hi => by rw [he 6 _ (by omega)]; exact hs.rk k hk i hi)⟩, hi.2.1.cg (fun a j hg => he a j (by unfold gM at hg; omega)), ?_, hi.2.2.2.1.cg (fun a j hg => he a j (by unfold gD at hg; omega)), hi.2.2.2.2.cg (fun a j hg => he a j (by unfold gK at hg; omega))⟩
      intro p' hp'
      by_cases e : p' = p
      · subst e
        rw [zr_eq, zr_ne (by omega), zr_eq]
        refine ⟨rfl, ?_⟩
        have b1 := Int32.le_iff_toInt_le.mp hv.2.1
        have b2 := Int32.le_iff_toInt_le.mp hv.2.2
        have e1 : (-1 : Int32).toInt = -1 := rfl
        have e0 : (0 : Int32).toInt = 0 := rfl
        have e3 : (1 : Int32).toInt = 1 := rfl
        rw [← Int32.toInt_inj, ← Int32.toInt_inj, ← Int32.toInt_inj]
        omega
      · rw [zr_ne (by omega), zr_nj e, zr_nj e]; exact hi.2.2.1 p' hp'
  · exact ⟨.int (-100), h, h, r_X7_cut _ _ _ _ _ ⟨_, rfl⟩ (t_X7_cut_0 _ _ _ _ (gd (fun _ => ⟨rfl, rfl⟩) (fun u0 w0 => gd' (fun u1 w1 => absurd ⟨⟨u0, w0⟩, u1, w1⟩ hv) (fun _ => ⟨rfl, rfl⟩)))), r_X8_cut _ _ _ _ _ ⟨_, rfl⟩ (t_X8_cut_0 _ _ _ _ (ge (fun _ => ⟨rfl, rfl⟩) (fun u0 w0 => ge' (fun u1 w1 => absurd ⟨⟨u0, w0⟩, u1, w1⟩ hv) (fun _ => ⟨rfl, rfl⟩)))), hi⟩
theorem p_noWedges {h : zH} (hi : Inv h) (a : Int32) : Pair R_X7_noWedges R_X8_noWedges [.int a] h := by
  obtain ⟨t, f, sh, sk, n, w, hs⟩ := hi.1
  by_cases hv : (0 ≤ a ∧ a ≤ 3)
  · obtain ⟨k, hk1, rfl⟩ := in_n (b := 3) (by omega) hv.1 hv.2
    have vp : vp_in (nI k) 4 := vp_in_nI (by omega) (by omega)
    have hc : (nI k).toNatClampNeg = k := nI_clamp (by omega)
    obtain ⟨q1, q2, q3⟩ := hs.2.2.2.2.2.2.2.2.2.2.1 k (by omega)
    refine ⟨.int (nI (n k)), zsi h 5 k 0, zsi (zsi h 5 k 0) 44 k 0, r_X7_noWedges _ _ _ _ ⟨_, rfl⟩ (t_X7_noWedges_0 _ _ _ (gd' (fun _ _ => ⟨vp, vp, ?_⟩) (fun z => absurd hv z))), r_X8_noWedges _ _ _ _ ⟨_, rfl⟩ (t_X8_noWedges_0 _ _ _ (ge' (fun _ _ => ⟨vp, vp, ?_⟩) (fun z => absurd hv z))), ?_⟩
    · rw [hc, q2]; exact ⟨rfl, rfl⟩
    · rw [hc, zr_ne (by omega), q3]; exact ⟨rfl, rfl⟩
    · have he : ∀ a j, ¬ (a = 5 ∨ a = 44) → (zsi (zsi h 5 k 0) 44 k 0).1 a j = h.1 a j := fun a j hn => by rw [zr_ne (by omega), zr_ne (by omega)]
      refine ⟨⟨t, f, sh, sk, fun k' => if k' = k then 0 else n k', w, ?_⟩, hi.2.1.cg (fun a j hg => he a j (by unfold gM at hg; omega)), hi.2.2.1.cg (fun a j hg => he a j (by unfold gP at hg; omega)), hi.2.2.2.1.cg (fun a j hg => he a j (by unfold gD at hg; omega)), hi.2.2.2.2.cg (fun a j hg => he a j (by unfold gK at hg; omega))⟩
      obtain ⟨a1, a2, a3, a4, a5, a6, a7, a8, a9, a10, a11, a12, a13⟩ := hs
      refine ⟨a1, a2, a3, a4, fun j hj => by rw [he 2 j (by omega), he 43 j (by omega)]; exact a5 j hj, by dsimp only; rw [he 3 0 (by omega), he 42 _ (by omega)]; exact a6, by dsimp only; rw [he 3 1 (by omega), he 42 _ (by omega)]; exact a7, by dsimp only; rw [he 3 2 (by omega), he 42 _ (by omega)]; exact a8, by dsimp only; rw [he 3 3 (by omega), he 42 _ (by omega)]; exact a9, by dsimp only; rw [he 3 4 (by omega), he 42 _ (by omega)]; exact a10, fun k' hk' => ?_, fun j hj => by rw [he 4 j (by omega), he 45 j (by omega)]; exact a12 j hj, fun k' hk' i hi => ?_⟩
      · by_cases e : k' = k
        · subst e
          dsimp only
          rw [zr_eq, zr_ne (by omega), zr_eq, if_pos rfl]; exact ⟨by omega, rfl, rfl⟩
        · dsimp only
          rw [zr_ne (by omega), zr_nj e, zr_nj e, if_neg e]; exact a11 k' hk'
      · by_cases e : k' = k
        · subst e; dsimp only at hi; rw [if_pos rfl] at hi; omega
        · dsimp only at hi; rw [if_neg e] at hi
          rw [he 6 _ (by omega)]; exact a13 k' hk' i hi
  · exact ⟨.int (-1), h, h, r_X7_noWedges _ _ _ _ ⟨_, rfl⟩ (t_X7_noWedges_0 _ _ _ (gd' (fun u0 w0 => absurd ⟨u0, w0⟩ hv) (fun _ => ⟨rfl, rfl⟩))), r_X8_noWedges _ _ _ _ ⟨_, rfl⟩ (t_X8_noWedges_0 _ _ _ (ge' (fun u0 w0 => absurd ⟨u0, w0⟩ hv) (fun _ => ⟨rfl, rfl⟩))), hi⟩
