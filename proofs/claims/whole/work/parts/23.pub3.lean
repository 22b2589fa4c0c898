/-! ===== wedge, mark, wipe, day ===== -/
theorem c_addMark {h : zH} {nm : Nat} (h0 : h.1 32 2 = nI nm) (hn : nm < 12) (a b c d : Int32) : R_X2_addMark [.ref 32, .int a, .int b, .int c, .int d] h (some (.int (nI (nm + 1)))) (zsi (zsi (zsi (zsi (zsi h 33 (4 * nm + 0) a) 33 (4 * nm + 1) b) 33 (4 * nm + 2) c) 33 (4 * nm + 3) d) 32 2 (nI (nm + 1))) := by
  refine r_X2_addMark _ _ _ _ _ _ _ ⟨_, rfl⟩ (t_X2_addMark_0 _ _ _ _ _ _ ⟨fun _ => ?_, fun z => absurd ?_ z⟩)
  · simp (disch := omega) only [zr_ne, h0, zr_eq]
    rw [ix_4 0 q0, ix_4 1 q1, ix_4 2 q2, ix_4 3 q3, nI_clamp (by omega), nI_clamp (by omega), nI_clamp (by omega), nI_clamp (by omega), nI_1]
    exact ⟨vp_in_nI (by omega) (by omega), vp_in_nI (by omega) (by omega), vp_in_nI (by omega) (by omega), vp_in_nI (by omega) (by omega), rfl, rfl⟩
  · rw [h0, q12, nI_ltI (by omega) (by omega)]; exact hn
theorem c_addMarkF {h : zH} {nm : Nat} (h0 : h.1 32 2 = nI nm) (hn : nm = 12) (a b c d : Int32) : R_X2_addMark [.ref 32, .int a, .int b, .int c, .int d] h (some (.int (-3))) h := by
  refine r_X2_addMark _ _ _ _ _ _ _ ⟨_, rfl⟩ (t_X2_addMark_0 _ _ _ _ _ _ ⟨fun z => ?_, fun _ => ⟨rfl, rfl⟩⟩)
  rw [h0, q12, nI_ltI (by omega) (by omega)] at z; omega
set_option maxHeartbeats 4000000 in
set_option maxRecDepth 100000 in
theorem p_mark {h : zH} (hi : Inv h) (a b c d : Int32) : Pair R_X7_mark R_X8_mark [.int a, .int b, .int c, .int d] h := by
  obtain ⟨t, f, sh, sk, n, w, hs⟩ := hi.1
  by_cases hv : ((-1) ≤ a ∧ a ≤ 3) ∧ ((-1) ≤ b ∧ b ≤ 3) ∧ (0 ≤ c ∧ c ≤ 1800) ∧ (0 ≤ d ∧ d ≤ 200)
  · obtain ⟨mk, nm, hC, hM⟩ := hi.2.1
    obtain ⟨m1, m2, m3⟩ := id hC
    obtain ⟨n1, n2, n3⟩ := id hM
    by_cases hf : nm = 12
    · refine ⟨.int (-3), h, h, r_X7_mark _ _ _ _ _ _ _ ⟨_, rfl⟩ (t_X7_mark_0 _ _ _ _ _ _ (gd (fun z => absurd hv.1 z) (fun _ _ => gd (fun z => absurd hv.2.1 z) (fun _ _ => gd (fun z => absurd hv.2.2.1 z) (fun _ _ => gd' (fun _ _ => ⟨_, _, c_addMarkF m2 hf _ _ _ _, rfl, rfl⟩) (fun z => absurd hv.2.2.2 z)))))), r_X8_mark _ _ _ _ _ _ _ ⟨_, rfl⟩ (t_X8_mark_0 _ _ _ _ _ _ (ge (fun z => absurd hv.1 z) (fun _ _ => ge (fun z => absurd hv.2.1 z) (fun _ _ => ge (fun z => absurd hv.2.2.1 z) (fun _ _ => ge' (fun _ _ => ?_) (fun z => absurd hv.2.2.2 z)))))), hi⟩
      exact ⟨fun z => absurd (by rw [n2, hf]; rfl) z, fun _ => ⟨rfl, rfl⟩⟩
    · have hlt : nm < 12 := by omega
      refine ⟨.int (nI (nm + 1)), zsi (zsi (zsi (zsi (zsi h 33 (4 * nm + 0) a) 33 (4 * nm + 1) b) 33 (4 * nm + 2) c) 33 (4 * nm + 3) d) 32 2 (nI (nm + 1)), zsi (zsi (zsi (zsi (zsi (zsi (zsi (zsi (zsi (zsi h 33 (4 * nm + 0) a) 33 (4 * nm + 1) b) 33 (4 * nm + 2) c) 33 (4 * nm + 3) d) 32 2 (nI (nm + 1))) 46 nm a) 47 nm b) 48 nm c) 49 nm d) 42 8 (nI (nm + 1)), r_X7_mark _ _ _ _ _ _ _ ⟨_, rfl⟩ (t_X7_mark_0 _ _ _ _ _ _ (gd (fun z => absurd hv.1 z) (fun _ _ => gd (fun z => absurd hv.2.1 z) (fun _ _ => gd (fun z => absurd hv.2.2.1 z) (fun _ _ => gd' (fun _ _ => ⟨_, _, c_addMark m2 hlt _ _ _ _, rfl, rfl⟩) (fun z => absurd hv.2.2.2 z)))))), r_X8_mark _ _ _ _ _ _ _ ⟨_, rfl⟩ (t_X8_mark_0 _ _ _ _ _ _ (ge (fun z => absurd hv.1 z) (fun _ _ => ge (fun z => absurd hv.2.1 z) (fun _ _ => ge (fun z => absurd hv.2.2.1 z) (fun _ _ => ge' (fun _ _ => ?_) (fun z => absurd hv.2.2.2 z)))))), ?_⟩
      · simp (disch := omega) only [zr_ne, n2, zr_eq]
        rw [nI_clamp (by omega), nI_1]
        refine ⟨fun _ => ⟨vp_in_nI (by omega) (by omega), vp_in_nI (by omega) (by omega), vp_in_nI (by omega) (by omega), vp_in_nI (by omega) (by omega), rfl, rfl⟩, fun z => absurd ?_ z⟩
        rw [q12, nI_eq (by omega) (by omega)]; exact hf
      · generalize hH : zsi (zsi (zsi (zsi (zsi (zsi (zsi (zsi (zsi (zsi h 33 (4 * nm + 0) a) 33 (4 * nm + 1) b) 33 (4 * nm + 2) c) 33 (4 * nm + 3) d) 32 2 (nI (nm + 1))) 46 nm a) 47 nm b) 48 nm c) 49 nm d) 42 8 (nI (nm + 1)) = H
        have he : ∀ x j, x ≠ 33 → x ≠ 32 → x ≠ 46 → x ≠ 47 → x ≠ 48 → x ≠ 49 → (x = 42 → j ≠ 8) → H.1 x j = h.1 x j := fun x j p1 p2 p3 p4 p5 p6 p7 => by
          rw [← hH]
          by_cases e : x = 42
          · rw [zr_nj (p7 e), zr_ne p6, zr_ne p5, zr_ne p4, zr_ne p3, zr_ne p2, zr_ne p1, zr_ne p1, zr_ne p1, zr_ne p1]
          · rw [zr_ne e, zr_ne p6, zr_ne p5, zr_ne p4, zr_ne p3, zr_ne p2, zr_ne p1, zr_ne p1, zr_ne p1, zr_ne p1]
        have hg : ∀ x j, x ≠ 33 ∧ x ≠ 32 ∧ x ≠ 46 ∧ x ≠ 47 ∧ x ≠ 48 ∧ x ≠ 49 ∧ (x = 42 → j ≠ 8) → H.1 x j = h.1 x j := fun x j ⟨p1, p2, p3, p4, p5, p6, p7⟩ => he x j p1 p2 p3 p4 p5 p6 p7
        refine ⟨⟨t, f, sh, sk, n, w, hs.cg' (fun x j q => hg x j (by unfold gS at q; omega)) (fun k hk i hi' => by rw [hg 6 _ (by omega)]; exact hs.rk k hk i hi')⟩, ⟨fun m => if m = nm then (a, b, c, d) else mk m, nm + 1, ⟨by omega, ?_, fun m hm => ?_⟩, ⟨by omega, ?_, fun m hm => ?_⟩⟩, hi.2.2.1.cg (fun x j q => hg x j (by unfold gP at q; omega)), hi.2.2.2.1.cg (fun x j q => hg x j (by unfold gD at q; omega)), hi.2.2.2.2.cg (fun x j q => hg x j (by unfold gK at q; omega))⟩
        · rw [← hH]; simp (disch := omega) only [zr_ne, zr_eq]
        · rw [← hH]
          by_cases e : m = nm
          · subst e
            simp (disch := omega) only [zr_ne, zr_nj, zr_eq, Nat.add_zero, ↓reduceIte, and_self]
          · simp (disch := omega) only [zr_ne, zr_nj, if_neg e]
            exact m3 m hm
        · rw [← hH, zr_eq]
        · rw [← hH]
          by_cases e : m = nm
          · subst e
            simp (disch := omega) only [zr_ne, zr_nj, zr_eq, ↓reduceIte]
            refine ⟨?_, ?_, ?_, ?_, hv.1.1, hv.2.1.1⟩ <;> first | rfl | trivial
          · simp (disch := omega) only [zr_ne, zr_nj, if_neg e]
            exact n3 m hm
  · exact ⟨.int (-1), h, h, r_X7_mark _ _ _ _ _ _ _ ⟨_, rfl⟩ (t_X7_mark_0 _ _ _ _ _ _ (gd (fun _ => ⟨rfl, rfl⟩) (fun u0 w0 => gd (fun _ => ⟨rfl, rfl⟩) (fun u1 w1 => gd (fun _ => ⟨rfl, rfl⟩) (fun u2 w2 => gd' (fun u3 w3 => absurd ⟨⟨u0, w0⟩, ⟨u1, w1⟩, ⟨u2, w2⟩, u3, w3⟩ hv) (fun _ => ⟨rfl, rfl⟩)))))), r_X8_mark _ _ _ _ _ _ _ ⟨_, rfl⟩ (t_X8_mark_0 _ _ _ _ _ _ (ge (fun _ => ⟨rfl, rfl⟩) (fun u0 w0 => ge (fun _ => ⟨rfl, rfl⟩) (fun u1 w1 => ge (fun _ => ⟨rfl, rfl⟩) (fun u2 w2 => ge' (fun u3 w3 => absurd ⟨⟨u0, w0⟩, ⟨u1, w1⟩, ⟨u2, w2⟩, u3, w3⟩ hv) (fun _ => ⟨rfl, rfl⟩)))))), hi⟩
theorem p_wipe {h : zH} (hi : Inv h) : Pair R_X7_wipe R_X8_wipe [] h := by
  obtain ⟨t, f, sh, sk, n, w, hs⟩ := hi.1
  obtain ⟨mk, nm, ⟨m1, m2, m3⟩, ⟨n1, n2, n3⟩⟩ := hi.2.1
  refine ⟨.int (nI nm), zsi h 32 2 0, zsi (zsi h 32 2 0) 42 8 0, r_X7_wipe _ _ _ ⟨_, rfl⟩ (t_X7_wipe_0 _ _ ⟨by rw [m2], rfl⟩), r_X8_wipe _ _ _ ⟨_, rfl⟩ (t_X8_wipe_0 _ _ ⟨by rw [zr_ne (by omega), n2], rfl⟩), ?_⟩
  have hg : ∀ x j, x ≠ 32 ∧ (x = 42 → j ≠ 8) → (zsi (zsi h 32 2 0) 42 8 0).1 x j = h.1 x j := fun x j ⟨p1, p2⟩ => by
    by_cases e : x = 42
    · rw [zr_nj (p2 e), zr_ne p1]
    · rw [zr_ne e, zr_ne p1]
  refine ⟨⟨t, f, sh, sk, n, w, hs.cg' (fun x j q => hg x j (by unfold gS at q; omega)) (fun k hk i hi' => by rw [hg 6 _ (by omega)]; exact hs.rk k hk i hi')⟩, ⟨mk, 0, ⟨by omega, by rw [zr_ne (by omega), zr_eq]; rfl, fun m hm => ?_⟩, ⟨by omega, by rw [zr_eq]; rfl, fun m hm => ?_⟩⟩, hi.2.2.1.cg (fun x j q => hg x j (by unfold gP at q; omega)), hi.2.2.2.1.cg (fun x j q => hg x j (by unfold gD at q; omega)), hi.2.2.2.2.cg (fun x j q => hg x j (by unfold gK at q; omega))⟩
  · rw [hg 33 _ (by omega), hg 33 _ (by omega), hg 33 _ (by omega), hg 33 _ (by omega)]; exact m3 m hm
  · rw [hg 46 _ (by omega), hg 47 _ (by omega), hg 48 _ (by omega), hg 49 _ (by omega)]; exact n3 m hm
theorem c_addDay {h : zH} {nd : Nat} (h0 : h.1 38 3 = nI nd) (hn : nd < 60) (a b c : Int32) : R_X1_addDay [.ref 38, .int a, .int b, .int c] h (some (.int (nI (nd + 1)))) (zsi (zsi (zsi (zsi h 39 nd a) 40 nd b) 41 nd c) 38 3 (nI (nd + 1))) := by
  refine r_X1_addDay _ _ _ _ _ _ ⟨_, rfl⟩ (t_X1_addDay_0 _ _ _ _ _ ⟨fun _ => ?_, fun z => absurd ?_ z⟩)
  · simp (disch := omega) only [zr_ne, h0, zr_eq]
    rw [nI_clamp (by omega), nI_1]
    exact ⟨vp_in_nI (by omega) (by omega), vp_in_nI (by omega) (by omega), vp_in_nI (by omega) (by omega), rfl, rfl⟩
  · rw [h0, q60, nI_ltI (by omega) (by omega)]; exact hn
set_option maxHeartbeats 4000000 in
set_option maxRecDepth 100000 in
theorem p_day {h : zH} (hi : Inv h) (a b c : Int32) : Pair R_X7_day R_X8_day [.int a, .int b, .int c] h := by
  obtain ⟨t, f, sh, sk, n, w, hs⟩ := hi.1
  by_cases hv : ((-60) ≤ a ∧ a ≤ 40) ∧ (0 ≤ b ∧ b ≤ 3) ∧ (0 ≤ c ∧ c ≤ 65535)
  · obtain ⟨nd, d1, d2, d3, d4⟩ := id hi.2.2.2.1
    obtain ⟨y, hy1, rfl⟩ := in_n (b := 65535) (by omega) hv.2.2.1 hv.2.2.2
    by_cases hf : nd = 60
    · have cf : R_X1_addDay [.ref 38, .int a, .int b, .int (nI y)] h (some (.int (-3))) h := by
        refine r_X1_addDay _ _ _ _ _ _ ⟨_, rfl⟩ (t_X1_addDay_0 _ _ _ _ _ ⟨fun z => ?_, fun _ => ⟨rfl, rfl⟩⟩)
        rw [d2, q60, nI_ltI (by omega) (by omega)] at z; omega
      refine ⟨.int (-3), h, h, r_X7_day _ _ _ _ _ _ ⟨_, rfl⟩ (t_X7_day_0 _ _ _ _ _ (gd_isCold (fun z => absurd hv.1 z) (fun _ _ => gd (fun z => absurd hv.2.1 z) (fun _ _ => gd_isSet' (fun _ _ => ⟨_, _, cf, rfl, rfl⟩) (fun z => absurd hv.2.2 z))))), r_X8_day _ _ _ _ _ _ ⟨_, rfl⟩ (t_X8_day_0 _ _ _ _ _ (ge (fun z => absurd hv.1 z) (fun _ _ => ge (fun z => absurd hv.2.1 z) (fun _ _ => ge' (fun _ _ => ?_) (fun z => absurd hv.2.2 z))))), hi⟩
      exact ⟨fun z => absurd (by rw [d3, hf]; rfl) z, fun _ => ⟨rfl, rfl⟩⟩
    · have hlt : nd < 60 := by omega
      refine ⟨.int (nI (nd + 1)), zsi (zsi (zsi (zsi h 39 nd a) 40 nd b) 41 nd (nI y)) 38 3 (nI (nd + 1)), zsi (zsi (zsi (zsi (zsi (zsi (zsi (zsi h 39 nd a) 40 nd b) 41 nd (nI y)) 38 3 (nI (nd + 1))) 51 nd a) 52 nd b) 53 nd (nI y)) 42 14 (nI (nd + 1)), r_X7_day _ _ _ _ _ _ ⟨_, rfl⟩ (t_X7_day_0 _ _ _ _ _ (gd_isCold (fun z => absurd hv.1 z) (fun _ _ => gd (fun z => absurd hv.2.1 z) (fun _ _ => gd_isSet' (fun _ _ => ⟨_, _, c_addDay d2 hlt _ _ _, rfl, rfl⟩) (fun z => absurd hv.2.2 z))))), r_X8_day _ _ _ _ _ _ ⟨_, rfl⟩ (t_X8_day_0 _ _ _ _ _ (ge (fun z => absurd hv.1 z) (fun _ _ => ge (fun z => absurd hv.2.1 z) (fun _ _ => ge' (fun _ _ => ?_) (fun z => absurd hv.2.2 z))))), ?_⟩
      · simp (disch := omega) only [zr_ne, d3, zr_eq]
        rw [nI_clamp (by omega), nI_1]
        refine ⟨fun _ => ⟨vp_in_nI (by omega) (by omega), vp_in_nI (by omega) (by omega), vp_in_nI (by omega) (by omega), rfl, rfl⟩, fun z => absurd ?_ z⟩
        rw [q60, nI_eq (by omega) (by omega)]; exact hf
      · generalize hH : zsi (zsi (zsi (zsi (zsi (zsi (zsi (zsi h 39 nd a) 40 nd b) 41 nd (nI y)) 38 3 (nI (nd + 1))) 51 nd a) 52 nd b) 53 nd (nI y)) 42 14 (nI (nd + 1)) = H
        have hg : ∀ x j, x ≠ 38 ∧ x ≠ 39 ∧ x ≠ 40 ∧ x ≠ 41 ∧ x ≠ 51 ∧ x ≠ 52 ∧ x ≠ 53 ∧ (x = 42 → j ≠ 14) → H.1 x j = h.1 x j := fun x j ⟨p1, p2, p3, p4, p5, p6, p7, p8⟩ => by
          rw [← hH]
          by_cases e : x = 42
          · rw [zr_nj (p8 e), zr_ne p7, zr_ne p6, zr_ne p5, zr_ne p1, zr_ne p4, zr_ne p3, zr_ne p2]
          · rw [zr_ne e, zr_ne p7, zr_ne p6, zr_ne p5, zr_ne p1, zr_ne p4, zr_ne p3, zr_ne p2]
        refine ⟨⟨t, f, sh, sk, n, w, hs.cg' (fun x j q => hg x j (by unfold gS at q; omega)) (fun k hk i hi' => by rw [hg 6 _ (by omega)]; exact hs.rk k hk i hi')⟩, hi.2.1.cg (fun x j q => hg x j (by unfold gM at q; omega)), hi.2.2.1.cg (fun x j q => hg x j (by unfold gP at q; omega)), ⟨nd + 1, by omega, ?_, ?_, fun d hd => ?_⟩, hi.2.2.2.2.cg (fun x j q => hg x j (by unfold gK at q; omega))⟩
        · rw [← hH]; simp (disch := omega) only [zr_ne, zr_eq]
        · rw [← hH]; simp (disch := omega) only [zr_ne, zr_eq]
        · rw [← hH]
          by_cases e : d = nd
          · subst e
            simp (disch := omega) only [zr_ne, zr_nj, zr_eq]
            exact ⟨trivial, trivial, trivial, ⟨y, by omega, rfl⟩, hv.1.1, hv.1.2⟩
          · simp (disch := omega) only [zr_ne, zr_nj]
            exact d4 d hd
  · exact ⟨.int (-1), h, h, r_X7_day _ _ _ _ _ _ ⟨_, rfl⟩ (t_X7_day_0 _ _ _ _ _ (gd_isCold (fun _ => ⟨rfl, rfl⟩) (fun u0 w0 => gd (fun _ => ⟨rfl, rfl⟩) (fun u1 w1 => gd_isSet' (fun u2 w2 => absurd ⟨⟨u0, w0⟩, ⟨u1, w1⟩, u2, w2⟩ hv) (fun _ => ⟨rfl, rfl⟩))))), r_X8_day _ _ _ _ _ _ ⟨_, rfl⟩ (t_X8_day_0 _ _ _ _ _ (ge (fun _ => ⟨rfl, rfl⟩) (fun u0 w0 => ge (fun _ => ⟨rfl, rfl⟩) (fun u1 w1 => ge' (fun u2 w2 => absurd ⟨⟨u0, w0⟩, ⟨u1, w1⟩, u2, w2⟩ hv) (fun _ => ⟨rfl, rfl⟩))))), hi⟩
set_option maxHeartbeats 4000000 in
set_option maxRecDepth 100000 in
theorem p_wedge {h : zH} (hi : Inv h) (a b : Int32) : Pair R_X7_wedge R_X8_wedge [.int a, .int b] h := by
  obtain ⟨t, f, sh, sk, n, w, hs⟩ := hi.1
  by_cases hv : (0 ≤ a ∧ a ≤ 3) ∧ (200 ≤ b ∧ b ≤ 1200)
  · obtain ⟨k, hk1, rfl⟩ := in_n (b := 3) (by omega) hv.1.1 hv.1.2
    obtain ⟨v, hv1, rfl⟩ := in_n (b := 1200) (by omega) (Int32.le_trans (by decide) hv.2.1) hv.2.2
    have hk : k < 4 := by omega
    obtain ⟨q1, q2, q3⟩ := hs.2.2.2.2.2.2.2.2.2.2.1 k hk
    have ch := c_hasWedge hs.cw.1 (k := k) (v := v) hk (by omega)
    have vk : vp_in (nI k) 4 := vp_in_nI hk (by omega)
    have ck : (nI k).toNatClampNeg = k := nI_clamp (by omega)
    cases hp : hasP n w k v (n k) with
    | true =>
      rw [hp] at ch
      have mh := m_hasWedge hs.cw.2 (k := k) (v := v) hk (by omega)
      rw [hp] at mh
      have ca : R_X6_addWedge [.ref 1, .int (nI k), .int (nI v)] h (some (.int (-2))) h := r_X6_addWedge _ _ _ _ _ ⟨_, rfl⟩ (t_X6_addWedge_0 _ _ _ _ ⟨_, _, ch, fun z => absurd z (by decide), fun _ => ⟨rfl, rfl⟩⟩)
      exact ⟨.int (-2), h, h, r_X7_wedge _ _ _ _ _ ⟨_, rfl⟩ (t_X7_wedge_0 _ _ _ _ (gd (fun z => absurd hv.1 z) (fun _ _ => gd' (fun _ _ => ⟨_, _, ca, rfl, rfl⟩) (fun z => absurd hv.2 z)))), r_X8_wedge _ _ _ _ _ ⟨_, rfl⟩ (t_X8_wedge_0 _ _ _ _ (ge (fun z => absurd hv.1 z) (fun _ _ => ge' (fun _ _ => ⟨_, _, mh, fun z => absurd z (by decide), fun _ => ⟨rfl, rfl⟩⟩) (fun z => absurd hv.2 z)))), hi⟩
    | false =>
      rw [hp] at ch
      have mh := m_hasWedge hs.cw.2 (k := k) (v := v) hk (by omega)
      rw [hp] at mh
      by_cases hf : n k = 3
      · have ca : R_X6_addWedge [.ref 1, .int (nI k), .int (nI v)] h (some (.int (-3))) h := by
          refine r_X6_addWedge _ _ _ _ _ ⟨_, rfl⟩ (t_X6_addWedge_0 _ _ _ _ ⟨_, _, ch, fun _ => ?_, fun z => absurd rfl z⟩)
          rw [ck, q2, hf]
          exact ⟨vk, fun z => absurd z (by decide), fun _ => ⟨rfl, rfl⟩⟩
        refine ⟨.int (-3), h, h, r_X7_wedge _ _ _ _ _ ⟨_, rfl⟩ (t_X7_wedge_0 _ _ _ _ (gd (fun z => absurd hv.1 z) (fun _ _ => gd' (fun _ _ => ⟨_, _, ca, rfl, rfl⟩) (fun z => absurd hv.2 z)))), r_X8_wedge _ _ _ _ _ ⟨_, rfl⟩ (t_X8_wedge_0 _ _ _ _ (ge (fun z => absurd hv.1 z) (fun _ _ => ge' (fun _ _ => ⟨_, _, mh, fun _ => ?_, fun z => absurd rfl z⟩) (fun z => absurd hv.2 z)))), hi⟩
        rw [ck, q3, hf]
        exact ⟨vk, fun z => absurd rfl z, fun _ => ⟨rfl, rfl⟩⟩
      · have hlt : n k < 3 := by omega
        have vi : vp_in (nI (3 * k + n k)) 12 := vp_in_nI (by omega) (by omega)
        have ci : (nI (3 * k + n k)).toNatClampNeg = 3 * k + n k := nI_clamp (by omega)
        have ca : R_X6_addWedge [.ref 1, .int (nI k), .int (nI v)] h (some (.int (nI (n k + 1)))) (zsi (zsi (zsi h 4 (3 * k + n k) (nI v)) 6 (3 * k + n k) (-1)) 5 k (nI (n k + 1))) := by
          refine r_X6_addWedge _ _ _ _ _ ⟨_, rfl⟩ (t_X6_addWedge_0 _ _ _ _ ⟨_, _, ch, fun _ => ?_, fun z => absurd rfl z⟩)
          rw [ck, q2, ix_3c, ci, nI_1]
          refine ⟨vk, fun _ => ⟨vi, vi, vk, rfl, rfl⟩, fun z => absurd ?_ z⟩
          rw [_root_.Jvm.Pilot.CSunRingsLaw_law_r4703_80bedf.q3, nI_ltI (by omega) (by omega)]; exact hlt
        generalize hG : zsi (zsi (zsi h 4 (3 * k + n k) (nI v)) 6 (3 * k + n k) (-1)) 5 k (nI (n k + 1)) = G at ca
        have hgG : ∀ x j, x ≠ 4 → x ≠ 5 → x ≠ 6 → G.1 x j = h.1 x j := fun x j p1 p2 p3 => by rw [← hG, zr_ne p2, zr_ne p3, zr_ne p1]
        have mcw : CW G 44 45 n w := ⟨fun k' hk' => by rw [hgG 44 _ (by omega) (by omega) (by omega)]; exact hs.cw.2.1 k' hk', fun j hj => by rw [hgG 45 _ (by omega) (by omega) (by omega)]; exact hs.cw.2.2 j hj⟩
        have mh := m_hasWedge mcw (k := k) (v := v) hk (by omega)
        rw [hp] at mh
        refine ⟨.int (nI (n k + 1)), G, zsi (zsi G 45 (3 * k + n k) (nI v)) 44 k (nI (n k + 1)), r_X7_wedge _ _ _ _ _ ⟨_, rfl⟩ (t_X7_wedge_0 _ _ _ _ (gd (fun z => absurd hv.1 z) (fun _ _ => gd' (fun _ _ => ⟨_, _, ca, rfl, rfl⟩) (fun z => absurd hv.2 z)))), r_X8_wedge _ _ _ _ _ ⟨_, rfl⟩ (t_X8_wedge_0 _ _ _ _ (ge (fun z => absurd hv.1 z) (fun _ _ => ge' (fun _ _ => ⟨_, _, mh, fun _ => ?_, fun z => absurd rfl z⟩) (fun z => absurd hv.2 z)))), ?_⟩
        · rw [ck, hgG 44 _ (by omega) (by omega) (by omega), q3, ix_3m, ci]
          simp (disch := omega) only [zr_ne, zr_eq]
          rw [hgG 44 _ (by omega) (by omega) (by omega), q3, nI_1]
          refine ⟨vk, fun _ => ⟨vk, vi, vk, vk, vk, rfl, rfl⟩, fun z => absurd ?_ z⟩
          rw [_root_.Jvm.Pilot.CSunRingsLaw_law_r4703_80bedf.q3, nI_eq (by omega) (by omega)]; exact hf
        · have hg : ∀ x j, x ≠ 4 ∧ x ≠ 5 ∧ x ≠ 6 ∧ x ≠ 44 ∧ x ≠ 45 → (zsi (zsi G 45 (3 * k + n k) (nI v)) 44 k (nI (n k + 1))).1 x j = h.1 x j := fun x j ⟨p1, p2, p3, p4, p5⟩ => by rw [zr_ne p4, zr_ne p5]; exact hgG x j p1 p2 p3
          refine ⟨⟨t, f, sh, sk, fun k' => if k' = k then n k + 1 else n k', fun j => if j = 3 * k + n k then v else w j, ?_⟩, hi.2.1.cg (fun x j q => hg x j (by unfold gM at q; omega)), hi.2.2.1.cg (fun x j q => hg x j (by unfold gP at q; omega)), hi.2.2.2.1.cg (fun x j q => hg x j (by unfold gD at q; omega)), hi.2.2.2.2.cg (fun x j q => hg x j (by unfold gK at q; omega))⟩
          obtain ⟨a1, a2, a3, a4, a5, a6, a7, a8, a9, a10, a11, a12, a13⟩ := hs
          refine ⟨a1, a2, a3, a4, fun j hj => by rw [hg 2 j (by omega), hg 43 j (by omega)]; exact a5 j hj, by dsimp only; rw [hg 3 0 (by omega), hg 42 _ (by omega)]; exact a6, by dsimp only; rw [hg 3 1 (by omega), hg 42 _ (by omega)]; exact a7, by dsimp only; rw [hg 3 2 (by omega), hg 42 _ (by omega)]; exact a8, by dsimp only; rw [hg 3 3 (by omega), hg 42 _ (by omega)]; exact a9, by dsimp only; rw [hg 3 4 (by omega), hg 42 _ (by omega)]; exact a10, fun k' hk' => ?_, fun j hj => ?_, fun k' hk' i hi' => ?_⟩
          · dsimp only
            by_cases e : k' = k
            · subst e
              rw [zr_ne (by omega), zr_ne (by omega), ← hG, zr_eq, zr_eq, if_pos rfl]; exact ⟨by omega, rfl, rfl⟩
            · rw [zr_ne (by omega), zr_ne (by omega), zr_nj e, zr_ne (by omega), ← hG, zr_nj e, zr_ne (by omega), zr_ne (by omega), zr_nj e, zr_ne (by omega), zr_ne (by omega), if_neg e]; exact a11 k' hk'
          · dsimp only
            rw [zr_ne (by omega), zr_ne (by omega), zr_ne (by omega), ← hG, zr_ne (by omega), zr_ne (by omega)]
            by_cases e : j = 3 * k + n k
            · subst e
              rw [zr_eq, zr_eq, if_pos rfl]; exact ⟨hv1, rfl, rfl⟩
            · rw [zr_nj e, zr_nj e, zr_ne (by omega), zr_ne (by omega), zr_ne (by omega), if_neg e]; exact a12 j hj
          · dsimp only at hi' ⊢
            have hn3 := (a11 k' hk').1
            rw [zr_ne (by omega), zr_ne (by omega), ← hG, zr_ne (by omega)]
            by_cases e : 3 * k' + i = 3 * k + n k
            · left; rw [e, zr_eq]
            · rw [zr_nj e, zr_ne (by omega), if_neg e]
              refine a13 k' hk' i ?_
              by_cases e2 : k' = k
              · subst e2; rw [if_pos rfl] at hi'; omega
              · rw [if_neg e2] at hi'; exact hi'
  · exact ⟨.int (-1), h, h, r_X7_wedge _ _ _ _ _ ⟨_, rfl⟩ (t_X7_wedge_0 _ _ _ _ (gd (fun _ => ⟨rfl, rfl⟩) (fun u0 w0 => gd' (fun u1 w1 => absurd ⟨⟨u0, w0⟩, u1, w1⟩ hv) (fun _ => ⟨rfl, rfl⟩)))), r_X8_wedge _ _ _ _ _ ⟨_, rfl⟩ (t_X8_wedge_0 _ _ _ _ (ge (fun _ => ⟨rfl, rfl⟩) (fun u0 w0 => ge' (fun u1 w1 => absurd ⟨⟨u0, w0⟩, u1, w1⟩ hv) (fun _ => ⟨rfl, rfl⟩)))), hi⟩
