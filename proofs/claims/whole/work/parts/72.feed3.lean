/-! ===== feed, both ===== -/
theorem len4 (L : List Int32) (a b c d : Int32) : (L ++ [a] ++ [b] ++ [c] ++ [d]).length = L.length + 4 := by simp only [List.length_append, List.length_cons, List.length_nil]
theorem ap_feed {M : am_M} (h : Inv M) (a b c d e : Int32) : Ag (F_NS_feed 0 a b c d e) (F_Md_feed 70 a b c d e) M := by
  obtain ⟨hS, -, hT, -⟩ := id h
  obtain ⟨n, n1, t1, t2, t3⟩ := hT
  have ec : ∀ R, (if (n : Int) + 20 ≤ 500 then (cv M 0 12 ( bV (F_NS_putOnTape 0 a M) (fun M2 => cv M2 0 12 ( bV (F_NS_putOnTape 0 b M2) (fun M3 => cv M3 0 12 ( bV (F_NS_putOnTape 0 c M3) (fun M4 => cv M4 0 12 ( bV (F_NS_putOnTape 0 d M4) (fun M5 => cv M5 0 12 ( bV (F_NS_putOnTape 0 e M5) (fun M6 => fI M6 0 12 1 (fun x7 => some (some (.int x7), M6)))))))))))) ) else some (some (.int (-1)), M)) = R → F_NS_feed 0 a b c d e M = R := fun R hR => by
    rw [← hR]
    unfold F_NS_feed
    rw [fI_eq (kd_0 hS), t1, show (20 : Int32) = iz 20 from rfl, iz_add, show (500 : Int32) = iz 500 from rfl, ifE (by omega) (by omega) (by omega) (by omega)]
  have em : ∀ M' R, SH M' → rI M' 70 15 = iz (n : Int) → (if (n : Int) + 20 ≤ 500 then (cv M' 70 13 ( bV (F_Md_puts4 70 a M') (fun M2 => cv M2 70 13 ( bV (F_Md_puts4 70 b M2) (fun M3 => cv M3 70 13 ( bV (F_Md_puts4 70 c M3) (fun M4 => cv M4 70 13 ( bV (F_Md_puts4 70 d M4) (fun M5 => cv M5 70 13 ( bV (F_Md_puts4 70 e M5) (fun M6 => fI M6 70 13 15 (fun x7 => some (some (.int x7), M6)))))))))))) ) else some (some (.int (-1)), M')) = R → F_Md_feed 70 a b c d e M' = R := fun M' R h' q hR => by
    rw [← hR]
    unfold F_Md_feed
    rw [fI_eq (kd_70 h'), q, show (20 : Int32) = iz 20 from rfl, iz_add, show (500 : Int32) = iz 500 from rfl, ifE (by omega) (by omega) (by omega) (by omega)]
  by_cases g : (n : Int) + 20 ≤ 500
  rotate_left
  · exact Ag.p h (ec _ (by rw [if_neg g])) (em M _ hS t2 (by rw [if_neg g]))
  obtain ⟨L, hl⟩ : ∃ L : List Int32, L = (List.range n).map (fun i => rI M 1 i) := ⟨_, rfl⟩
  obtain ⟨K, hK⟩ : ∃ K : List Int32, K = (List.range n).map (fun i => rI M 77 i) := ⟨_, rfl⟩
  have ll : L.length = n := by rw [hl, List.length_map, List.length_range]
  have lk : K.length = n := by rw [hK, List.length_map, List.length_range]
  have gl : ∀ i x, L[i]? = some x → i < n ∧ rI M 1 i = x := fun i x q => by
    have hi : i < n := by rw [← ll]; exact (List.getElem?_eq_some_iff.mp q).1
    rw [hl, List.getElem?_map, List.getElem?_range hi] at q
    injection q with q
    exact ⟨hi, q⟩
  have gk : ∀ i x, K[i]? = some x → i < n ∧ rI M 77 i = x := fun i x q => by
    have hi : i < n := by rw [← lk]; exact (List.getElem?_eq_some_iff.mp q).1
    rw [hK, List.getElem?_map, List.getElem?_range hi] at q
    injection q with q
    exact ⟨hi, q⟩
  have c0 : CT M L := ⟨by rw [t1, ll], fun i x q => (gl i x q).2⟩
  have m0 : MT M K := ⟨by rw [t2, lk], fun i x q => (gk i x q).2⟩
  have r0 : RB L K := ⟨by rw [ll, lk], fun i x y q1 q2 => by
    obtain ⟨i1, i2⟩ := gl i x q1
    obtain ⟨-, i3⟩ := gk i y q2
    rw [← i2, ← i3]
    exact t3 i i1⟩
  obtain ⟨C1, u1, f1, o1⟩ := cP4 hS c0 (by omega) a
  have s1 := hS.fr f1
  obtain ⟨C2, u2, f2, o2⟩ := cP4 s1 o1 (by rw [len4]; omega) b
  have s2 := s1.fr f2
  obtain ⟨C3, u3, f3, o3⟩ := cP4 s2 o2 (by rw [len4, len4]; omega) c
  have s3 := s2.fr f3
  obtain ⟨C4, u4, f4, o4⟩ := cP4 s3 o3 (by rw [len4, len4, len4]; omega) d
  have s4 := s3.fr f4
  obtain ⟨C5, u5, f5, o5⟩ := cP4 s4 o4 (by rw [len4, len4, len4, len4]; omega) e
  have s5 := s4.fr f5
  have fc := f1.trans (f2.trans (f3.trans (f4.trans f5)))
  have m5 : MT C5 K := ⟨by rw [fc.ri (fun q => by unfold ATc at q; omega)]; exact m0.1, fun i x q => by rw [fc.ri (fun q => by unfold ATc at q; omega)]; exact m0.2 i x q⟩
  obtain ⟨D1, v1, h1, p1⟩ := mP4 s5 m5 (by omega) a
  have w1 := s5.fr h1
  obtain ⟨D2, v2, h2, p2⟩ := mP4 w1 p1 (by rw [len4]; omega) b
  have w2 := w1.fr h2
  obtain ⟨D3, v3, h3, p3⟩ := mP4 w2 p2 (by rw [len4, len4]; omega) c
  have w3 := w2.fr h3
  obtain ⟨D4, v4, h4, p4⟩ := mP4 w3 p3 (by rw [len4, len4, len4]; omega) d
  have w4 := w3.fr h4
  obtain ⟨D5, v5, h5, p5⟩ := mP4 w4 p4 (by rw [len4, len4, len4, len4]; omega) e
  have w5 := w4.fr h5
  have fm := h1.trans (h2.trans (h3.trans (h4.trans h5)))
  have rr := ((((r0.ap4 a).ap4 b).ap4 c).ap4 d).ap4 e
  have lc : rI C5 0 1 = iz ((n + 20 : Nat) : Int) := by rw [o5.1, len4, len4, len4, len4, len4, ll]
  have lm : rI D5 70 15 = iz ((n + 20 : Nat) : Int) := by rw [p5.1, len4, len4, len4, len4, len4, lk]
  have fA : Fr AT M D5 := (fc.mono (fun b j q => by unfold ATc at q; unfold AT; omega)).trans (fm.mono (fun b j q => by unfold ATm at q; unfold AT; omega))
  refine ⟨iz ((n + 20 : Nat) : Int), C5, D5, ec _ ?_, em C5 _ s5 (by rw [m5.1, lk]) ?_, h.t fA ⟨n + 20, by omega, ?_, lm, fun i hi => ?_⟩⟩
  · rw [if_pos g, cv_eq (kd_0 hS), u1, bV_eq, cv_eq (kd_0 s1), u2, bV_eq, cv_eq (kd_0 s2), u3, bV_eq, cv_eq (kd_0 s3), u4, bV_eq, cv_eq (kd_0 s4), u5, bV_eq, fI_eq (kd_0 s5), lc]
  · rw [if_pos g, cv_eq (kd_70 s5), v1, bV_eq, cv_eq (kd_70 w1), v2, bV_eq, cv_eq (kd_70 w2), v3, bV_eq, cv_eq (kd_70 w3), v4, bV_eq, cv_eq (kd_70 w4), v5, bV_eq, fI_eq (kd_70 w5), lm]
  · rw [fm.ri (fun q => by unfold ATm at q; omega)]; exact lc
  · generalize hX : L ++ [by1 a 24] ++ [by1 a 16] ++ [by1 a 8] ++ [by1 a 0] ++ [by1 b 24] ++ [by1 b 16] ++ [by1 b 8] ++ [by1 b 0] ++ [by1 c 24] ++ [by1 c 16] ++ [by1 c 8] ++ [by1 c 0] ++ [by1 d 24] ++ [by1 d 16] ++ [by1 d 8] ++ [by1 d 0] ++ [by1 e 24] ++ [by1 e 16] ++ [by1 e 8] ++ [by1 e 0] = X at *
    generalize hY : K ++ [by2 a 24] ++ [by2 a 16] ++ [by2 a 8] ++ [by2 a 0] ++ [by2 b 24] ++ [by2 b 16] ++ [by2 b 8] ++ [by2 b 0] ++ [by2 c 24] ++ [by2 c 16] ++ [by2 c 8] ++ [by2 c 0] ++ [by2 d 24] ++ [by2 d 16] ++ [by2 d 8] ++ [by2 d 0] ++ [by2 e 24] ++ [by2 e 16] ++ [by2 e 8] ++ [by2 e 0] = Y at *
    have lx : X.length = n + 20 := by rw [← hX, len4, len4, len4, len4, len4, ll]
    have ly : Y.length = n + 20 := by rw [← rr.1, lx]
    have ex : X[i]? = some X[i] := List.getElem?_eq_getElem (by omega)
    have ey : Y[i]? = some Y[i] := List.getElem?_eq_getElem (by omega)
    obtain ⟨v, z1, z2, z3, z4⟩ := rr.2 i _ _ ex ey
    refine ⟨v, z1, z2, ?_, ?_⟩
    · rw [fm.ri (fun q => by unfold ATm at q; omega), o5.2 i _ ex]; exact z3
    · rw [p5.2 i _ ey]; exact z4
