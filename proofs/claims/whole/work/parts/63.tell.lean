/-! ===== tell ===== -/
def tlA (p : Sk) (z : Int) : List Int := (([] ++ [97 + kKd p]) ++ numS (z / 256 % 4)) ++ numS (z / 1024)
def tlB (L : List Int) (z : Int) : List Int := if gen z = 0 then L else (L ++ [46]) ++ numS (z / 16 % 16 - 1)
def tlC (L : List Int) (z : Int) : List Int := if gen z = 2 then (L ++ [46]) ++ numS (z % 16 - 1) else L
def tlD (L : List Int) (p : Sk) : List Int := (((L ++ [32]) ++ numS (kBn p)) ++ [45]) ++ numS (kEn p)
def tlE (L : List Int) (p : Sk) (i : Int) : List Int := (L ++ [32]) ++ numS (kBg p i)
theorem len1 (L : List Int) (x : Int) : (L ++ [x]).length = L.length + 1 := by rw [List.length_append]; rfl
theorem lenN (L : List Int) (v : Int) : (L ++ numS v).length ≤ L.length + 7 := by rw [List.length_append]; have := numS_len v; omega
theorem tlA_len (p : Sk) (z : Int) : (tlA p z).length ≤ 15 := by
  unfold tlA
  have := lenN (([] ++ [97 + kKd p]) ++ numS (z / 256 % 4)) (z / 1024)
  have := lenN ([] ++ [97 + kKd p]) (z / 256 % 4)
  have := len1 [] (97 + kKd p)
  have : ([] : List Int).length = 0 := rfl
  omega
theorem tlB_len (L : List Int) (z : Int) : (tlB L z).length ≤ L.length + 8 := by
  unfold tlB
  split
  · omega
  · have := lenN (L ++ [46]) (z / 16 % 16 - 1)
    have := len1 L 46
    omega
theorem tlC_len (L : List Int) (z : Int) : (tlC L z).length ≤ L.length + 8 := by
  unfold tlC
  split
  · have := lenN (L ++ [46]) (z % 16 - 1)
    have := len1 L 46
    omega
  · omega
theorem tlD_len (L : List Int) (p : Sk) : (tlD L p).length ≤ L.length + 16 := by
  unfold tlD
  have := lenN (((L ++ [32]) ++ numS (kBn p)) ++ [45]) (kEn p)
  have := len1 ((L ++ [32]) ++ numS (kBn p)) 45
  have := lenN (L ++ [32]) (kBn p)
  have := len1 L 32
  omega
theorem tlE_len (L : List Int) (p : Sk) (i : Int) : (tlE L p i).length ≤ L.length + 8 := by
  unfold tlE
  have := lenN (L ++ [32]) (kBg p i)
  have := len1 L 32
  omega
section Tell
variable {S : Sc}
theorem CpL.oc {M M' : am_M} {b : Nat} {p : Sk} {c g : Int} (h : CpL M S b p c g) (hb : 49 < b) (hf : Fr AOc M M') : CpL M' S b p c g := h.fr hf (fun x j q => by unfold AOc at q; omega)
theorem CS.oc {M M' : am_M} (h : CS M S) (hf : Fr AOc M M') : CS M' S := h.fr hf (fun b j q => by unfold AOc at q; omega)
theorem plc_0 {p : Sk} (hp : skG S p) {i : Int} (h1 : 0 ≤ i) (h2 : i < 3) : plc S p i 0 = kBg p i := by
  obtain ⟨g1, g2⟩ := hp.1.2.2.2.2.1 i h1 h2
  unfold plc
  rw [raw_0, Int.emod_eq_of_lt g1 g2, Int.emod_eq_of_lt (b := 2 * wl S i) g1 (by omega)]
  split
  · rfl
  · split
    · rfl
    · first | rfl | rw [if_pos g2]
theorem cTlE {M : am_M} {b : Nat} (hb : 49 < b) {p : Sk} {c g : Int} {i : Int} (i1 : 0 ≤ i) (i2 : i < 3) (hk : scOK S) (hp : skG S p) {L : List Int} (h : SH M) (hs : SpA M b) (hL : CpL M S b p c g) (hc : CS M S) (hO : CO M L) (hn : L.length ≤ 1000) (n : Nat) : ∃ M', F_NS_tell_L162 (n + 1) 0 b (iz i) M = F_NS_tell_L162 n 0 b (iz (i + 1)) M' ∧ Fr AOc M M' ∧ CO M' (tlE L p i) := by
  obtain ⟨M1, u1, f1, o1⟩ := cPut h hO (by omega) 32
  have h1 := h.fr f1
  have l1 := len1 L 32
  have bd := hp.bd hk i1 i2
  obtain ⟨M2, u2, f2, o2⟩ := cNum h1 o1 (by omega) bd.1.1 (by omega)
  refine ⟨M2, ?_, f1.trans f2, o2⟩
  have hL1 := hL.oc hb f1
  have pl := cPlc h1 (hc.oc f1) hk (hs.fr f1) hL1.1 hp.1.1 bd.1 bd.2 i1 i2 (g := 0) (by omega) (by omega)
  rw [plc_0 hp i1 i2] at pl
  rw [F_NS_tell_L162, show (3 : Int32) = iz 3 from rfl, ifE (by omega) (by omega) (by omega) (by omega), if_neg (by omega), fR_eq (kd_0 h) (rr_0_5 h), cv_eq (kd_16 h), show (32 : Int32) = iz 32 from rfl, u1, bV_eq, fR_eq (kd_0 h1) (rr_0_5 h1), cv_eq (hs.fr f1).1, show (0 : Int32) = iz 0 from rfl, pl, bI_eq, cv_eq (kd_16 h1), u2, bV_eq, nm_eq, show (1 : Int32) = iz 1 from rfl, iz_add]
theorem cTlD {M : am_M} {b : Nat} (hb : 49 < b) {p : Sk} {c g : Int} (hk : scOK S) (hp : skG S p) (hbn : kBn p < 100000) {L : List Int} (h : SH M) (hs : SpA M b) (hL : CpL M S b p c g) (hc : CS M S) (hO : CO M L) (hn : L.length ≤ 500) : ∃ M', F_NS_tell_L120 0 b M = some (some (.int (iz ((tlE (tlE (tlE (tlD L p) p 0) p 1) p 2).length : Int))), M') ∧ Fr AOc M M' ∧ CO M' (tlE (tlE (tlE (tlD L p) p 0) p 1) p 2) := by
  obtain ⟨⟨a1, a2, a3, a4, a5, a6⟩, -⟩ := id hp
  obtain ⟨m, hm⟩ : ∃ m, fu = m + 1 + 1 + 1 + 1 := ⟨fu - 4, by have := fu_ge; omega⟩
  obtain ⟨M1, u1, f1, o1⟩ := cPut h hO (by omega) 32
  have h1 := h.fr f1
  have l1 := len1 L 32
  obtain ⟨M2, u2, f2, o2⟩ := cNum h1 o1 (by omega) (v := kBn p) (by omega) (by omega)
  have h2 := h1.fr f2
  have l2 := lenN (L ++ [32]) (kBn p)
  obtain ⟨M3, u3, f3, o3⟩ := cPut h2 o2 (by omega) 45
  have h3 := h2.fr f3
  have l3 := len1 ((L ++ [32]) ++ numS (kBn p)) 45
  obtain ⟨M4, u4, f4, o4⟩ := cNum h3 o3 (by omega) (v := kEn p) (by omega) (by omega)
  have h4 := h3.fr f4
  have l4 := tlD_len L p
  have fr3 := (f1.trans f2).trans f3
  have fr4 := fr3.trans f4
  have d0 := hp.bd hk (i := 0) (by omega) (by omega)
  have d1 := hp.bd hk (i := 1) (by omega) (by omega)
  have d2 := hp.bd hk (i := 2) (by omega) (by omega)
  obtain ⟨M5, u5, f5, o5⟩ := cTlE hb (i := 0) (by omega) (by omega) hk hp h4 (hs.fr fr4) (hL.oc hb fr4) (hc.oc fr4) o4 (L := tlD L p) (by omega) (m + 1 + 1 + 1)
  have h5 := h4.fr f5
  have fr5 := fr4.trans f5
  have l5 := tlE_len (tlD L p) p 0
  obtain ⟨M6, u6, f6, o6⟩ := cTlE hb (i := 0 + 1) (by omega) (by omega) hk hp h5 (hs.fr fr5) (hL.oc hb fr5) (hc.oc fr5) o5 (by omega) (m + 1 + 1)
  have h6 := h5.fr f6
  have fr6 := fr5.trans f6
  have l6 := tlE_len (tlE (tlD L p) p 0) p (0 + 1)
  obtain ⟨M7, u7, f7, o7⟩ := cTlE hb (i := 0 + 1 + 1) (by omega) (by omega) hk hp h6 (hs.fr fr6) (hL.oc hb fr6) (hc.oc fr6) o6 (by omega) (m + 1)
  have h7 := h6.fr f7
  refine ⟨M7, ?_, fr6.trans f7, o7⟩
  have e7 : rI M7 16 1 = iz ((tlE (tlE (tlE (tlD L p) p 0) p 1) p 2).length : Int) := o7.1
  have hL1 := hL.oc hb f1
  have hL3 := hL.oc hb fr3
  unfold F_NS_tell_L120
  rw [fR_eq (kd_0 h) (rr_0_5 h), cv_eq (kd_16 h), show (32 : Int32) = iz 32 from rfl, u1, bV_eq, fR_eq (kd_0 h1) (rr_0_5 h1), fI_eq (hs.fr f1).1, hL1.2.2.2.1, cv_eq (kd_16 h1), u2, bV_eq, fR_eq (kd_0 h2) (rr_0_5 h2), cv_eq (kd_16 h2), show (45 : Int32) = iz 45 from rfl, u3, bV_eq, fR_eq (kd_0 h3) (rr_0_5 h3), fI_eq (hs.fr fr3).1, hL3.2.2.2.2, cv_eq (kd_16 h3), u4, bV_eq, hm, show (0 : Int32) = iz 0 from rfl, u5, u6, u7, F_NS_tell_L162, if_pos (by decide), fR_eq (kd_0 h7) (rr_0_5 h7), fI_eq (kd_16 h7), e7]
noncomputable def tlS (S : Sc) (z : Int) : List Int := tlE (tlE (tlE (tlD (tlC (tlB (tlA (lay S z) z) z) z) (lay S z)) (lay S z) 0) (lay S z) 1) (lay S z) 2
theorem tlS_len (S : Sc) (z : Int) : (tlS S z).length ≤ 100 := by
  unfold tlS
  have := tlA_len (lay S z) z
  have := tlB_len (tlA (lay S z) z) z
  have := tlC_len (tlB (tlA (lay S z) z) z) z
  have := tlD_len (tlC (tlB (tlA (lay S z) z) z) z) (lay S z)
  have := tlE_len (tlD (tlC (tlB (tlA (lay S z) z) z) z) (lay S z)) (lay S z) 0
  have := tlE_len (tlE (tlD (tlC (tlB (tlA (lay S z) z) z) z) (lay S z)) (lay S z) 0) (lay S z) 1
  have := tlE_len (tlE (tlE (tlD (tlC (tlB (tlA (lay S z) z) z) z) (lay S z)) (lay S z) 0) (lay S z) 1) (lay S z) 2
  omega
theorem cTlC {M : am_M} {b : Nat} (hb : 49 < b) {z : Int} (hk : scOK S) (hz : isSp S z) {L : List Int} (h : SH M) (hs : SpA M b) (hL : CpL M S b (lay S z) z (gen z)) (hc : CS M S) (hO : CO M L) (hn : L.length ≤ 300) : ∃ M', F_NS_tell_L90 0 (iz z) b M = some (some (.int (iz ((tlE (tlE (tlE (tlD (tlC L z) (lay S z)) (lay S z) 0) (lay S z) 1) (lay S z) 2).length : Int))), M') ∧ Fr AOc M M' ∧ CO M' (tlE (tlE (tlE (tlD (tlC L z) (lay S z)) (lay S z) 0) (lay S z) 1) (lay S z) 2) := by
  have gp := lay_g hk hz
  have lb := lay_bn hk hz
  have rt := sp_rt hk hz
  have c0 := hz.1
  have gb := gen_bd z
  have pre : F_NS_tell_L90 0 (iz z) b M = if gen z ≤ 1 then F_NS_tell_L120 0 b M else (fR M 0 12 5 (fun b38 => cv M b38 7 ( bV (F_Outp_put b38 46 M) (fun M39 => fR M39 0 12 5 (fun b40 => cv M39 b40 7 ( bV (F_Outp_putNumber b40 ((iz z &&& 15) - 1) M39) (fun M41 => F_NS_tell_L120 0 b M41))))))) := by
    unfold F_NS_tell_L90
    rw [fI_eq hs.1, hL.2.2.1, show (1 : Int32) = iz 1 from rfl, ifE (by omega) (by omega) (by omega) (by omega)]
  by_cases g : gen z = 2
  · have zz : z % 16 ≠ 0 := by rcases gen_c z with ⟨_, q⟩ | ⟨_, _, q⟩ | ⟨q, _⟩ <;> omega
    obtain ⟨M1, u1, f1, o1⟩ := cPut h hO (by omega) 46
    have h1 := h.fr f1
    have l1 := len1 L 46
    obtain ⟨M2, u2, f2, o2⟩ := cNum h1 o1 (by omega) (v := z % 16 - 1) (by omega) (by omega)
    have h2 := h1.fr f2
    have l2 := lenN (L ++ [46]) (z % 16 - 1)
    have fr2 := f1.trans f2
    obtain ⟨M3, u3, f3, o3⟩ := cTlD hb hk gp (by omega) h2 (hs.fr fr2) (hL.oc hb fr2) (hc.oc fr2) o2 (by omega)
    have e : tlC L z = (L ++ [46]) ++ numS (z % 16 - 1) := by unfold tlC; rw [if_pos g]
    rw [e]
    refine ⟨M3, ?_, fr2.trans f3, o3⟩
    rw [pre, if_neg (by omega), fR_eq (kd_0 h) (rr_0_5 h), cv_eq (kd_16 h), show (46 : Int32) = iz 46 from rfl, u1, bV_eq, fR_eq (kd_0 h1) (rr_0_5 h1), cv_eq (kd_16 h1), show (15 : Int32) = iz 15 from rfl, show (1 : Int32) = iz 1 from rfl, iz_15 c0 (by omega), iz_sub, u2, bV_eq, u3]
  · have e : tlC L z = L := by unfold tlC; rw [if_neg g]
    rw [e, pre, if_pos (by omega)]
    exact cTlD hb hk gp (by omega) h hs hL hc hO (by omega)
noncomputable def tellK (c : Int32) (b3 : Nat) (M2 : am_M) : am_R :=
  fR M2 0 12 5 (fun b4 => cv M2 b4 7 ( bV (F_Outp_clear b4 M2) (fun M5 => fR M5 0 12 5 (fun b6 => fI M5 b3 10 4 (fun x7 => cv M5 b6 7 ( bV (F_Outp_put b6 (97 + x7) M5) (fun M8 => fR M8 0 12 5 (fun b9 => bI (F_NS_sourceOf c M8) (fun r11 M10 => cv M10 b9 7 ( bV (F_Outp_putNumber b9 r11 M10) (fun M12 => fR M12 0 12 5 (fun b13 => bI (F_NS_numberOf c M12) (fun r15 M14 => cv M14 b13 7 ( bV (F_Outp_putNumber b13 r15 M14) (fun M16 => fI M16 b3 10 5 (fun x17 => if x17 ≤ 0 then (F_NS_tell_L90 0 c b3 M16) else (fR M16 0 12 5 (fun b42 => cv M16 b42 7 ( bV (F_Outp_put b42 46 M16) (fun M43 => fR M43 0 12 5 (fun b44 => cv M43 b44 7 ( bV (F_Outp_putNumber b44 (((c >>> (4 &&& 31)) &&& 15) - 1) M43) (fun M45 => F_NS_tell_L90 0 c b3 M45)))))))))))))))))))))))
theorem cTell {M : am_M} {b : Nat} (hb : 49 < b) {z : Int} (hk : scOK S) (hz : isSp S z) (h : SH M) (hs : SpA M b) (hL : CpL M S b (lay S z) z (gen z)) (hc : CS M S) : ∃ M', tellK (iz z) b M = some (some (.int (iz ((tlS S z).length : Int))), M') ∧ Fr AOc M M' ∧ CO M' (tlS S z) := by
  have gp := lay_g hk hz
  have lb := lay_bn hk hz
  have rt := sp_rt hk hz
  have c0 := hz.1
  have gb := gen_bd z
  have kb := lay_kb hk hz
  have nk := hk.2.1
  have f0 : Fr AOc M (wI M 16 1 0) := Fr.wI (Or.inl rfl)
  have h0 := h.fr f0
  have o0 : CO (wI M 16 1 0) [] := ⟨rI_at rfl rfl, fun i x q => by simp at q⟩
  obtain ⟨M1, u1, f1, o1⟩ := cPut h0 o0 (by show 0 < 1640; omega) (97 + kKd (lay S z))
  have h1 := h0.fr f1
  have l1 := len1 [] (97 + kKd (lay S z))
  have ln0 : ([] : List Int).length = 0 := rfl
  obtain ⟨M2, u2, f2, o2⟩ := cNum h1 o1 (by omega) (v := z / 256 % 4) (by omega) (by omega)
  have h2 := h1.fr f2
  have l2 := lenN ([] ++ [97 + kKd (lay S z)]) (z / 256 % 4)
  obtain ⟨M3, u3, f3, o3⟩ := cNum h2 o2 (by omega) (v := z / 1024) (by omega) (by omega)
  have h3 := h2.fr f3
  have l3 := tlA_len (lay S z) z
  have fr3 := ((f0.trans f1).trans f2).trans f3
  have hL0 := hL.oc hb f0
  have hL3 := hL.oc hb fr3
  have o3 : CO M3 (tlA (lay S z) z) := o3
  have pre : ∀ R : am_R, ((if gen z ≤ 0 then (F_NS_tell_L90 0 (iz z) b M3) else (fR M3 0 12 5 (fun b42 => cv M3 b42 7 ( bV (F_Outp_put b42 46 M3) (fun M43 => fR M43 0 12 5 (fun b44 => cv M43 b44 7 ( bV (F_Outp_putNumber b44 (((iz z >>> (4 &&& 31)) &&& 15) - 1) M43) (fun M45 => F_NS_tell_L90 0 (iz z) b M45)))))))) : am_R) = R → tellK (iz z) b M = R := fun R hR => by
    rw [← hR]
    unfold tellK F_Outp_clear
    rw [fR_eq (kd_0 h) (rr_0_5 h), cv_eq (kd_16 h), sI_eq (kd_16 h), bV_eq, fR_eq (kd_0 h0) (rr_0_5 h0), fI_eq (hs.fr f0).1, hL0.1.1, cv_eq (kd_16 h0), show (97 : Int32) = iz 97 from rfl, iz_add, u1, bV_eq, fR_eq (kd_0 h1) (rr_0_5 h1), nsSrc c0 (by omega), bI_eq, cv_eq (kd_16 h1), u2, bV_eq, fR_eq (kd_0 h2) (rr_0_5 h2), nsNum c0 (by omega), bI_eq, cv_eq (kd_16 h2), u3, bV_eq, fI_eq (hs.fr fr3).1, hL3.2.2.1, show (0 : Int32) = iz 0 from rfl, ifE (by omega) (by omega) (by omega) (by omega)]
  unfold tlS
  by_cases g : gen z = 0
  · have e : tlB (tlA (lay S z) z) z = tlA (lay S z) z := by unfold tlB; rw [if_pos g]
    rw [e]
    obtain ⟨M4, u4, f4, o4⟩ := cTlC hb hk hz h3 (hs.fr fr3) hL3 (hc.oc fr3) o3 (by omega)
    exact ⟨M4, pre _ (by rw [if_pos (by omega), u4]), fr3.trans f4, o4⟩
  · have zz : z % 256 ≠ 0 := by rcases gen_c z with ⟨_, q⟩ | ⟨q, _, _⟩ | ⟨q, _⟩ <;> omega
    have z16 : 1 ≤ z % 256 / 16 := by
      obtain ⟨-, -, -, q⟩ := hz
      omega
    obtain ⟨M4, u4, f4, o4⟩ := cPut h3 o3 (by omega) 46
    have h4 := h3.fr f4
    have l4 := len1 (tlA (lay S z) z) 46
    obtain ⟨M5, u5, f5, o5⟩ := cNum h4 o4 (by omega) (v := z / 16 % 16 - 1) (by omega) (by omega)
    have h5 := h4.fr f5
    have l5 := lenN (tlA (lay S z) z ++ [46]) (z / 16 % 16 - 1)
    have fr5 := (fr3.trans f4).trans f5
    obtain ⟨M6, u6, f6, o6⟩ := cTlC hb hk hz h5 (hs.fr fr5) (hL.oc hb fr5) (hc.oc fr5) o5 (by omega)
    have e : tlB (tlA (lay S z) z) z = (tlA (lay S z) z ++ [46]) ++ numS (z / 16 % 16 - 1) := by unfold tlB; rw [if_neg g]
    rw [e]
    refine ⟨M6, pre _ ?_, fr5.trans f6, o6⟩
    rw [if_neg (by omega), fR_eq (kd_0 h3) (rr_0_5 h3), cv_eq (kd_16 h3), show (46 : Int32) = iz 46 from rfl, u4, bV_eq, fR_eq (kd_0 h4) (rr_0_5 h4), cv_eq (kd_16 h4), show (4 : Int32) = iz 4 from rfl, show (31 : Int32) = iz 31 from rfl, show (15 : Int32) = iz 15 from rfl, show (1 : Int32) = iz 1 from rfl, iz_s4 c0 (by omega), iz_15 (by omega) (by omega), iz_sub, u5, bV_eq, u6]
end Tell
