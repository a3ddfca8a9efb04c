/-! ===== reading a source ===== -/
section SrcA
variable (T : Nat → Int) (n : Nat)
def q2 (nk : Int) (o : Lo) : Lo := oNum T n 0 (nk - 1) (oA T n o)
def q3 (nk : Int) (o : Lo) : Lo := oN T n 14 (q2 T n nk o)
def q4 (nk : Int) (W : Int → Int) (o : Lo) : Lo := oNum T n 0 (W 0 - 1) (q3 T n nk o)
def q5 (nk : Int) (W : Int → Int) (o : Lo) : Lo := oNum T n 0 (W 1 - 1) (q4 T n nk W o)
def q6 (nk : Int) (W : Int → Int) (o : Lo) : Lo := oNum T n 0 (W 2 - 1) (q5 T n nk W o)
def q7 (nk : Int) (W : Int → Int) (o : Lo) : Lo := oN T n 15 (q6 T n nk W o)
def q8 (nk : Int) (W : Int → Int) (o : Lo) : Lo := oNum T n 0 9999 (q7 T n nk W o)
def q9 (nk : Int) (W : Int → Int) (o : Lo) : Lo := oN T n 16 (q8 T n nk W o)
def q10 (nk : Int) (W : Int → Int) (o : Lo) : Lo := oNum T n 1 99 (q9 T n nk W o)
def q11 (nk : Int) (W : Int → Int) (o : Lo) : Lo := oB T n 17 1 5 (q10 T n nk W o)
def q12 (nk : Int) (W : Int → Int) (o : Lo) : Lo := oB T n 18 0 9999 (q11 T n nk W o)
def qO (nk : Int) (W : Int → Int) (o : Lo) : Lo := oB T n 19 0 20 (q12 T n nk W o)
def qG (nk : Int) (W : Int → Int) (o : Lo) (i : Int) : Int := if i = 0 then oV T n (oA T n o) else if i = 1 then oV T n (q3 T n nk o) else if i = 2 then oV T n (q4 T n nk W o) else if i = 3 then oV T n (q5 T n nk W o) else if i = 4 then oV T n (q7 T n nk W o) else if i = 5 then oV T n (q9 T n nk W o) else if i = 6 then oBv T n 17 1 (q10 T n nk W o) else if i = 7 then oBv T n 18 9999 (q11 T n nk W o) else oBv T n 19 0 (q12 T n nk W o)
def qF (nk : Int) (W : Int → Int) (o : Lo) (i : Int) : Int := if i = 9 then (if qG T n nk W o 7 < qG T n nk W o 4 then 0 else (qG T n nk W o 7 - qG T n nk W o 4) / qG T n nk W o 5 + 1) * qG T n nk W o 6 else qG T n nk W o i
end SrcA
section SrcB
variable {T : Nat → Int} {n : Nat} {M : am_M} {o : Lo}
def AQ (s : Int) (b j : Nat) : Prop := AC6 b j ∨ (b = 10 ∧ s * 10 ≤ (j : Int) ∧ (j : Int) < s * 10 + 10)
def RqC (T : Nat → Int) (n : Nat) (M0 M : am_M) (s j : Int) (o : Lo) (fn : Int → Int) : Prop := Fr (AQ s) M0 M ∧ CSt T n M o ∧ (gd o = true → ∀ i, 0 ≤ i → i < j → rI M 10 (s * 10 + i).toNat = iz (fn i))
theorem RqC.s {M0 : am_M} {s j : Int} {fn : Int → Int} (h : RqC T n M0 M s j o fn) : SH M := h.2.1.x.1
theorem RqC.mv {M0 M1 : am_M} {s j : Int} {o' : Lo} {fn : Int → Int} (h : RqC T n M0 M s j o fn) (f1 : Fr AC6 M M1) (h1 : CSt T n M1 o') (g : gd o' = true → gd o = true) : RqC T n M0 M1 s j o' fn :=
  ⟨h.1.trans (f1.mono (fun b j q => Or.inl q)), h1, fun q i i1 i2 => by rw [f1.ri (fun q => by unfold AC6 at q; omega)]; exact h.2.2 (g q) i i1 i2⟩
theorem cQs {M0 M1 : am_M} {s j : Int} {o' : Lo} {fn : Int → Int} {v : Int32} (s0 : 0 ≤ s) (s1 : s < 4) (j0 : 0 ≤ j) (j1 : j < 10) (h : RqC T n M0 M s j o fn) (f1 : Fr AC6 M M1) (h1 : CSt T n M1 o') (g : gd o' = true → gd o = true) (hv : gd o' = true → v = iz (fn j)) : ∃ M2, F_Scen_setSource 7 (iz s) (iz j) v M1 = some (none, M2) ∧ RqC T n M0 M2 s (j + 1) o' fn := by
  have h2 := h.mv f1 h1 g
  have fr : Fr (AQ s) M1 (wI M1 10 (s * 10 + j).toNat v) := Fr.wI (Or.inr ⟨rfl, by omega, by omega⟩)
  refine ⟨wI M1 10 (s * 10 + j).toNat v, setSource_eq (SA_7 h1.x.1) s0 s1 j0 j1, h2.1.trans fr, h1.f (Fr.wI (A := fun b _ => b = 10) rfl) (fun b j q => by omega), fun q i i1 i2 => ?_⟩
  by_cases e : i = j
  · rw [e, rI_at rfl rfl]; exact hv q
  · rw [rI_ne (by omega)]; exact h2.2.2 q i i1 (by omega)
theorem cBur (hS : SH M) {s : Int} (s0 : 0 ≤ s) (s1 : s < 4) : ∃ v, F_Scen_burstsUpTo 7 (iz s) (rI M 10 (s * 10 + 7).toNat) M = some (some (.int v), M) ∧ ∀ a e u : Int, rI M 10 (s * 10 + 4).toNat = iz a → rI M 10 (s * 10 + 5).toNat = iz e → rI M 10 (s * 10 + 7).toNat = iz u → 0 ≤ a → a ≤ 9999 → 1 ≤ e → e ≤ 99 → 0 ≤ u → u ≤ 9999 → v = iz (if u < a then 0 else (u - a) / e + 1) := by
  unfold F_Scen_burstsUpTo
  have o4 : F_Scen_ofSource 7 (iz s) 4 M = some (some (.int (rI M 10 (s * 10 + 4).toNat)), M) := ofSource_eq (SA_7 hS) s0 s1 (w := 4) (by omega) (by omega)
  have o7 : F_Scen_ofSource 7 (iz s) 7 M = some (some (.int (rI M 10 (s * 10 + 7).toNat)), M) := ofSource_eq (SA_7 hS) s0 s1 (w := 7) (by omega) (by omega)
  have o5 : F_Scen_ofSource 7 (iz s) 5 M = some (some (.int (rI M 10 (s * 10 + 5).toNat)), M) := ofSource_eq (SA_7 hS) s0 s1 (w := 5) (by omega) (by omega)
  have mm : ∀ x : Int32, F_Math_min x x M = some (some (.int x), M) := fun x => by unfold F_Math_min; split <;> rfl
  rw [cv_eq (kd_7 hS), o4, bI_eq, cv_eq (kd_7 hS), o7, bI_eq, mm, bI_eq, cv_eq (kd_7 hS), o5, bI_eq]
  generalize rI M 10 (s * 10 + 4).toNat = x4
  generalize rI M 10 (s * 10 + 5).toNat = x5
  generalize rI M 10 (s * 10 + 7).toNat = x7
  by_cases g1 : x7 < x4
  · rw [if_pos g1]
    refine ⟨_, rfl, fun a e u h1 h2 h3 a1 a2 a3 a4 a5 a6 => ?_⟩
    rw [h1, h3, iz_lt (by omega) (by omega) (by omega) (by omega)] at g1
    rw [if_pos g1]; rfl
  · rw [if_neg g1]
    by_cases g2 : (1 : Int32) ≤ x5
    · have ne : ¬ x5 = 0 := fun q => by rw [q] at g2; exact absurd g2 (by decide)
      rw [if_pos g2, dZ, if_neg ne]
      refine ⟨_, rfl, fun a e u h1 h2 h3 a1 a2 a3 a4 a5 a6 => ?_⟩
      rw [h1, h3, iz_lt (by omega) (by omega) (by omega) (by omega)] at g1
      rw [if_neg g1, h1, h2, h3, iz_sub, iz_ediv (by omega) (by omega) (by omega) (by omega), show (1 : Int32) = iz 1 from rfl, iz_add]
    · rw [if_neg g2]
      refine ⟨_, rfl, fun a e u h1 h2 h3 a1 a2 a3 a4 a5 a6 => ?_⟩
      rw [h2, show (1 : Int32) = iz 1 from rfl, iz_le (by omega) (by omega) (by omega) (by omega)] at g2
      omega
theorem cW7 {M : am_M} (h : SH M) {i w : Int} (h1 : 0 ≤ i) (h2 : i < 3) (hw : rI M 8 i.toNat = iz w) : F_Scen_cellsAlong 7 (iz i) M = some (some (.int (iz w)), M) := by
  unfold F_Scen_cellsAlong
  rw [show (0 : Int32) = iz 0 from rfl, ifL (by omega) (by omega) (by omega) (by omega), if_neg (by omega), fR_eq (kd_7 h) (rr_7_0 h), aN_eq (by rw [kd_8 h]; decide) (ln_8 h), ifE (by omega) (by omega) (by omega) (by omega), if_neg (by omega), fR_eq (kd_7 h) (rr_7_0 h), aI_eq (kd_8 h) (ln_8 h) (by omega) (by omega) (by omega), hw]
theorem cSrc (ht : TxO T n) (h : CSt T n M o) (g : gd o = true) {s nk : Int} {W : Int → Int} (s0 : 0 ≤ s) (s1 : s < 4) (n0 : 0 ≤ nk) (n1 : nk ≤ 5) (hs : rI M 7 4 = iz s) (hn : rI M 7 3 = iz nk) (hW : ∀ i, 0 ≤ i → i < 3 → rI M 8 i.toNat = iz (W i) ∧ 1 ≤ W i ∧ W i ≤ 40) : ∃ M', F_Read_readSource 6 M = some (none, M') ∧ Fr (fun b j => AQ s b j ∨ (b = 7 ∧ j = 4)) M M' ∧ CSt T n M' (qO T n nk W o) ∧ (gd (qO T n nk W o) = true → ∀ i, 0 ≤ i → i < 10 → rI M' 10 (s * 10 + i).toNat = iz (qF T n nk W o i)) ∧ rI M' 7 4 = iz (s + 1) := by
  have hS := h.x.1
  have fg := fu_ge
  obtain ⟨f0, hf0⟩ : ∃ f0, fu = f0 + 1 + 1 + 1 + 1 := ⟨fu - 4, by omega⟩
  unfold F_Read_readSource
  rw [fR_eq (kd_6 hS) (rr_6_0 hS), fI_eq (kd_7 hS), hs, show (4 : Int32) = iz 4 from rfl, ifL (by omega) (by omega) (by omega) (by omega), if_pos s1, cv_eq (kd_6 hS)]
  obtain ⟨M1, e1, f1, h1⟩ := cGo ht h g
  have S1 := h1.x.1
  have x1 : rI M1 7 3 = iz nk := by rw [f1.ri (fun q => by unfold AC6 at q; omega)]; exact hn
  have c1 : RqC T n M M1 s 0 (oA T n o) (qF T n nk W o) := ⟨f1.mono (fun b j q => Or.inl q), h1, fun _ i i1 i2 => by omega⟩
  obtain ⟨v2, M2, e2, f2, h2, w2⟩ := cNmb ht h1 (lo := 0) (hi := nk - 1) (by omega) (by omega) (by omega) (by omega)
  obtain ⟨N2, u2, c2⟩ := cQs s0 s1 (j := 0) (by omega) (by omega) c1 f2 h2 (fun q => gp_num q) (fun q => (w2 q).1)
  have S2 := c2.s
  rw [e1, bV_eq, fR_eq (kd_6 S1) (rr_6_0 S1), fR_eq (kd_6 S1) (rr_6_0 S1), fI_eq (kd_7 S1), x1, cv_eq (kd_6 S1), show iz nk - 1 = iz (nk - 1) from iz_sub _ 1, show F_Read_needNumber 6 0 (iz (nk - 1)) M1 = _ from e2, bI_eq, cv_eq (kd_7 h2.x.1), show F_Scen_setSource 7 (iz s) 0 v2 M2 = _ from u2, bV_eq, cv_eq (kd_6 S2)]
  obtain ⟨M3, e3, f3, h3⟩ := cNeed ht c2.2.1 (k := 14) (by omega)
  have S3 := h3.x.1
  have c3 := c2.mv f3 h3 (fun q => gp_N q)
  rw [show F_Read_needWord 6 114 N2 = _ from e3, bV_eq, hf0]
  have wd : ∀ (X : am_M) (i : Int), Fr (AQ s) M X → 0 ≤ i → i < 3 → rI X 8 i.toNat = iz (W i) := fun X i fX i0 i1 => by
    rw [fX.ri (fun q => by unfold AQ AC6 at q; omega)]; exact (hW i i0 i1).1
  have W0 := (hW 0 (by omega) (by omega)).2
  have W1 := (hW 1 (by omega) (by omega)).2
  have W2 := (hW 2 (by omega) (by omega)).2
  obtain ⟨v4, M4, e4, f4, h4, w4⟩ := cNmb ht h3 (lo := 0) (hi := W 0 - 1) (by omega) (by omega) (by omega) (by omega)
  obtain ⟨N4, u4, c4⟩ := cQs s0 s1 (j := 0 + 1) (by omega) (by omega) c3 f4 h4 (fun q => gp_num q) (fun q => (w4 q).1)
  have S4 := c4.s
  rw [F_Read_readSource_L54, if_neg (by decide), fR_eq (kd_6 S3) (rr_6_0 S3), fR_eq (kd_6 S3) (rr_6_0 S3), cv_eq (kd_7 S3), show (0 : Int32) = iz 0 from rfl, cW7 S3 (by omega) (by omega) (wd M3 0 c3.1 (by omega) (by omega)), bI_eq, cv_eq (kd_6 S3), show iz (W 0) - 1 = iz (W 0 - 1) from iz_sub _ 1, e4, bI_eq, cv_eq (kd_7 h4.x.1), show F_Scen_setSource 7 (iz s) (1 + iz 0) v4 M4 = _ from u4, bV_eq, nm_eq, show iz 0 + 1 = iz 1 from rfl]
  obtain ⟨v5, M5, e5, f5, h5, w5⟩ := cNmb ht c4.2.1 (lo := 0) (hi := W 1 - 1) (by omega) (by omega) (by omega) (by omega)
  obtain ⟨N5, u5, c5⟩ := cQs s0 s1 (j := 0 + 1 + 1) (by omega) (by omega) c4 f5 h5 (fun q => gp_num q) (fun q => (w5 q).1)
  have S5 := c5.s
  rw [F_Read_readSource_L54, if_neg (by decide), fR_eq (kd_6 S4) (rr_6_0 S4), fR_eq (kd_6 S4) (rr_6_0 S4), cv_eq (kd_7 S4), cW7 S4 (by omega) (by omega) (wd N4 1 c4.1 (by omega) (by omega)), bI_eq, cv_eq (kd_6 S4), show iz (W 1) - 1 = iz (W 1 - 1) from iz_sub _ 1, show F_Read_needNumber 6 0 (iz (W 1 - 1)) N4 = _ from e5, bI_eq, cv_eq (kd_7 h5.x.1), show F_Scen_setSource 7 (iz s) (1 + iz 1) v5 M5 = _ from u5, bV_eq, nm_eq, show iz 1 + 1 = iz 2 from rfl]
  obtain ⟨v6, M6, e6, f6, h6, w6⟩ := cNmb ht c5.2.1 (lo := 0) (hi := W 2 - 1) (by omega) (by omega) (by omega) (by omega)
  obtain ⟨N6, u6, c6⟩ := cQs s0 s1 (j := 0 + 1 + 1 + 1) (by omega) (by omega) c5 f6 h6 (fun q => gp_num q) (fun q => (w6 q).1)
  have S6 := c6.s
  rw [F_Read_readSource_L54, if_neg (by decide), fR_eq (kd_6 S5) (rr_6_0 S5), fR_eq (kd_6 S5) (rr_6_0 S5), cv_eq (kd_7 S5), cW7 S5 (by omega) (by omega) (wd N5 2 c5.1 (by omega) (by omega)), bI_eq, cv_eq (kd_6 S5), show iz (W 2) - 1 = iz (W 2 - 1) from iz_sub _ 1, show F_Read_needNumber 6 0 (iz (W 2 - 1)) N5 = _ from e6, bI_eq, cv_eq (kd_7 h6.x.1), show F_Scen_setSource 7 (iz s) (1 + iz 2) v6 M6 = _ from u6, bV_eq, nm_eq, show iz 2 + 1 = iz 3 from rfl]
  obtain ⟨M7, e7, f7, h7⟩ := cNeed ht c6.2.1 (k := 15) (by omega)
  have S7 := h7.x.1
  have c7 := c6.mv f7 h7 (fun q => gp_N q)
  obtain ⟨v8, M8, e8, f8, h8, w8⟩ := cNmb ht h7 (lo := 0) (hi := 9999) (by omega) (by omega) (by omega) (by omega)
  obtain ⟨N8, u8, c8⟩ := cQs s0 s1 (j := 0 + 1 + 1 + 1 + 1) (by omega) (by omega) c7 f8 h8 (fun q => gp_num q) (fun q => (w8 q).1)
  have S8 := c8.s
  rw [F_Read_readSource_L54, if_pos (by decide), cv_eq (kd_6 S6), show F_Read_needWord 6 115 N6 = _ from e7, bV_eq, fR_eq (kd_6 S7) (rr_6_0 S7), cv_eq (kd_6 S7), show F_Read_needNumber 6 0 9999 M7 = _ from e8, bI_eq, cv_eq (kd_7 h8.x.1), show F_Scen_setSource 7 (iz s) 4 v8 M8 = _ from u8, bV_eq, cv_eq (kd_6 S8)]
  obtain ⟨M9, e9, f9, h9⟩ := cNeed ht c8.2.1 (k := 16) (by omega)
  have S9 := h9.x.1
  have c9 := c8.mv f9 h9 (fun q => gp_N q)
  obtain ⟨va, Ma, ea, fa, ha, wa⟩ := cNmb ht h9 (lo := 1) (hi := 99) (by omega) (by omega) (by omega) (by omega)
  obtain ⟨Na, ua, ca⟩ := cQs s0 s1 (j := 0 + 1 + 1 + 1 + 1 + 1) (by omega) (by omega) c9 fa ha (fun q => gp_num q) (fun q => (wa q).1)
  have Sa := ca.s
  rw [show F_Read_needWord 6 116 N8 = _ from e9, bV_eq, fR_eq (kd_6 S9) (rr_6_0 S9), cv_eq (kd_6 S9), show F_Read_needNumber 6 1 99 M9 = _ from ea, bI_eq, cv_eq (kd_7 ha.x.1), show F_Scen_setSource 7 (iz s) 5 va Ma = _ from ua, bV_eq, fR_eq (kd_6 Sa) (rr_6_0 Sa), cv_eq (kd_6 Sa)]
  obtain ⟨vb, Mb, eb, fb2, hb, wb⟩ := cBeh ht ca.2.1 (k := 17) (by omega) (lo := 1) (hi := 5) (d := 1) (by omega) (by omega) (by omega) (by omega)
  obtain ⟨Nb, ub, cb⟩ := cQs s0 s1 (j := 0 + 1 + 1 + 1 + 1 + 1 + 1) (by omega) (by omega) ca fb2 hb (fun q => gp_B q) (fun q => (wb q).1)
  have Sb := cb.s
  rw [show F_Read_numberBehind 6 117 1 5 1 Na = _ from eb, bI_eq, cv_eq (kd_7 hb.x.1), show F_Scen_setSource 7 (iz s) 6 vb Mb = _ from ub, bV_eq, fR_eq (kd_6 Sb) (rr_6_0 Sb), cv_eq (kd_6 Sb)]
  obtain ⟨vc, Mc, ec, fc, hc, wc⟩ := cBeh ht cb.2.1 (k := 18) (by omega) (lo := 0) (hi := 9999) (d := 9999) (by omega) (by omega) (by omega) (by omega)
  obtain ⟨Nc, uc, cc⟩ := cQs s0 s1 (j := 0 + 1 + 1 + 1 + 1 + 1 + 1 + 1) (by omega) (by omega) cb fc hc (fun q => gp_B q) (fun q => (wc q).1)
  have Sc := cc.s
  rw [show F_Read_numberBehind 6 118 0 9999 9999 Nb = _ from ec, bI_eq, cv_eq (kd_7 hc.x.1), show F_Scen_setSource 7 (iz s) 7 vc Mc = _ from uc, bV_eq, fR_eq (kd_6 Sc) (rr_6_0 Sc), cv_eq (kd_6 Sc)]
  obtain ⟨vd, Md, ed, fd, hd, wd2⟩ := cBeh ht cc.2.1 (k := 19) (by omega) (lo := 0) (hi := 20) (d := 0) (by omega) (by omega) (by omega) (by omega)
  obtain ⟨Nd, ud, cd⟩ := cQs s0 s1 (j := 0 + 1 + 1 + 1 + 1 + 1 + 1 + 1 + 1) (by omega) (by omega) cc fd hd (fun q => gp_B q) (fun q => (wd2 q).1)
  have Sd := cd.s
  rw [show F_Read_numberBehind 6 119 0 20 0 Nc = _ from ed, bI_eq, cv_eq (kd_7 hd.x.1), show F_Scen_setSource 7 (iz s) 8 vd Md = _ from ud, bV_eq, fR_eq (kd_6 Sd) (rr_6_0 Sd), fR_eq (kd_6 Sd) (rr_6_0 Sd), cv_eq (kd_7 Sd)]
  have o7 : F_Scen_ofSource 7 (iz s) 7 Nd = some (some (.int (rI Nd 10 (s * 10 + 7).toNat)), Nd) := ofSource_eq (SA_7 Sd) s0 s1 (w := 7) (by omega) (by omega)
  have o6 : F_Scen_ofSource 7 (iz s) 6 Nd = some (some (.int (rI Nd 10 (s * 10 + 6).toNat)), Nd) := ofSource_eq (SA_7 Sd) s0 s1 (w := 6) (by omega) (by omega)
  obtain ⟨vr, er, wr⟩ := cBur Sd s0 s1
  obtain ⟨Ne, ue, ce⟩ := cQs s0 s1 (j := 0 + 1 + 1 + 1 + 1 + 1 + 1 + 1 + 1 + 1) (by omega) (by omega) cd (Fr.refl Nd) cd.2.1 (fun q => q) (v := vr * rI Nd 10 (s * 10 + 6).toNat) (fun q => by
    have r4 := cd.2.2 q 4 (by omega) (by omega)
    have r5 := cd.2.2 q 5 (by omega) (by omega)
    have r6 := cd.2.2 q 6 (by omega) (by omega)
    have r7 := cd.2.2 q 7 (by omega) (by omega)
    have gc : gd (q12 T n nk W o) = true := gp_B q
    have gb : gd (q11 T n nk W o) = true := gp_B gc
    have ga : gd (q10 T n nk W o) = true := gp_B gb
    have g9 : gd (q9 T n nk W o) = true := gp_num ga
    have g8 : gd (q8 T n nk W o) = true := gp_N g9
    have b4 := num_bd (T := T) (n := n) (o := q7 T n nk W o) g8
    have b5 := num_bd (T := T) (n := n) (o := q9 T n nk W o) ga
    have b7 := beh_bd (T := T) (n := n) (o := q11 T n nk W o) (d := 9999) gc
    have b7' : 0 ≤ oBv T n 18 9999 (q11 T n nk W o) ∧ oBv T n 18 9999 (q11 T n nk W o) ≤ 9999 := by
      by_cases z : oW T n 18 (q11 T n nk W o) = true
      · exact b7.1 z
      · have := b7.2 z; omega
    rw [r6, wr _ _ _ r4 r5 r7 b4.1 b4.2 b5.1 b5.2 b7'.1 b7'.2, iz_mul]
    rfl)
  have Se := ce.s
  have xe : rI Ne 7 4 = iz s := by rw [ce.1.ri (fun q => by unfold AQ AC6 at q; omega)]; exact hs
  rw [o7, bI_eq, cv_eq (kd_7 Sd), er, bI_eq, fR_eq (kd_6 Sd) (rr_6_0 Sd), fR_eq (kd_6 Sd) (rr_6_0 Sd), cv_eq (kd_7 Sd), o6, bI_eq, cv_eq (kd_7 Sd), show F_Scen_setSource 7 (iz s) 9 (vr * rI Nd 10 (s * 10 + 6).toNat) Nd = _ from ue, bV_eq, fR_eq (kd_6 Se) (rr_6_0 Se), fI_eq (kd_7 Se), xe, sI_eq (kd_7 Se), show iz s + 1 = iz (s + 1) from iz_add _ 1]
  have fx : Fr (fun b j => AQ s b j ∨ (b = 7 ∧ j = 4)) Ne (wI Ne 7 4 (iz (s + 1))) := Fr.wI (Or.inr ⟨rfl, rfl⟩)
  refine ⟨_, rfl, (ce.1.mono (fun b j q => Or.inl q)).trans fx, ce.2.1.f (Fr.wI (A := fun b _ => b = 7) rfl) (fun b j q => by omega), fun q i i1 i2 => ?_, by rw [rI_at rfl rfl]⟩
  rw [rI_ne (by omega)]
  exact ce.2.2 q i i1 (by omega)
end SrcB
