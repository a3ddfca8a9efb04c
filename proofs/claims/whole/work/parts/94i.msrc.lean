/-! ===== reading a source: the reference ===== -/
section SrcM
variable {T : Nat → Int} {n : Nat} {M : am_M} {o : Lo}
def BQ (s : Int) (b j : Nat) : Prop := BM b j ∨ (b = 76 ∧ s * 9 ≤ (j : Int) ∧ (j : Int) < s * 9 + 9)
def RqM (T : Nat → Int) (n : Nat) (M0 M : am_M) (s j : Int) (o : Lo) (fn : Int → Int) : Prop := Fr (BQ s) M0 M ∧ MSt T n M o ∧ (gd o = true → ∀ i, 0 ≤ i → i < j → rI M 76 (9 * s + i).toNat = iz (fn i))
theorem RqM.s {M0 : am_M} {s j : Int} {fn : Int → Int} (h : RqM T n M0 M s j o fn) : SH M := h.2.1.x.1
theorem RqM.mv {M0 M1 : am_M} {s j : Int} {o' : Lo} {fn : Int → Int} (h : RqM T n M0 M s j o fn) (f1 : Fr BM M M1) (h1 : MSt T n M1 o') (g : gd o' = true → gd o = true) : RqM T n M0 M1 s j o' fn :=
  ⟨h.1.trans (f1.mono (fun b j q => Or.inl q)), h1, fun q i i1 i2 => by rw [f1.ri (fun q => by unfold BM at q; omega)]; exact h.2.2 (g q) i i1 i2⟩
theorem mQs {M0 M1 : am_M} {s j : Int} {o' : Lo} {fn : Int → Int} {v : Int32} (s0 : 0 ≤ s) (s1 : s < 4) (j0 : 0 ≤ j) (j1 : j < 9) (h : RqM T n M0 M s j o fn) (f1 : Fr BM M M1) (h1 : MSt T n M1 o') (g : gd o' = true → gd o = true) (hv : gd o' = true → v = iz (fn j)) : ∃ M2, (∀ X : am_M → am_R, tI M1 76 (iz (9 * s + j)) v X = X M2) ∧ RqM T n M0 M2 s (j + 1) o' fn := by
  have h2 := h.mv f1 h1 g
  have S1 := h1.x.1
  have fr : Fr (BQ s) M1 (wI M1 76 (9 * s + j).toNat v) := Fr.wI (Or.inr ⟨rfl, by omega, by omega⟩)
  refine ⟨wI M1 76 (9 * s + j).toNat v, fun X => tI_eq (kd_76 S1) (ln_76 S1) (by omega) (by omega) (by omega), h2.1.trans fr, h1.f (Fr.wI (A := fun b _ => b = 76) rfl) (fun b j q => by omega), fun q i i1 i2 => ?_⟩
  by_cases e : i = j
  · rw [e, rI_at rfl rfl]; exact hv q
  · rw [rI_ne (by omega)]; exact h2.2.2 q i i1 (by omega)
theorem mSrc (ht : TxO T n) (h : MSt T n M o) (g : gd o = true) {s nk : Int} {W : Int → Int} (s0 : 0 ≤ s) (s1 : s < 4) (n0 : 0 ≤ nk) (n1 : nk ≤ 5) (hs : rI M 70 12 = iz s) (hn : rI M 70 10 = iz nk) (hW : ∀ i, 0 ≤ i → i < 3 → rI M 74 i.toNat = iz (W i) ∧ 1 ≤ W i ∧ W i ≤ 40) : ∃ M', F_Md_readSource 70 M = some (none, M') ∧ Fr (fun b j => BQ s b j ∨ (b = 70 ∧ j = 12)) M M' ∧ MSt T n M' (qO T n nk W o) ∧ (gd (qO T n nk W o) = true → ∀ i, 0 ≤ i → i < 9 → rI M' 76 (9 * s + i).toNat = iz (qG T n nk W o i)) ∧ rI M' 70 12 = iz (s + 1) := by
  have hS := h.x.1
  have fg := fu_ge
  obtain ⟨f0, hf0⟩ : ∃ f0, fu = f0 + 1 + 1 + 1 + 1 := ⟨fu - 4, by omega⟩
  unfold F_Md_readSource
  rw [fI_eq (kd_70 hS), hs, show (4 : Int32) = iz 4 from rfl, ifQ (by omega) (by omega) (by omega) (by omega), if_neg (by omega)]
  unfold F_Md_readSource_L17
  rw [cv_eq (kd_70 hS), mGd h, bI_eq, bz_if0, if_pos g, cv_eq (kd_70 hS)]
  obtain ⟨M1, e1, f1, h1⟩ := mGo ht h g
  have S1 := h1.x.1
  have x1 : rI M1 70 10 = iz nk := by rw [f1.ri (fun q => by unfold BM at q; omega)]; exact hn
  have y1 : rI M1 70 12 = iz s := by rw [f1.ri (fun q => by unfold BM at q; omega)]; exact hs
  have c1 : RqM T n M M1 s 0 (oA T n o) (qG T n nk W o) := ⟨f1.mono (fun b j q => Or.inl q), h1, fun _ i i1 i2 => by omega⟩
  obtain ⟨v2, M2, e2, f2, h2, w2⟩ := mNmb ht h1 (lo := 0) (hi := nk - 1) (by omega) (by omega) (by omega) (by omega)
  obtain ⟨N2, u2, c2⟩ := mQs s0 s1 (j := 0) (by omega) (by omega) c1 f2 h2 (fun q => gp_num q) (fun q => (w2 q).1)
  have S2 := c2.s
  rw [e1, bV_eq, fI_eq (kd_70 S1), y1, nm_eq, fR_eq (kd_70 S1) (rr_70_13 S1), fI_eq (kd_70 S1), x1, cv_eq (kd_70 S1), show iz nk - 1 = iz (nk - 1) from iz_sub _ 1, show F_Md_number 70 0 (iz (nk - 1)) M1 = _ from e2, bI_eq, show (9 : Int32) = iz 9 from rfl, iz_mul, show iz (9 * s) + 0 = iz (9 * s + 0) from iz_add _ 0, u2, cv_eq (kd_70 S2)]
  obtain ⟨M3, e3, f3, h3⟩ := mNeed ht c2.2.1 (k' := 34) (k := 14) (by omega) rfl
  have S3 := h3.x.1
  have c3 := c2.mv f3 h3 (fun q => gp_N q)
  rw [show F_Md_passes 70 134 N2 = _ from e3, bV_eq, hf0]
  have wd : ∀ (X : am_M) (i : Int), Fr (BQ s) M X → 0 ≤ i → i < 3 → rI X 74 i.toNat = iz (W i) := fun X i fX i0 i1 => by
    rw [fX.ri (fun q => by unfold BQ BM at q; omega)]; exact (hW i i0 i1).1
  have W0 := (hW 0 (by omega) (by omega)).2
  have W1 := (hW 1 (by omega) (by omega)).2
  have W2 := (hW 2 (by omega) (by omega)).2
  obtain ⟨v4, M4, e4, f4, h4, w4⟩ := mNmb ht h3 (lo := 0) (hi := W 0 - 1) (by omega) (by omega) (by omega) (by omega)
  obtain ⟨N4, u4, c4⟩ := mQs s0 s1 (j := 0 + 1) (by omega) (by omega) c3 f4 h4 (fun q => gp_num q) (fun q => (w4 q).1)
  have S4 := c4.s
  rw [F_Md_readSource_L64, if_neg (by decide), fR_eq (kd_70 S3) (rr_70_13 S3), fR_eq (kd_70 S3) (rr_70_8 S3), show (0 : Int32) = iz 0 from rfl, aI_eq (kd_74 S3) (ln_74 S3) (by omega) (by omega) (by omega), wd M3 0 c3.1 (by omega) (by omega), cv_eq (kd_70 S3), show iz (W 0) - 1 = iz (W 0 - 1) from iz_sub _ 1, e4, bI_eq, show iz (9 * s) + 1 + iz 0 = iz (9 * s + (0 + 1)) from (congrArg (· + iz 0) (iz_add (9 * s) 1)).trans ((iz_add _ 0).trans (congrArg iz (by omega))), u4, nm_eq, show iz 0 + 1 = iz 1 from rfl]
  obtain ⟨v5, M5, e5, f5, h5, w5⟩ := mNmb ht c4.2.1 (lo := 0) (hi := W 1 - 1) (by omega) (by omega) (by omega) (by omega)
  obtain ⟨N5, u5, c5⟩ := mQs s0 s1 (j := 0 + 1 + 1) (by omega) (by omega) c4 f5 h5 (fun q => gp_num q) (fun q => (w5 q).1)
  have S5 := c5.s
  rw [F_Md_readSource_L64, if_neg (by decide), fR_eq (kd_70 S4) (rr_70_13 S4), fR_eq (kd_70 S4) (rr_70_8 S4), aI_eq (kd_74 S4) (ln_74 S4) (by omega) (by omega) (by omega), wd N4 1 c4.1 (by omega) (by omega), cv_eq (kd_70 S4), show iz (W 1) - 1 = iz (W 1 - 1) from iz_sub _ 1, show F_Md_number 70 0 (iz (W 1 - 1)) N4 = _ from e5, bI_eq, show iz (9 * s) + 1 + iz 1 = iz (9 * s + (0 + 1 + 1)) from (congrArg (· + iz 1) (iz_add (9 * s) 1)).trans ((iz_add _ 1).trans (congrArg iz (by omega))), u5, nm_eq, show iz 1 + 1 = iz 2 from rfl]
  obtain ⟨v6, M6, e6, f6, h6, w6⟩ := mNmb ht c5.2.1 (lo := 0) (hi := W 2 - 1) (by omega) (by omega) (by omega) (by omega)
  obtain ⟨N6, u6, c6⟩ := mQs s0 s1 (j := 0 + 1 + 1 + 1) (by omega) (by omega) c5 f6 h6 (fun q => gp_num q) (fun q => (w6 q).1)
  have S6 := c6.s
  rw [F_Md_readSource_L64, if_neg (by decide), fR_eq (kd_70 S5) (rr_70_13 S5), fR_eq (kd_70 S5) (rr_70_8 S5), aI_eq (kd_74 S5) (ln_74 S5) (by omega) (by omega) (by omega), wd N5 2 c5.1 (by omega) (by omega), cv_eq (kd_70 S5), show iz (W 2) - 1 = iz (W 2 - 1) from iz_sub _ 1, show F_Md_number 70 0 (iz (W 2 - 1)) N5 = _ from e6, bI_eq, show iz (9 * s) + 1 + iz 2 = iz (9 * s + (0 + 1 + 1 + 1)) from (congrArg (· + iz 2) (iz_add (9 * s) 1)).trans ((iz_add _ 2).trans (congrArg iz (by omega))), u6, nm_eq, show iz 2 + 1 = iz 3 from rfl]
  obtain ⟨M7, e7, f7, h7⟩ := mNeed ht c6.2.1 (k' := 35) (k := 15) (by omega) rfl
  have S7 := h7.x.1
  have c7 := c6.mv f7 h7 (fun q => gp_N q)
  obtain ⟨v8, M8, e8, f8, h8, w8⟩ := mNmb ht h7 (lo := 0) (hi := 9999) (by omega) (by omega) (by omega) (by omega)
  obtain ⟨N8, u8, c8⟩ := mQs s0 s1 (j := 0 + 1 + 1 + 1 + 1) (by omega) (by omega) c7 f8 h8 (fun q => gp_num q) (fun q => (w8 q).1)
  have S8 := c8.s
  rw [F_Md_readSource_L64, if_pos (by decide), cv_eq (kd_70 S6), show F_Md_passes 70 135 N6 = _ from e7, bV_eq, fR_eq (kd_70 S7) (rr_70_13 S7), cv_eq (kd_70 S7), show F_Md_number 70 0 9999 M7 = _ from e8, bI_eq, show iz (9 * s) + 4 = iz (9 * s + (0 + 1 + 1 + 1 + 1)) from iz_add _ 4, u8, cv_eq (kd_70 S8)]
  obtain ⟨M9, e9, f9, h9⟩ := mNeed ht c8.2.1 (k' := 36) (k := 16) (by omega) rfl
  have S9 := h9.x.1
  have c9 := c8.mv f9 h9 (fun q => gp_N q)
  obtain ⟨va, Ma, ea, fa, ha, wa⟩ := mNmb ht h9 (lo := 1) (hi := 99) (by omega) (by omega) (by omega) (by omega)
  obtain ⟨Na, ua, ca⟩ := mQs s0 s1 (j := 0 + 1 + 1 + 1 + 1 + 1) (by omega) (by omega) c9 fa ha (fun q => gp_num q) (fun q => (wa q).1)
  have Sa := ca.s
  rw [show F_Md_passes 70 136 N8 = _ from e9, bV_eq, fR_eq (kd_70 S9) (rr_70_13 S9), cv_eq (kd_70 S9), show F_Md_number 70 1 99 M9 = _ from ea, bI_eq, show iz (9 * s) + 5 = iz (9 * s + (0 + 1 + 1 + 1 + 1 + 1)) from iz_add _ 5, ua, fR_eq (kd_70 Sa) (rr_70_13 Sa)]
  obtain ⟨vb, Mb, eb, fb2, hb, wb⟩ := mBeh ht ca.2.1 (k' := 37) (k := 17) (by omega) rfl (lo := 1) (hi := 5) (d := 1) (by omega) (by omega) (by omega) (by omega)
  obtain ⟨Nb, ub, cb⟩ := mQs s0 s1 (j := 0 + 1 + 1 + 1 + 1 + 1 + 1) (by omega) (by omega) ca fb2 hb (fun q => gp_B q) (fun q => wb q)
  have Sb := cb.s
  have tb := eb (fun v M => F_Md_readSource_L168 70 (iz (9 * s)) 76 (iz (9 * s) + 6) v M)
  rw [show (cv Na 70 13 (bI (F_Md_takes 70 137 Na) (fun r16 M15 => if r16 = 0 then F_Md_readSource_L168 70 (iz (9 * s)) 76 (iz (9 * s) + 6) 1 M15 else cv M15 70 13 (bI (F_Md_number 70 1 5 M15) (fun r65 M64 => F_Md_readSource_L168 70 (iz (9 * s)) 76 (iz (9 * s) + 6) r65 M64)))) : am_R) = _ from tb]
  unfold F_Md_readSource_L168
  rw [show iz (9 * s) + 6 = iz (9 * s + (0 + 1 + 1 + 1 + 1 + 1 + 1)) from iz_add _ 6, ub, fR_eq (kd_70 Sb) (rr_70_13 Sb)]
  obtain ⟨vc, Mc, ec, fc, hc, wc⟩ := mBeh ht cb.2.1 (k' := 38) (k := 18) (by omega) rfl (lo := 0) (hi := 9999) (d := 9999) (by omega) (by omega) (by omega) (by omega)
  obtain ⟨Nc, uc, cc⟩ := mQs s0 s1 (j := 0 + 1 + 1 + 1 + 1 + 1 + 1 + 1) (by omega) (by omega) cb fc hc (fun q => gp_B q) (fun q => wc q)
  have Sc := cc.s
  have tc := ec (fun v M => F_Md_readSource_L200 70 (iz (9 * s)) 76 (iz (9 * s) + 7) v M)
  rw [show (cv Nb 70 13 (bI (F_Md_takes 70 138 Nb) (fun r16 M15 => if r16 = 0 then F_Md_readSource_L200 70 (iz (9 * s)) 76 (iz (9 * s) + 7) 9999 M15 else cv M15 70 13 (bI (F_Md_number 70 0 9999 M15) (fun r65 M64 => F_Md_readSource_L200 70 (iz (9 * s)) 76 (iz (9 * s) + 7) r65 M64)))) : am_R) = _ from tc]
  unfold F_Md_readSource_L200
  rw [show iz (9 * s) + 7 = iz (9 * s + (0 + 1 + 1 + 1 + 1 + 1 + 1 + 1)) from iz_add _ 7, uc, fR_eq (kd_70 Sc) (rr_70_13 Sc)]
  obtain ⟨vd, Md, ed, fd, hd, wd2⟩ := mBeh ht cc.2.1 (k' := 39) (k := 19) (by omega) rfl (lo := 0) (hi := 20) (d := 0) (by omega) (by omega) (by omega) (by omega)
  obtain ⟨Nd, ud, cd⟩ := mQs s0 s1 (j := 0 + 1 + 1 + 1 + 1 + 1 + 1 + 1 + 1) (by omega) (by omega) cc fd hd (fun q => gp_B q) (fun q => wd2 q)
  have Sd := cd.s
  have xd : rI Nd 70 12 = iz s := by rw [cd.1.ri (fun q => by unfold BQ BM at q; omega)]; exact hs
  have td := ed (fun v M => tI M 76 (iz (9 * s) + 8) v (fun M36 => fI M36 70 13 12 (fun x37 => sI M36 70 13 12 (x37 + 1) (fun M38 => some (none, M38)))))
  rw [show (cv Nc 70 13 (bI (F_Md_takes 70 139 Nc) (fun r35 M34 => if r35 = 0 then tI M34 76 (iz (9 * s) + 8) 0 (fun M36 => fI M36 70 13 12 (fun x37 => sI M36 70 13 12 (x37 + 1) (fun M38 => some (none, M38)))) else cv M34 70 13 (bI (F_Md_number 70 0 20 M34) (fun r40 M39 => tI M39 76 (iz (9 * s) + 8) r40 (fun M41 => fI M41 70 13 12 (fun x42 => sI M41 70 13 12 (x42 + 1) (fun M43 => some (none, M43)))))))) : am_R) = _ from td]
  rw [show iz (9 * s) + 8 = iz (9 * s + (0 + 1 + 1 + 1 + 1 + 1 + 1 + 1 + 1)) from iz_add _ 8, ud, fI_eq (kd_70 Sd), xd, sI_eq (kd_70 Sd), show iz s + 1 = iz (s + 1) from iz_add _ 1]
  have fx : Fr (fun b j => BQ s b j ∨ (b = 70 ∧ j = 12)) Nd (wI Nd 70 12 (iz (s + 1))) := Fr.wI (Or.inr ⟨rfl, rfl⟩)
  refine ⟨_, rfl, (cd.1.mono (fun b j q => Or.inl q)).trans fx, cd.2.1.f (Fr.wI (A := fun b j => b = 70 ∧ j = 12) ⟨rfl, rfl⟩) (fun b j q => by omega), fun q i i1 i2 => ?_, by rw [rI_at rfl rfl]⟩
  rw [rI_ne (by omega)]
  exact cd.2.2 q i i1 (by omega)
end SrcM
