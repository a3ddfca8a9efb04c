/-! ===== reading a kind: the reference ===== -/
section KindM
variable {T : Nat → Int} {n : Nat} {M : am_M} {o : Lo}
def BK (k : Int) (b j : Nat) : Prop := BM b j ∨ (b = 75 ∧ k * 8 ≤ (j : Int) ∧ (j : Int) < k * 8 + 8)
def RkM (T : Nat → Int) (n : Nat) (M0 M : am_M) (k j : Int) (o : Lo) (fn : Int → Int) : Prop := Fr (BK k) M0 M ∧ MSt T n M o ∧ (gd o = true → ∀ i, 0 ≤ i → i < j → rI M 75 (8 * k + i).toNat = iz (fn i))
theorem RkM.s {M0 : am_M} {k j : Int} {fn : Int → Int} (h : RkM T n M0 M k j o fn) : SH M := h.2.1.x.1
theorem RkM.mv {M0 M1 : am_M} {k j : Int} {o' : Lo} {fn : Int → Int} (h : RkM T n M0 M k j o fn) (f1 : Fr BM M M1) (h1 : MSt T n M1 o') (g : gd o' = true → gd o = true) : RkM T n M0 M1 k j o' fn :=
  ⟨h.1.trans (f1.mono (fun b j q => Or.inl q)), h1, fun q i i1 i2 => by rw [f1.ri (fun q => by unfold BM at q; omega)]; exact h.2.2 (g q) i i1 i2⟩
theorem mKs {M0 M1 : am_M} {k j : Int} {o' : Lo} {fn : Int → Int} {v : Int32} (k0 : 0 ≤ k) (k1 : k < 5) (j0 : 0 ≤ j) (j1 : j < 8) (h : RkM T n M0 M k j o fn) (f1 : Fr BM M M1) (h1 : MSt T n M1 o') (g : gd o' = true → gd o = true) (hv : gd o' = true → v = iz (fn j)) : ∃ M2, (∀ X : am_M → am_R, tI M1 75 (iz (8 * k + j)) v X = X M2) ∧ RkM T n M0 M2 k (j + 1) o' fn := by
  have h2 := h.mv f1 h1 g
  have S1 := h1.x.1
  have fr : Fr (BK k) M1 (wI M1 75 (8 * k + j).toNat v) := Fr.wI (Or.inr ⟨rfl, by omega, by omega⟩)
  refine ⟨wI M1 75 (8 * k + j).toNat v, fun X => tI_eq (kd_75 S1) (ln_75 S1) (by omega) (by omega) (by omega), h2.1.trans fr, h1.f (Fr.wI (A := fun b _ => b = 75) rfl) (fun b j q => by omega), fun q i i1 i2 => ?_⟩
  by_cases e : i = j
  · rw [e, rI_at rfl rfl]; exact hv q
  · rw [rI_ne (by omega)]; exact h2.2.2 q i i1 (by omega)
theorem mBeh (ht : TxO T n) (h : MSt T n M o) {k' k : Nat} (hk : k' < 40) (e : am_stx.getD k' [] = am_stx.getD k []) {lo hi d : Int} (l0 : -1000 ≤ lo) (l1 : lo ≤ 1000000) (u0 : -1000 ≤ hi) (u1 : hi ≤ 1000000) : ∃ v M', (∀ X : Int32 → am_M → am_R, cv M 70 13 (bI (F_Md_takes 70 (100 + k') M) (fun r M1 => if r = 0 then X (iz d) M1 else cv M1 70 13 (bI (F_Md_number 70 (iz lo) (iz hi) M1) (fun r2 M2 => X r2 M2)))) = X v M') ∧ Fr BM M M' ∧ MSt T n M' (oB T n k lo hi o) ∧ (gd (oB T n k lo hi o) = true → v = iz (oBv T n k d o)) := by
  obtain ⟨M1, e1, f1, h1⟩ := mTake ht h hk e
  unfold oB oBv
  by_cases g : oW T n k o = true
  · obtain ⟨v, M2, e2, f2, h2, v2⟩ := mNmb ht h1 l0 l1 u0 u1
    rw [if_pos g, if_pos g]
    exact ⟨v, M2, fun X => by rw [cv_eq (kd_70 h.x.1), e1, bI_eq, bz_if0, if_pos g, cv_eq (kd_70 h1.x.1), e2, bI_eq], f1.trans f2, h2, fun q => (v2 q).1⟩
  · rw [if_neg g, if_neg g]
    exact ⟨iz d, M1, fun X => by rw [cv_eq (kd_70 h.x.1), e1, bI_eq, bz_if0, if_neg g], f1, h1, fun _ => rfl⟩
theorem mFls (ht : TxO T n) (h1 : MSt T n M o) : ∃ v M', F_Md_falls 70 M = some (some (.int v), M') ∧ Fr BM M M' ∧ MSt T n M' (oNum T n 0 9 (oM T n o)) ∧ (gd (oNum T n 0 9 (oM T n o)) = true → v = iz (if oMi T n o = true then - oV T n (oM T n o) else oV T n (oM T n o))) := by
  have hS := h1.x.1
  have plain : ∀ (hm : ¬ oMi T n o = true), ∃ v M', F_Md_falls_L28 70 M = some (some (.int v), M') ∧ Fr BM M M' ∧ MSt T n M' (oNum T n 0 9 (oM T n o)) ∧ (gd (oNum T n 0 9 (oM T n o)) = true → v = iz (if oMi T n o = true then - oV T n (oM T n o) else oV T n (oM T n o))) := fun hm => by
    have em : oM T n o = o := if_neg hm
    rw [em, if_neg hm]
    obtain ⟨v, M2, e2, f2, h2, v2⟩ := mNmb ht h1 (lo := 0) (hi := 9) (by omega) (by omega) (by omega) (by omega)
    unfold F_Md_falls_L28 F_Md_falls_L29 F_Md_falls_L38
    rw [if_pos rfl, cv_eq (kd_70 hS), show F_Md_number 70 0 9 M = _ from e2, bI_eq, if_pos rfl]
    exact ⟨v, M2, rfl, f2, h2, fun q => (v2 q).1⟩
  unfold F_Md_falls
  rw [cv_eq (kd_70 hS), mGd h1, bI_eq, bz_if0]
  rcases o with ⟨f, p⟩ | s
  · rw [if_neg (fun q => by cases q)]
    exact plain (fun q => by cases q)
  · obtain ⟨a1, a2, a3, a4, a5⟩ := id h1
    have tb := tk_bd (T := T) (n := n) s
    rw [if_pos (gd_r s), fI_eq (kd_70 hS), a5.1, show (3 : Int32) = iz 3 from rfl, ifQ (by omega) (by omega) (by omega) (by omega)]
    by_cases g1 : tk T n s = 3
    · have hs : s < n := by
        by_cases q : s < n
        · exact q
        · rw [show tk T n s = 0 from if_neg q] at g1; omega
      have t := ht.2 s hs
      rw [if_pos g1, fI_eq (kd_70 hS), a5.2.2.2.2 g1, show (45 : Int32) = iz 45 from rfl, ifQ (by omega) (by omega) (by omega) (by omega)]
      by_cases g2 : T s = 45
      · have hm : oMi T n (.inr s) = true := decide_eq_true ⟨g1, g2⟩
        have em : oM T n (.inr s) = oA T n (.inr s) := if_pos hm
        rw [em, if_pos g2, if_pos hm]
        obtain ⟨M2, e2, f2, h2⟩ := mGo ht h1 rfl
        obtain ⟨v, M3, e3, f3, h3, v3⟩ := mNmb ht h2 (lo := 0) (hi := 9) (by omega) (by omega) (by omega) (by omega)
        unfold F_Md_falls_L29 F_Md_falls_L38
        rw [if_neg (by decide), cv_eq (kd_70 hS), e2, bV_eq, cv_eq (kd_70 h2.x.1), show F_Md_number 70 0 9 M2 = _ from e3, bI_eq, if_neg (by decide)]
        exact ⟨-v, M3, rfl, f2.trans f3, h3, fun q => by rw [(v3 q).1, iz_neg]⟩
      · rw [if_neg g2]
        exact plain (fun q => g2 (of_decide_eq_true q).2)
    · rw [if_neg g1]
      exact plain (fun q => g1 (of_decide_eq_true q).1)
/-- the falls with their word -/
theorem mFlw (ht : TxO T n) (h : MSt T n M o) : ∃ v M', (∀ X : Int32 → am_M → am_R, cv M 70 13 (bI (F_Md_takes 70 126 M) (fun r M1 => if r = 0 then X 0 M1 else cv M1 70 13 (bI (F_Md_falls 70 M1) (fun r2 M2 => X r2 M2)))) = X v M') ∧ Fr BM M M' ∧ MSt T n M' (oF T n o) ∧ (gd (oF T n o) = true → v = iz (oFv T n o)) := by
  obtain ⟨M1, e1, f1, h1⟩ := mTake ht h (k' := 26) (k := 6) (by omega) rfl
  have e1' : F_Md_takes 70 126 M = _ := e1
  unfold oF oFv
  by_cases g : oW T n 6 o = true
  · obtain ⟨v, M2, e2, f2, h2, v2⟩ := mFls ht h1
    rw [if_pos g, if_pos g]
    exact ⟨v, M2, fun X => by rw [cv_eq (kd_70 h.x.1), e1', bI_eq, bz_if0, if_pos g, cv_eq (kd_70 h1.x.1), e2, bI_eq], f1.trans f2, h2, v2⟩
  · rw [if_neg g, if_neg g]
    exact ⟨iz 0, M1, fun X => by rw [cv_eq (kd_70 h.x.1), e1', bI_eq, bz_if0, if_neg g]; rfl, f1, h1, fun _ => rfl⟩
theorem wrp_no (h : oW T n 10 o = true) : ¬ oW T n 8 o = true ∧ ¬ oW T n 9 o = true := by
  rcases o with q | s
  · cases h
  · obtain ⟨h1, h2, h3⟩ := of_decide_eq_true h
    refine ⟨fun q => ?_, fun q => ?_⟩
    · obtain ⟨-, q2, -⟩ := of_decide_eq_true q
      rw [show am_sl 8 = 6 from rfl] at q2
      rw [show am_sl 10 = 4 from rfl] at h2
      omega
    · obtain ⟨-, -, q3⟩ := of_decide_eq_true q
      have a := h3 0 (by decide)
      have b := q3 0 (by decide)
      rw [a] at b
      exact absurd b (by decide)
theorem mEdg (ht : TxO T n) (h : MSt T n M o) : ∃ M', (∀ X : Int32 → am_M → am_R, cv M 70 13 (bI (F_Md_takes 70 128 M) (fun r32 M31 => if r32 = 0 then (cv M31 70 13 ( bI (F_Md_takes 70 129 M31) (fun r34 M33 => if r34 = 0 then (cv M33 70 13 ( bI (F_Md_takes 70 130 M33) (fun r36 M35 => if r36 = 0 then X 0 M35 else X 2 M35))) else X 1 M33))) else X 0 M31)) = X (iz (oEv T n o)) M') ∧ Fr BM M M' ∧ MSt T n M' (oE T n o) := by
  obtain ⟨M1, e1, f1, h1⟩ := mTake ht h (k' := 28) (k := 10) (by omega) rfl
  have e1' : F_Md_takes 70 128 M = _ := e1
  unfold oE oEv
  by_cases g : oW T n 10 o = true
  · have hn := wrp_no g
    rw [if_neg hn.1, if_neg hn.2, if_neg hn.1, if_neg hn.2]
    exact ⟨M1, fun X => by rw [cv_eq (kd_70 h.x.1), e1', bI_eq, bz_if0, if_pos g]; rfl, f1, h1⟩
  have eT : oT T n 10 o = o := if_neg g
  rw [eT] at h1 ⊢
  obtain ⟨M2, e2, f2, h2⟩ := mTake ht h1 (k' := 29) (k := 8) (by omega) rfl
  have e2' : F_Md_takes 70 129 M1 = _ := e2
  unfold oT at h2
  by_cases g2 : oW T n 8 o = true
  · rw [if_pos g2] at h2
    rw [if_pos g2, if_pos g2]
    exact ⟨M2, fun X => by rw [cv_eq (kd_70 h.x.1), e1', bI_eq, bz_if0, if_neg g, cv_eq (kd_70 h1.x.1), e2', bI_eq, bz_if0, if_pos g2]; rfl, f1.trans f2, h2⟩
  rw [if_neg g2] at h2
  rw [if_neg g2, if_neg g2]
  obtain ⟨M3, e3, f3, h3⟩ := mTake ht h2 (k' := 30) (k := 9) (by omega) rfl
  have e3' : F_Md_takes 70 130 M2 = _ := e3
  unfold oT at h3
  by_cases g3 : oW T n 9 o = true
  · rw [if_pos g3] at h3
    rw [if_pos g3, if_pos g3]
    exact ⟨M3, fun X => by rw [cv_eq (kd_70 h.x.1), e1', bI_eq, bz_if0, if_neg g, cv_eq (kd_70 h1.x.1), e2', bI_eq, bz_if0, if_neg g2, cv_eq (kd_70 h2.x.1), e3', bI_eq, bz_if0, if_pos g3]; rfl, f1.trans (f2.trans f3), h3⟩
  · rw [if_neg g3] at h3
    rw [if_neg g3, if_neg g3]
    exact ⟨M3, fun X => by rw [cv_eq (kd_70 h.x.1), e1', bI_eq, bz_if0, if_neg g, cv_eq (kd_70 h1.x.1), e2', bI_eq, bz_if0, if_neg g2, cv_eq (kd_70 h2.x.1), e3', bI_eq, bz_if0, if_neg g3]; rfl, f1.trans (f2.trans f3), h3⟩
theorem mKnd (ht : TxO T n) (h : MSt T n M o) (g : gd o = true) {k : Int} (k0 : 0 ≤ k) (k1 : k < 5) (hk : rI M 70 10 = iz k) : ∃ M', F_Md_readKind 70 M = some (none, M') ∧ Fr (fun b j => BK k b j ∨ (b = 70 ∧ j = 10)) M M' ∧ MSt T n M' (kO T n k o) ∧ (gd (kO T n k o) = true → ∀ i, 0 ≤ i → i < 8 → rI M' 75 (8 * k + i).toNat = iz (kF T n o i)) ∧ rI M' 70 10 = iz (k + 1) := by
  have hS := h.x.1
  unfold F_Md_readKind
  rw [fI_eq (kd_70 hS), hk, show (5 : Int32) = iz 5 from rfl, ifQ (by omega) (by omega) (by omega) (by omega), if_neg (by omega)]
  unfold F_Md_readKind_L17
  rw [cv_eq (kd_70 hS), mGd h, bI_eq, bz_if0, if_pos g, cv_eq (kd_70 hS)]
  obtain ⟨M1, e1, f1, h1⟩ := mGo ht h g
  have x1 : rI M1 70 10 = iz k := by rw [f1.ri (fun q => by unfold BM at q; omega)]; exact hk
  obtain ⟨M2, e2, f2, h2⟩ := mNeed ht h1 (k' := 23) (k := 3) (by omega) rfl
  have S2 := h2.x.1
  have c2 : RkM T n M M2 k 0 (k2 T n o) (kF T n o) := ⟨(f1.trans f2).mono (fun b j q => Or.inl q), h2, fun _ i i1 i2 => by omega⟩
  rw [e1, bV_eq, fI_eq (kd_70 h1.x.1), x1, nm_eq, cv_eq (kd_70 h1.x.1), show F_Md_passes 70 123 M1 = _ from e2, bV_eq, fR_eq (kd_70 S2) (rr_70_11 S2), cv_eq (kd_70 S2), show (8 : Int32) = iz 8 from rfl, iz_mul]
  obtain ⟨v3, M3, e3, f3, h3, w3⟩ := mNmb ht c2.2.1 (lo := 1) (hi := 40) (by omega) (by omega) (by omega) (by omega)
  obtain ⟨N3, u3, c3⟩ := mKs k0 k1 (j := 0) (by omega) (by omega) c2 f3 h3 (fun q => gp_num q) (fun q => (w3 q).1)
  have S3 := c3.s
  rw [show F_Md_number 70 1 40 M2 = _ from e3, bI_eq, show iz (8 * k) + 0 = iz (8 * k + 0) from iz_add _ 0, u3, fR_eq (kd_70 S3) (rr_70_11 S3)]
  obtain ⟨v4, M4, e4, f4, h4, w4⟩ := mBeh ht c3.2.1 (k' := 24) (k := 4) (by omega) rfl (lo := 0) (hi := 20) (d := 0) (by omega) (by omega) (by omega) (by omega)
  obtain ⟨N4, u4, c4⟩ := mKs k0 k1 (j := 0 + 1) (by omega) (by omega) c3 f4 h4 (fun q => gp_B q) (fun q => w4 q)
  have S4 := c4.s
  have t4 := e4 (fun v M => F_Md_readKind_L85 70 (iz (8 * k)) 75 (iz (8 * k) + 1) v M)
  rw [show (cv N3 70 13 (bI (F_Md_takes 70 124 N3) (fun r16 M15 => if r16 = 0 then F_Md_readKind_L85 70 (iz (8 * k)) 75 (iz (8 * k) + 1) 0 M15 else cv M15 70 13 (bI (F_Md_number 70 0 20 M15) (fun r65 M64 => F_Md_readKind_L85 70 (iz (8 * k)) 75 (iz (8 * k) + 1) r65 M64)))) : am_R) = _ from t4]
  unfold F_Md_readKind_L85
  rw [show iz (8 * k) + 1 = iz (8 * k + (0 + 1)) from iz_add _ 1, u4, fR_eq (kd_70 S4) (rr_70_11 S4)]
  obtain ⟨v5, M5, e5, f5, h5, w5⟩ := mBeh ht c4.2.1 (k' := 25) (k := 5) (by omega) rfl (lo := 0) (hi := 20) (d := 0) (by omega) (by omega) (by omega) (by omega)
  obtain ⟨N5, u5, c5⟩ := mKs k0 k1 (j := 0 + 1 + 1) (by omega) (by omega) c4 f5 h5 (fun q => gp_B q) (fun q => w5 q)
  have S5 := c5.s
  have t5 := e5 (fun v M => F_Md_readKind_L113 70 (iz (8 * k)) 75 (iz (8 * k) + 2) v M)
  rw [show (cv N4 70 13 (bI (F_Md_takes 70 125 N4) (fun r16 M15 => if r16 = 0 then F_Md_readKind_L113 70 (iz (8 * k)) 75 (iz (8 * k) + 2) 0 M15 else cv M15 70 13 (bI (F_Md_number 70 0 20 M15) (fun r65 M64 => F_Md_readKind_L113 70 (iz (8 * k)) 75 (iz (8 * k) + 2) r65 M64)))) : am_R) = _ from t5]
  unfold F_Md_readKind_L113
  rw [show iz (8 * k) + 2 = iz (8 * k + (0 + 1 + 1)) from iz_add _ 2, u5, fR_eq (kd_70 S5) (rr_70_11 S5)]
  obtain ⟨v6, M6, e6, f6, h6, w6⟩ := mFlw ht c5.2.1
  obtain ⟨N6, u6, c6⟩ := mKs k0 k1 (j := 0 + 1 + 1 + 1) (by omega) (by omega) c5 f6 h6 (fun q => gp_F q) (fun q => w6 q)
  have S6 := c6.s
  rw [e6 (fun v M => F_Md_readKind_L138 70 (iz (8 * k)) 75 (iz (8 * k) + 3) v M)]
  unfold F_Md_readKind_L138
  rw [show iz (8 * k) + 3 = iz (8 * k + (0 + 1 + 1 + 1)) from iz_add _ 3, u6, fR_eq (kd_70 S6) (rr_70_11 S6)]
  obtain ⟨v7, M7, e7, f7, h7, w7⟩ := mBeh ht c6.2.1 (k' := 27) (k := 7) (by omega) rfl (lo := 1) (hi := 9) (d := 1) (by omega) (by omega) (by omega) (by omega)
  obtain ⟨N7, u7, c7⟩ := mKs k0 k1 (j := 0 + 1 + 1 + 1 + 1) (by omega) (by omega) c6 f7 h7 (fun q => gp_B q) (fun q => w7 q)
  have S7 := c7.s
  have t7 := e7 (fun v M => F_Md_readKind_L166 70 (iz (8 * k)) 75 (iz (8 * k) + 4) v M)
  rw [show (cv N6 70 13 (bI (F_Md_takes 70 127 N6) (fun r16 M15 => if r16 = 0 then F_Md_readKind_L166 70 (iz (8 * k)) 75 (iz (8 * k) + 4) 1 M15 else cv M15 70 13 (bI (F_Md_number 70 1 9 M15) (fun r65 M64 => F_Md_readKind_L166 70 (iz (8 * k)) 75 (iz (8 * k) + 4) r65 M64)))) : am_R) = _ from t7]
  unfold F_Md_readKind_L166
  rw [show iz (8 * k) + 4 = iz (8 * k + (0 + 1 + 1 + 1 + 1)) from iz_add _ 4, u7, fR_eq (kd_70 S7) (rr_70_11 S7)]
  obtain ⟨M8, e8, f8, h8⟩ := mEdg ht c7.2.1
  obtain ⟨N8, u8, c8⟩ := mKs k0 k1 (j := 0 + 1 + 1 + 1 + 1 + 1) (by omega) (by omega) c7 f8 h8 (fun q => gp_E q) (v := iz (oEv T n (k7 T n o))) (fun q => rfl)
  have S8 := c8.s
  rw [e8 (fun v M => F_Md_readKind_L214 70 (iz (8 * k)) 75 (iz (8 * k) + 5) v M)]
  unfold F_Md_readKind_L214
  rw [show iz (8 * k) + 5 = iz (8 * k + (0 + 1 + 1 + 1 + 1 + 1)) from iz_add _ 5]
  rw [show (tI M8 75 (iz (8 * k + (0 + 1 + 1 + 1 + 1 + 1))) (iz (oEv T n (oB T n 7 1 9 (oF T n (oB T n 5 0 20 (oB T n 4 0 20 (oNum T n 1 40 (k2 T n o)))))))) _ : am_R) = _ from u8 _, fR_eq (kd_70 S8) (rr_70_11 S8), show iz (8 * k) + 6 = iz (8 * k + 6) from iz_add _ 6, show iz (8 * k) + 7 = iz (8 * k + 7) from iz_add _ 7, tI_eq (kd_75 S8) (ln_75 S8) (by omega) (by omega) (by omega), fR_eq (kd_70 S8.wI) (rr_70_11 S8.wI), tI_eq (kd_75 S8.wI) (ln_75 S8.wI) (by omega) (by omega) (by omega), cv_eq (kd_70 S8.wI.wI)]
  have fr : Fr (BK k) N8 (wI (wI N8 75 (8 * k + 6).toNat 0) 75 (8 * k + 7).toNat (-1)) := (Fr.wI (Or.inr ⟨rfl, by omega, by omega⟩)).trans (Fr.wI (Or.inr ⟨rfl, by omega, by omega⟩))
  have cX : RkM T n M (wI (wI N8 75 (8 * k + 6).toNat 0) 75 (8 * k + 7).toNat (-1)) k 6 (k8 T n o) (kF T n o) := ⟨c8.1.trans fr, c8.2.1.f ((Fr.wI (A := fun b _ => b = 75) rfl).trans (Fr.wI rfl)) (fun b j q => by omega), fun q i i1 i2 => by rw [rI_ne (by omega), rI_ne (by omega)]; exact c8.2.2 q i i1 (by omega)⟩
  have z6 : rI (wI (wI N8 75 (8 * k + 6).toNat 0) 75 (8 * k + 7).toNat (-1)) 75 (8 * k + 6).toNat = iz 0 := by rw [rI_ne (by omega), rI_at rfl rfl]; rfl
  have z7 : rI (wI (wI N8 75 (8 * k + 6).toNat 0) 75 (8 * k + 7).toNat (-1)) 75 (8 * k + 7).toNat = iz (-1) := by rw [rI_at rfl rfl]; rfl
  generalize wI (wI N8 75 (8 * k + 6).toNat 0) 75 (8 * k + 7).toNat (-1) = X at cX z6 z7 ⊢
  obtain ⟨M9, e9, f9, h9⟩ := mTake ht cX.2.1 (k' := 31) (k := 11) (by omega) rfl
  have S9 := h9.x.1
  rw [show F_Md_takes 70 131 X = _ from e9, bI_eq, bz_if0]
  by_cases gw : oW T n 11 (k8 T n o) = true
  rotate_left
  · have eT : oT T n 11 (k8 T n o) = k8 T n o := if_neg gw
    have e9o : k9 T n o = k8 T n o := by unfold k9 oB; rw [if_neg gw, eT]
    have eO : kO T n k o = k8 T n o := by unfold kO; rw [if_neg gw, e9o]
    rw [eT] at h9
    have c9 := cX.mv f9 h9 (fun q => q)
    have y : rI M9 70 10 = iz k := by rw [c9.1.ri (fun q => by unfold BK BM at q; omega)]; exact hk
    rw [if_neg gw, fI_eq (kd_70 S9), y, sI_eq (kd_70 S9), show iz k + 1 = iz (k + 1) from iz_add _ 1, eO]
    have fx : Fr (fun b j => BK k b j ∨ (b = 70 ∧ j = 10)) M9 (wI M9 70 10 (iz (k + 1))) := Fr.wI (Or.inr ⟨rfl, rfl⟩)
    refine ⟨_, rfl, (c9.1.mono (fun b j q => Or.inl q)).trans fx, h9.f (Fr.wI (A := fun b j => b = 70 ∧ j = 10) ⟨rfl, rfl⟩) (fun b j q => by omega), fun q i i1 i2 => ?_, by rw [rI_at rfl rfl]⟩
    rw [rI_ne (by omega)]
    by_cases i6 : i < 6
    · exact c9.2.2 q i i1 i6
    · rw [f9.ri (fun q => by unfold BM at q; omega)]
      by_cases e6 : i = 6
      · rw [e6, z6, show kF T n o 6 = oBv T n 11 0 (k8 T n o) from rfl]; unfold oBv; rw [if_neg gw]
      · rw [show i = 7 by omega, z7, show kF T n o 7 = if oW T n 11 (k8 T n o) then oV T n (oN T n 12 (k9 T n o)) else -1 from rfl, if_neg gw]
  have c9 := cX.mv f9 h9 (fun q => by unfold oT at q; rw [if_pos gw] at q; exact oW_gd gw)
  obtain ⟨va, Ma, ea, fa, ha, wa⟩ := mNmb ht h9 (lo := 1) (hi := 2) (by omega) (by omega) (by omega) (by omega)
  have e9o : k9 T n o = oNum T n 1 2 (oT T n 11 (k8 T n o)) := by unfold k9 oB; rw [if_pos gw]
  rw [← e9o] at ha wa
  obtain ⟨Na, ua, ca⟩ := mKs k0 k1 (j := 6) (v := va) (by omega) (by omega) c9 fa ha (fun q => by rw [e9o] at q; exact gp_num q) (fun q => by
    rw [(wa q).1, show kF T n o 6 = oBv T n 11 0 (k8 T n o) from rfl]; unfold oBv; rw [if_pos gw])
  have Sa := ca.s
  obtain ⟨Mb, eb, fb2, hb⟩ := mNeed ht ca.2.1 (k' := 32) (k := 12) (by omega) rfl
  have Sb := hb.x.1
  have cb := ca.mv fb2 hb (fun q => gp_N q)
  have xb : rI Mb 70 10 = iz k := by rw [cb.1.ri (fun q => by unfold BK BM at q; omega)]; exact hk
  obtain ⟨vc, Mc, ec, fc, hc, wc⟩ := mNmb ht hb (lo := 0) (hi := k - 1) (by omega) (by omega) (by omega) (by omega)
  have eO : kO T n k o = oNum T n 0 (k - 1) (oN T n 12 (k9 T n o)) := if_pos gw
  obtain ⟨Nc, uc, cc⟩ := mKs k0 k1 (j := 6 + 1) (v := vc) (by omega) (by omega) cb fc hc (fun q => gp_num q) (fun q => by
    rw [(wc q).1, show kF T n o (6 + 1) = if oW T n 11 (k8 T n o) then oV T n (oN T n 12 (k9 T n o)) else -1 from rfl, if_pos gw])
  have Sc := cc.s
  have xc : rI Nc 70 10 = iz k := by rw [cc.1.ri (fun q => by unfold BK BM at q; omega)]; exact hk
  rw [if_pos gw, fR_eq (kd_70 S9) (rr_70_11 S9), cv_eq (kd_70 S9), show F_Md_number 70 1 2 M9 = _ from ea, bI_eq, ua, cv_eq (kd_70 Sa), show F_Md_passes 70 132 Na = _ from eb, bV_eq, fR_eq (kd_70 Sb) (rr_70_11 Sb), fI_eq (kd_70 Sb), xb, cv_eq (kd_70 Sb), show iz k - 1 = iz (k - 1) from iz_sub _ 1, show F_Md_number 70 0 (iz (k - 1)) Mb = _ from ec, bI_eq, show iz (8 * k + 7) = iz (8 * k + (6 + 1)) from rfl, uc, fI_eq (kd_70 Sc), xc, sI_eq (kd_70 Sc), show iz k + 1 = iz (k + 1) from iz_add _ 1, eO]
  have fx : Fr (fun b j => BK k b j ∨ (b = 70 ∧ j = 10)) Nc (wI Nc 70 10 (iz (k + 1))) := Fr.wI (Or.inr ⟨rfl, rfl⟩)
  refine ⟨_, rfl, (cc.1.mono (fun b j q => Or.inl q)).trans fx, cc.2.1.f (Fr.wI (A := fun b j => b = 70 ∧ j = 10) ⟨rfl, rfl⟩) (fun b j q => by omega), fun q i i1 i2 => ?_, by rw [rI_at rfl rfl]⟩
  rw [rI_ne (by omega)]
  exact cc.2.2 q i i1 (by omega)
end KindM
