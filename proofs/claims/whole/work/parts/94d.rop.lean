/-! ===== reading: words, numbers, signs ===== -/
def wB (k j : Nat) : Int := (((am_stx.getD k []).getD j 0 : Nat) : Int)
theorem am_sb_eq (k j : Nat) : am_sb k j = iz (wB k j) := by unfold am_sb wB; rw [iz_nI]
set_option maxRecDepth 16384 in
theorem wB_bd : ∀ k, k < 40 → (∀ j, j < am_sl k → 97 ≤ (am_stx.getD k []).getD j 0 ∧ (am_stx.getD k []).getD j 0 ≤ 122) ∧ 1 ≤ am_sl k ∧ am_sl k ≤ 6 := by decide
theorem wB_b2 {k j : Nat} (hk : k < 40) (hj : j < am_sl k) : 97 ≤ wB k j ∧ wB k j ≤ 122 := by
  have := (wB_bd k hk).1 j hj
  unfold wB; omega
set_option maxRecDepth 16384 in
theorem chr_cs : ∀ b : Fin 128, (((iz (b.val : Int) &&& 255).toUInt32 % 65536).toInt32) = iz (b.val : Int) := by decide
theorem chr_eq {x : Int} (h1 : 0 ≤ x) (h2 : x < 128) : (((iz x &&& 255).toUInt32 % 65536).toInt32) = iz x := by
  have := chr_cs ⟨x.toNat, by omega⟩
  have e : ((x.toNat : Nat) : Int) = x := by omega
  rw [← e]; exact this
set_option maxRecDepth 16384 in
theorem nar_cs : ∀ b : Fin 128, narrow .char (.int (iz (b.val : Int))) = .int (iz (b.val : Int)) := by decide
theorem nar_chr {x : Int} (h1 : 0 ≤ x) (h2 : x < 128) : narrow .char (.int (iz x)) = .int (iz x) := by
  have := nar_cs ⟨x.toNat, by omega⟩
  have e : ((x.toNat : Nat) : Int) = x := by omega
  rw [← e]; exact this
section Str
variable {M : am_M}
theorem xV_eq {w : Nat} {r : am_R} (h1 : 100 ≤ w) (h2 : w < 140) : xV w r = r := if_pos ⟨h1, h2⟩
theorem nz_eq {w : Nat} {r : am_R} (h1 : 100 ≤ w) : nz w r = r := if_neg (by omega)
theorem sLen {k : Nat} (hk : k < 40) : F_Str_length (100 + k) M = some (some (.int (iz (am_sl k : Int))), M) := by
  have b := (wB_bd k hk).2
  unfold F_Str_length F_Str_coder
  rw [nz_eq (by omega), xV_eq (by omega) (by omega), xLn, if_pos (by omega), nz_eq (by omega), xV_eq (by omega) (by omega), if_neg (by decide), nz_eq (by omega), xV_eq (by omega) (by omega), bI_eq, show 100 + k + 100 - 200 = k by omega, iz_ofNat, show ((0 : Int32) &&& 31) = 0 by decide, Int32.shiftRight_zero]
theorem sChr {k j : Nat} (hk : k < 40) (hj : j < am_sl k) : F_Str_charAt (100 + k) (iz (j : Int)) M = some (some (.int (iz (wB k j))), M) := by
  have b := (wB_bd k hk).2
  have c := wB_b2 hk hj
  unfold F_Str_charAt F_Str_isLatin1 F_Lat_charAt F_Str_checkIndex F_Prec_checkIndex
  rw [nz_eq (by omega), xV_eq (by omega) (by omega), if_neg (by decide), nz_eq (by omega), xV_eq (by omega) (by omega), if_pos rfl, bI_eq, if_neg (by decide), nz_eq (by omega), xV_eq (by omega) (by omega), nz_eq (by omega), xLn, if_pos (by omega), show 100 + k + 100 - 200 = k by omega, iz_ofNat, show (0 : Int32) = iz 0 from rfl, ifL (by omega) (by omega) (by omega) (by omega), if_neg (by omega), ifL (by omega) (by omega) (by omega) (by omega), if_pos (by omega), bI_eq, bV_eq, nz_eq (by omega), xB, show 100 + k + 100 - 200 = k by omega, if_pos ⟨⟨by omega, by omega⟩, iz_in (by omega) (by omega) (by omega)⟩, iz_clamp (by omega) (by omega), Int.toNat_natCast, am_sb_eq, chr_eq (by omega) (by omega), zR, if_pos (nar_chr (by omega) (by omega)), bI_eq, zR, if_pos (nar_chr (by omega) (by omega))]
end Str
/-- how reading stands: a fault and its place, or where the token is -/
abbrev Lo : Type := (Int × Nat) ⊕ Nat
def gd : Lo → Bool
  | .inl _ => false
  | .inr _ => true
def oFail (f : Int) : Lo → Lo
  | .inl x => .inl x
  | .inr s => .inl (f, s)
section Op
variable (T : Nat → Int) (n : Nat)
abbrev isW (k s : Nat) : Prop := tk T n s = 1 ∧ be T n s = s + am_sl k ∧ ∀ j, j < am_sl k → T (s + j) = wB k j
def oW (k : Nat) : Lo → Bool
  | .inl _ => false
  | .inr s => decide (isW T n k s)
def oA : Lo → Lo
  | .inl x => .inl x
  | .inr s => .inr (nx T n s)
def oT (k : Nat) (o : Lo) : Lo := if oW T n k o then oA T n o else o
def oN (k : Nat) (o : Lo) : Lo := if oW T n k o then oA T n o else oFail 1 o
def oV : Lo → Int
  | .inl _ => 0
  | .inr s => va T n s
def oNum (lo hi : Int) : Lo → Lo
  | .inl x => .inl x
  | .inr s => if tk T n s = 2 then (if lo ≤ va T n s ∧ va T n s ≤ hi then .inr (nx T n s) else .inl (2, s)) else .inl (1, s)
def oSg (c : Int) : Lo → Lo
  | .inl x => .inl x
  | .inr s => if tk T n s = 3 ∧ T s = c then .inr (nx T n s) else .inl (1, s)
def oB (k : Nat) (lo hi : Int) (o : Lo) : Lo := if oW T n k o then oNum T n lo hi (oT T n k o) else oT T n k o
def oBv (k : Nat) (d : Int) (o : Lo) : Int := if oW T n k o then oV T n (oT T n k o) else d
/-- how both stand -/
def CSt (M : am_M) : Lo → Prop
  | .inl (f, p) => RdC T n M ∧ (1 ≤ f ∧ f ≤ 3) ∧ rI M 6 1 = iz f ∧ rI M 6 2 = iz (p : Int)
  | .inr s => RdC T n M ∧ s ≤ n ∧ rI M 6 1 = iz 0 ∧ rI M 6 2 = iz (-1) ∧ RcL T n M s
def MSt (M : am_M) : Lo → Prop
  | .inl (f, p) => RdM T n M ∧ (1 ≤ f ∧ f ≤ 3) ∧ rI M 70 21 = iz f ∧ rI M 70 22 = iz (p : Int)
  | .inr s => RdM T n M ∧ s ≤ n ∧ rI M 70 21 = iz 0 ∧ rI M 70 22 = iz (-1) ∧ RdL T n M s
end Op
def AC6 (b j : Nat) : Prop := b = 6 ∧ (j = 1 ∨ j = 2 ∨ 5 ≤ j)
def BM (b j : Nat) : Prop := b = 70 ∧ 17 ≤ j ∧ j ≤ 22
section Op2
variable {T : Nat → Int} {n : Nat} {M : am_M} {o : Lo}
theorem CSt.x (h : CSt T n M o) : RdC T n M := by
  rcases o with ⟨f, p⟩ | s
  · exact h.1
  · exact h.1
theorem MSt.x (h : MSt T n M o) : RdM T n M := by
  rcases o with ⟨f, p⟩ | s
  · exact h.1
  · exact h.1
theorem CSt.f {A : Nat → Nat → Prop} {M' : am_M} (h : CSt T n M o) (hf : Fr A M M') (hA : ∀ b j, A b j → ¬ b = 6 ∧ b ≠ 1) : CSt T n M' o := by
  have e : ∀ j, rI M' 6 j = rI M 6 j := fun j => hf.ri (fun q => by have := hA _ _ q; omega)
  have x := h.x.fr hf (fun b j q => by have := hA _ _ q; omega)
  rcases o with ⟨f, p⟩ | s
  · exact ⟨x, h.2.1, by rw [e]; exact h.2.2.1, by rw [e]; exact h.2.2.2⟩
  · obtain ⟨-, h2, h3, h4, h5⟩ := h
    refine ⟨x, h2, by rw [e]; exact h3, by rw [e]; exact h4, ?_⟩
    unfold RcL at h5 ⊢
    simp only [e]
    exact h5
theorem MSt.f {A : Nat → Nat → Prop} {M' : am_M} (h : MSt T n M o) (hf : Fr A M M') (hA : ∀ b j, A b j → ¬ (b = 70 ∧ 16 ≤ j ∧ j ≤ 22) ∧ b ≠ 77) : MSt T n M' o := by
  have e : ∀ j, 16 ≤ j → j ≤ 22 → rI M' 70 j = rI M 70 j := fun j j1 j2 => hf.ri (fun q => by have := hA _ _ q; omega)
  have x := h.x.fr hf (fun b j q => by have := hA _ _ q; omega)
  rcases o with ⟨f, p⟩ | s
  · exact ⟨x, h.2.1, by rw [e _ (by omega) (by omega)]; exact h.2.2.1, by rw [e _ (by omega) (by omega)]; exact h.2.2.2⟩
  · obtain ⟨-, h2, h3, h4, h5⟩ := h
    refine ⟨x, h2, by rw [e _ (by omega) (by omega)]; exact h3, by rw [e _ (by omega) (by omega)]; exact h4, ?_⟩
    unfold RdL at h5 ⊢
    rw [e 17 (by omega) (by omega), e 18 (by omega) (by omega), e 19 (by omega) (by omega), e 20 (by omega) (by omega)]
    exact h5
/-! the component -/
theorem cFail (h : CSt T n M o) {f : Int} (f1 : 1 ≤ f) (f2 : f ≤ 3) : ∃ M', F_Read_fail 6 (iz f) M = some (none, M') ∧ Fr AC6 M M' ∧ CSt T n M' (oFail f o) := by
  have hS := h.x.1
  unfold F_Read_fail
  rw [fI_eq (kd_6 hS), show (0 : Int32) = iz 0 from rfl]
  rcases o with ⟨g, p⟩ | s
  · obtain ⟨-, h2, h3, h4⟩ := id h
    rw [h3, ifQ (by omega) (by omega) (by omega) (by omega), if_neg (by omega)]
    exact ⟨M, rfl, Fr.refl M, h⟩
  · obtain ⟨h1, h2, h3, h4, h5⟩ := h
    have fr : Fr AC6 M (wI (wI M 6 1 (iz f)) 6 2 (iz (s : Int))) := (Fr.wI ⟨rfl, by omega⟩).trans (Fr.wI ⟨rfl, by omega⟩)
    rw [h3, if_pos rfl, sI_eq (kd_6 hS), fI_eq (kd_6 hS.wI), rI_ne (by omega), h5.2.1, sI_eq (kd_6 hS.wI)]
    exact ⟨_, rfl, fr, h1.fr fr (fun b j q => by unfold AC6 at q; omega), ⟨f1, f2⟩, by rw [rI_ne (by omega), rI_at rfl rfl], by rw [rI_at rfl rfl]⟩
theorem cIsL (ht : TxO T n) (h : RdC T n M) {k s : Nat} (hk : k < 40) (hs : s + am_sl k ≤ n) (h6 : rI M 6 6 = iz (s : Int)) : ∀ (r f i : Nat), (∀ j, j < i → T (s + j) = wB k j) → i + r = am_sl k → r < f → F_Read_isWord_L35 f 6 (100 + k) (iz (i : Int)) M = some (some (.int (bz (∀ j, j < am_sl k → T (s + j) = wB k j))), M)
  | r, 0, i, hi, h1, h2 => by omega
  | 0, f + 1, i, hi, h1, h2 => by
    have b := (wB_bd k hk).2
    rw [F_Read_isWord_L35, nz_eq (by omega), xV_eq (by omega) (by omega), sLen hk, bI_eq, ifE (by omega) (by omega) (by omega) (by omega), if_pos (by omega), bz_t (fun j hj => hi j (by omega))]; rfl
  | r + 1, f + 1, i, hi, h1, h2 => by
    have b := (wB_bd k hk).2
    have h500 := ht.1
    have c := wB_b2 hk (show i < am_sl k by omega)
    have t := ht.2 (s + i) (by omega)
    have e : bt T n (s + i) = T (s + i) := if_pos (by omega)
    rw [F_Read_isWord_L35, nz_eq (by omega), xV_eq (by omega) (by omega), sLen hk, bI_eq, ifE (by omega) (by omega) (by omega) (by omega), if_neg (by omega), fI_eq (kd_6 h.1), h6, cv_eq (kd_6 h.1), iz_add, show (s : Int) + (i : Int) = ((s + i : Nat) : Int) by omega, cBy ht h (by omega), bI_eq, e, nz_eq (by omega), xV_eq (by omega) (by omega), sChr hk (by omega), bI_eq, ifQ (by omega) (by omega) (by omega) (by omega)]
    by_cases g : T (s + i) = wB k i
    · rw [if_pos g, nm_eq, show (1 : Int32) = iz 1 from rfl, iz_add]
      exact cIsL ht h hk hs h6 r f (i + 1) (fun j hj => by
        by_cases q : j = i
        · rw [q]; exact g
        · exact hi j (by omega)) (by omega) (by omega)
    · rw [if_neg g, bz_f (fun q => g (q i (by omega)))]; rfl
theorem cIsW (ht : TxO T n) (h : CSt T n M o) {k : Nat} (hk : k < 40) : F_Read_isWord 6 (100 + k) M = some (some (.int (bz (oW T n k o = true))), M) := by
  have hS := h.x.1
  have b := (wB_bd k hk).2
  have h500 := ht.1
  have fg := fu_ge
  unfold F_Read_isWord
  rw [fI_eq (kd_6 hS), show (0 : Int32) = iz 0 from rfl]
  rcases o with ⟨g, p⟩ | s
  · obtain ⟨-, h2, h3, h4⟩ := id h
    rw [h3, ifQ (by omega) (by omega) (by omega) (by omega), if_neg (by omega), bz_f (fun q => by cases q)]
  · obtain ⟨h1, h2, h3, h4, h5⟩ := h
    have bl := be_le (T := T) s h2
    have tb : 0 ≤ tk T n s ∧ tk T n s ≤ 3 := by unfold tk; split <;> (try split) <;> (try split) <;> omega
    rw [h3, if_pos rfl, fI_eq (kd_6 hS), h5.1, show (1 : Int32) = iz 1 from rfl, ifQ (by omega) (by omega) (by omega) (by omega)]
    show _ = some (some (Value.int (bz (decide (isW T n k s) = true))), M)
    rw [bz_congr (Q := isW T n k s) decide_eq_true_iff]
    by_cases g1 : tk T n s = 1
    · rw [if_pos g1, fI_eq (kd_6 hS), h5.2.2.1, fI_eq (kd_6 hS), h5.2.1, nz_eq (by omega), xV_eq (by omega) (by omega), sLen hk, bI_eq, iz_sub, ifQ (by omega) (by omega) (by omega) (by omega)]
      by_cases g2 : be T n s = s + am_sl k
      · rw [if_pos (by omega), show iz 0 = iz ((0 : Nat) : Int) from rfl, cIsL ht h1 hk (by omega) h5.2.1 (am_sl k) fu 0 (fun j hj => by omega) (by omega) (by omega)]
        rw [bz_congr (Q := isW T n k s) ⟨fun q => ⟨g1, g2, q⟩, fun q => q.2.2⟩]
      · rw [if_neg (by omega), bz_f (fun q => g2 q.2.1)]
    · rw [if_neg g1, bz_f (fun q => g1 q.1)]
theorem cGo (ht : TxO T n) (h : CSt T n M o) (g : gd o = true) : ∃ M', F_Read_advance 6 M = some (none, M') ∧ Fr AC6 M M' ∧ CSt T n M' (oA T n o) := by
  rcases o with ⟨f, p⟩ | s
  · cases g
  · obtain ⟨h1, h2, h3, h4, h5⟩ := h
    obtain ⟨M', e1, f1, e2⟩ := cAdv ht h1 h2 h5
    exact ⟨M', e1, f1.mono (fun b j q => by unfold A6 at q; unfold AC6; omega), h1.f6 f1, nx_le s h2, by rw [f1.ri (fun q => by unfold A6 at q; omega)]; exact h3, by rw [f1.ri (fun q => by unfold A6 at q; omega)]; exact h4, e2⟩
theorem oW_gd {k : Nat} (h : oW T n k o = true) : gd o = true := by
  rcases o with ⟨f, p⟩ | s
  · cases h
  · rfl
theorem cTake (ht : TxO T n) (h : CSt T n M o) {k : Nat} (hk : k < 40) : ∃ M', F_Read_takeWord 6 (100 + k) M = some (some (.int (bz (oW T n k o = true))), M') ∧ Fr AC6 M M' ∧ CSt T n M' (oT T n k o) := by
  unfold F_Read_takeWord oT
  rw [nz_eq (by omega), cv_eq (kd_6 h.x.1), cIsW ht h hk, bI_eq, bz_if0, cv_eq (kd_6 h.x.1)]
  by_cases g : oW T n k o = true
  · obtain ⟨M', e1, f1, e2⟩ := cGo ht h (oW_gd g)
    rw [if_pos g, if_pos g, e1, bV_eq, bz_t g]
    exact ⟨M', rfl, f1, e2⟩
  · rw [if_neg g, if_neg g, bz_f g]
    exact ⟨M, rfl, Fr.refl M, h⟩
theorem cNeed (ht : TxO T n) (h : CSt T n M o) {k : Nat} (hk : k < 40) : ∃ M', F_Read_needWord 6 (100 + k) M = some (none, M') ∧ Fr AC6 M M' ∧ CSt T n M' (oN T n k o) := by
  obtain ⟨M1, e1, f1, h1⟩ := cTake ht h hk
  unfold F_Read_needWord oN
  rw [nz_eq (by omega), cv_eq (kd_6 h.x.1), e1, bI_eq, bz_if0, cv_eq (kd_6 h1.x.1)]
  unfold oT at h1
  by_cases g : oW T n k o = true
  · rw [if_pos g] at h1
    rw [if_pos g, if_pos g]
    exact ⟨M1, rfl, f1, h1⟩
  · rw [if_neg g] at h1
    obtain ⟨M2, e2, f2, h2⟩ := cFail h1 (f := 1) (by omega) (by omega)
    rw [if_neg g, if_neg g, show (1 : Int32) = iz 1 from rfl, e2, bV_eq]
    exact ⟨M2, rfl, f1.trans f2, h2⟩
theorem tk_bd (s : Nat) : 0 ≤ tk T n s ∧ tk T n s ≤ 3 := by unfold tk; split <;> (try split) <;> (try split) <;> omega
theorem cNmb (ht : TxO T n) (h : CSt T n M o) {lo hi : Int} (l0 : -1000 ≤ lo) (l1 : lo ≤ 1000000) (u0 : -1000 ≤ hi) (u1 : hi ≤ 1000000) : ∃ v M', F_Read_needNumber 6 (iz lo) (iz hi) M = some (some (.int v), M') ∧ Fr AC6 M M' ∧ CSt T n M' (oNum T n lo hi o) ∧ (gd (oNum T n lo hi o) = true → v = iz (oV T n o) ∧ lo ≤ oV T n o ∧ oV T n o ≤ hi) := by
  have hS := h.x.1
  unfold F_Read_needNumber
  rw [fI_eq (kd_6 hS)]
  rcases o with ⟨f, p⟩ | s
  · obtain ⟨h1, h2, h3, h4⟩ := id h
    have no : gd (oNum T n lo hi (.inl (f, p))) = true → False := fun q => by cases q
    obtain ⟨M1, e1, f1, q1⟩ := cFail h (f := 1) (by omega) (by omega)
    obtain ⟨M2, e2, f2, q2⟩ := cFail h (f := 2) (by omega) (by omega)
    rw [show F_Read_fail 6 1 M = some (none, M1) from e1, show F_Read_fail 6 2 M = some (none, M2) from e2]
    by_cases g1 : rI M 6 5 = 2
    · rw [if_pos g1, fI_eq (kd_6 hS)]
      by_cases g2 : rI M 6 8 < iz lo
      · rw [if_pos g2, cv_eq (kd_6 hS), bV_eq]
        exact ⟨_, M2, rfl, f2, q2, fun q => (no q).elim⟩
      · rw [if_neg g2]
        by_cases g3 : rI M 6 8 ≤ iz hi
        · rw [if_pos g3, fI_eq (kd_6 hS), h3, show (0 : Int32) = iz 0 from rfl, ifQ (by omega) (by omega) (by omega) (by omega), if_neg (by omega)]
          exact ⟨_, M, rfl, Fr.refl M, h, fun q => (no q).elim⟩
        · rw [if_neg g3, cv_eq (kd_6 hS), bV_eq]
          exact ⟨_, M2, rfl, f2, q2, fun q => (no q).elim⟩
    · rw [if_neg g1, cv_eq (kd_6 hS), bV_eq]
      exact ⟨_, M1, rfl, f1, q1, fun q => (no q).elim⟩
  · obtain ⟨h1, h2, h3, h4, h5⟩ := id h
    have tb := tk_bd (T := T) (n := n) s
    have vn := va_nn (T := T) (n := n) s
    rw [h5.1, show (2 : Int32) = iz 2 from rfl, ifQ (by omega) (by omega) (by omega) (by omega)]
    by_cases g1 : tk T n s = 2
    · have e8 := h5.2.2.2.1 g1
      rw [if_pos g1, fI_eq (kd_6 hS), e8, ifL (by omega) (by omega) (by omega) (by omega), ifE (by omega) (by omega) (by omega) (by omega)]
      by_cases g2 : lo ≤ va T n s ∧ va T n s ≤ hi
      · obtain ⟨M', e1, f1, e2⟩ := cGo ht h rfl
        have ev : min 100000000 (va T n s) = va T n s := by omega
        have en : oNum T n lo hi (.inr s) = .inr (nx T n s) := by unfold oNum; simp only []; rw [if_pos g1, if_pos g2]
        rw [if_neg (by omega), if_pos (by omega), fI_eq (kd_6 hS), h3, if_pos (show iz 0 = 0 from rfl), cv_eq (kd_6 hS), e1, bV_eq, en, ev]
        exact ⟨_, M', rfl, f1, e2, fun _ => ⟨rfl, g2.1, g2.2⟩⟩
      · have en : oNum T n lo hi (.inr s) = .inl (2, s) := by unfold oNum; simp only []; rw [if_pos g1, if_neg g2]
        obtain ⟨M2, e2, f2, q2⟩ := cFail h (f := 2) (by omega) (by omega)
        rw [cv_eq (kd_6 hS), e2, bV_eq, en]
        by_cases g3 : min 100000000 (va T n s) < lo
        · rw [if_pos g3]
          exact ⟨_, M2, rfl, f2, q2, fun q => by cases q⟩
        · rw [if_neg g3, if_neg (by omega)]
          exact ⟨_, M2, rfl, f2, q2, fun q => by cases q⟩
    · have en : oNum T n lo hi (.inr s) = .inl (1, s) := by unfold oNum; simp only []; rw [if_neg g1]
      obtain ⟨M2, e2, f2, q2⟩ := cFail h (f := 1) (by omega) (by omega)
      rw [if_neg g1, cv_eq (kd_6 hS), show (1 : Int32) = iz 1 from rfl, e2, bV_eq, en]
      exact ⟨_, M2, rfl, f2, q2, fun q => by cases q⟩
theorem cSign (ht : TxO T n) (h : CSt T n M o) {c : Int} (c0 : 0 ≤ c) (c1 : c < 256) : ∃ M', F_Read_needSign 6 (iz c) M = some (none, M') ∧ Fr AC6 M M' ∧ CSt T n M' (oSg T n c o) := by
  have hS := h.x.1
  obtain ⟨M1, e1, f1, q1⟩ := cFail h (f := 1) (by omega) (by omega)
  unfold F_Read_needSign
  rw [fI_eq (kd_6 hS), show F_Read_fail 6 1 M = some (none, M1) from e1]
  rcases o with ⟨f, p⟩ | s
  · obtain ⟨-, h2, h3, h4⟩ := id h
    rw [h3, show (0 : Int32) = iz 0 from rfl, ifQ (by omega) (by omega) (by omega) (by omega), if_neg (by omega), cv_eq (kd_6 hS), bV_eq]
    exact ⟨M1, rfl, f1, q1⟩
  · obtain ⟨h1, h2, h3, h4, h5⟩ := id h
    have tb := tk_bd (T := T) (n := n) s
    rw [h3, if_pos (show iz 0 = 0 from rfl), fI_eq (kd_6 hS), h5.1, show (3 : Int32) = iz 3 from rfl, ifQ (by omega) (by omega) (by omega) (by omega)]
    by_cases g1 : tk T n s = 3
    · have hs : s < n := by
        by_cases q : s < n
        · exact q
        · rw [show tk T n s = 0 from if_neg q] at g1; omega
      have t := ht.2 s hs
      rw [if_pos g1, fI_eq (kd_6 hS), h5.2.2.2.2 g1, ifQ (by omega) (by omega) (by omega) (by omega)]
      by_cases g2 : T s = c
      · obtain ⟨M', e3, f3, e4⟩ := cGo ht h rfl
        have en : oSg T n c (.inr s) = .inr (nx T n s) := if_pos ⟨g1, g2⟩
        rw [if_pos g2, cv_eq (kd_6 hS), e3, bV_eq, en]
        exact ⟨M', rfl, f3, e4⟩
      · have en : oSg T n c (.inr s) = .inl (1, s) := if_neg (fun q => g2 q.2)
        rw [if_neg g2, cv_eq (kd_6 hS), bV_eq, en]
        exact ⟨M1, rfl, f1, q1⟩
    · have en : oSg T n c (.inr s) = .inl (1, s) := if_neg (fun q => g1 q.1)
      rw [if_neg g1, cv_eq (kd_6 hS), bV_eq, en]
      exact ⟨M1, rfl, f1, q1⟩
theorem cBeh (ht : TxO T n) (h : CSt T n M o) {k : Nat} (hk : k < 40) {lo hi d : Int} (l0 : -1000 ≤ lo) (l1 : lo ≤ 1000000) (u0 : -1000 ≤ hi) (u1 : hi ≤ 1000000) : ∃ v M', F_Read_numberBehind 6 (100 + k) (iz lo) (iz hi) (iz d) M = some (some (.int v), M') ∧ Fr AC6 M M' ∧ CSt T n M' (oB T n k lo hi o) ∧ (gd (oB T n k lo hi o) = true → v = iz (oBv T n k d o) ∧ (oBv T n k d o = d ∨ (lo ≤ oBv T n k d o ∧ oBv T n k d o ≤ hi))) := by
  obtain ⟨M1, e1, f1, h1⟩ := cTake ht h hk
  unfold F_Read_numberBehind oB oBv
  rw [nz_eq (by omega), cv_eq (kd_6 h.x.1), e1, bI_eq, bz_if0, cv_eq (kd_6 h1.x.1)]
  by_cases g : oW T n k o = true
  · obtain ⟨v, M2, e2, f2, h2, v2⟩ := cNmb ht h1 l0 l1 u0 u1
    rw [if_pos g, if_pos g, if_pos g, e2, bI_eq]
    exact ⟨v, M2, rfl, f1.trans f2, h2, fun q => ⟨(v2 q).1, Or.inr (v2 q).2⟩⟩
  · rw [if_neg g, if_neg g, if_neg g]
    exact ⟨iz d, M1, rfl, f1, h1, fun _ => ⟨rfl, Or.inl rfl⟩⟩
end Op2
