/-! ===== reading: the reference's words, numbers, signs ===== -/
section Mop
variable {T : Nat → Int} {n : Nat} {M : am_M} {o : Lo}
theorem wB_cg {k' k : Nat} (e : am_stx.getD k' [] = am_stx.getD k []) : am_sl k' = am_sl k ∧ ∀ j, wB k' j = wB k j := by
  unfold am_sl wB; rw [e]; exact ⟨rfl, fun _ => rfl⟩
theorem oW_cg {k' k : Nat} (e : am_stx.getD k' [] = am_stx.getD k []) : oW T n k' o = oW T n k o := by
  rcases o with ⟨f, p⟩ | s
  · rfl
  · obtain ⟨e1, e2⟩ := wB_cg e
    show decide (isW T n k' s) = decide (isW T n k s)
    apply decide_eq_decide.mpr
    unfold isW
    simp only [e1, e2]
theorem gd_r (s : Nat) : gd (.inr s) = true := rfl
theorem mGd (h : MSt T n M o) : F_Md_good 70 M = some (some (.int (bz (gd o = true))), M) := by
  have hS := h.x.1
  unfold F_Md_good
  rw [fI_eq (kd_70 hS)]
  rcases o with ⟨g, p⟩ | s
  · obtain ⟨-, h2, h3, h4⟩ := id h
    rw [h3, show (0 : Int32) = iz 0 from rfl, ifQ (by omega) (by omega) (by omega) (by omega), if_neg (by omega), bz_f (fun q => by cases q)]
  · obtain ⟨h1, h2, h3, h4, h5⟩ := h
    rw [h3, if_pos (show iz 0 = 0 from rfl), bz_t (gd_r s)]; rfl
theorem mErr (h : MSt T n M o) {f : Int} (f1 : 1 ≤ f) (f2 : f ≤ 3) : ∃ M', F_Md_errs 70 (iz f) (rI M 70 18) M = some (none, M') ∧ Fr BM M M' ∧ MSt T n M' (oFail f o) := by
  have hS := h.x.1
  unfold F_Md_errs
  rw [cv_eq (kd_70 hS), mGd h, bI_eq, bz_if0]
  rcases o with ⟨g, p⟩ | s
  · rw [if_neg (fun q => by cases q)]
    exact ⟨M, rfl, Fr.refl M, h⟩
  · obtain ⟨h1, h2, h3, h4, h5⟩ := h
    have fr : Fr BM M (wI (wI M 70 21 (iz f)) 70 22 (rI M 70 18)) := (Fr.wI ⟨rfl, by omega, by omega⟩).trans (Fr.wI ⟨rfl, by omega, by omega⟩)
    rw [if_pos (gd_r s), sI_eq (kd_70 hS), sI_eq (kd_70 hS.wI)]
    exact ⟨_, rfl, fr, h1.fr fr (fun b j q => by unfold BM at q; omega), ⟨f1, f2⟩, by rw [rI_ne (by omega), rI_at rfl rfl], by rw [rI_at rfl rfl]; exact h5.2.1⟩
theorem mIs0 (f : Nat) {k i : Nat} (hk : k < 40) (hi : i ≤ am_sl k) : F_Md_isWord_L39 (f + 1) 70 (100 + k) 0 (iz (i : Int)) M = some (some (.int (iz 0)), M) := by
  have b := (wB_bd k hk).2
  rw [F_Md_isWord_L39, nz_eq (by omega), xV_eq (by omega) (by omega), sLen hk, bI_eq, ifE (by omega) (by omega) (by omega) (by omega), if_pos (rfl : (0 : Int32) = 0), zR, if_pos (show narrow .boolean (.int 0) = .int 0 by decide)]
  by_cases g : (am_sl k : Int) ≤ (i : Int)
  · rw [if_pos g]; rfl
  · rw [if_neg g]; rfl
theorem mIsL (ht : TxO T n) (h : RdM T n M) {k s : Nat} (hk : k < 40) (hs : s + am_sl k ≤ n) (hl : ∀ q, s ≤ q → q < s + am_sl k → ltr (T q)) (h6 : rI M 70 18 = iz (s : Int)) : ∀ (r f i : Nat), (∀ j, j < i → T (s + j) = wB k j) → i + r = am_sl k → r < f → F_Md_isWord_L39 (f + 1) 70 (100 + k) 1 (iz (i : Int)) M = some (some (.int (bz (∀ j, j < am_sl k → T (s + j) = wB k j))), M)
  | r, 0, i, hi, h1, h2 => by omega
  | 0, f + 1, i, hi, h1, h2 => by
    have b := (wB_bd k hk).2
    rw [F_Md_isWord_L39, nz_eq (by omega), xV_eq (by omega) (by omega), sLen hk, bI_eq, ifE (by omega) (by omega) (by omega) (by omega), if_pos (by omega), bz_t (fun j hj => hi j (by omega)), zR, if_pos (by decide)]; rfl
  | r + 1, f + 1, i, hi, h1, h2 => by
    have b := (wB_bd k hk).2
    have h500 := ht.1
    have c := wB_b2 hk (show i < am_sl k by omega)
    have t : 97 ≤ T (s + i) ∧ T (s + i) ≤ 122 := hl (s + i) (by omega) (by omega)
    have e : rI M 77 (s + i) = iz (T (s + i)) := (h.2.2 (s + i) (by omega)).2 (by omega)
    rw [F_Md_isWord_L39, nz_eq (by omega), xV_eq (by omega) (by omega), sLen hk, bI_eq, ifE (by omega) (by omega) (by omega) (by omega), if_neg (by omega), if_neg (show ¬ (1 : Int32) = 0 by decide), fR_eq (kd_70 h.1) (rr_70_14 h.1), fI_eq (kd_70 h.1), h6, iz_add, aB_eq (kd_77 h.1) (ln_77 h.1) (by omega) (by omega) (by omega), show ((s : Int) + (i : Int)).toNat = s + i by omega, e, nz_eq (by omega), xV_eq (by omega) (by omega), sChr hk (by omega), bI_eq, ifQ (by omega) (by omega) (by omega) (by omega)]
    by_cases g : T (s + i) = wB k i
    · rw [if_pos g, nm_eq, show iz (i : Int) + 1 = iz ((i + 1 : Nat) : Int) from iz_add _ 1]
      exact mIsL ht h hk hs hl h6 r f (i + 1) (fun j hj => by
        by_cases q : j = i
        · rw [q]; exact g
        · exact hi j (by omega)) (by omega) (by omega)
    · rw [if_neg g, nm_eq, show iz (i : Int) + 1 = iz ((i + 1 : Nat) : Int) from iz_add _ 1, mIs0 f hk (by omega), bz_f (fun q => g (q i (by omega)))]
theorem mIsW (ht : TxO T n) (h : MSt T n M o) {k : Nat} (hk : k < 40) : F_Md_isWord 70 (100 + k) M = some (some (.int (bz (oW T n k o = true))), M) := by
  have hS := h.x.1
  have b := (wB_bd k hk).2
  have h500 := ht.1
  have fg := fu_ge
  obtain ⟨f0, hf0⟩ : ∃ f0, fu = f0 + 1 := ⟨fu - 1, by omega⟩
  have z0 := mIs0 (M := M) f0 hk (i := 0) (by omega)
  rw [← hf0, show iz ((0 : Nat) : Int) = 0 from rfl] at z0
  unfold F_Md_isWord
  rw [cv_eq (kd_70 hS), mGd h, bI_eq, bz_if0, z0]
  rcases o with ⟨g, p⟩ | s
  · rw [if_neg (fun q => by cases q), bz_f (fun q => by cases q)]
  · obtain ⟨h1, h2, h3, h4, h5⟩ := h
    have bl := be_le (T := T) s h2
    have tb := tk_bd (T := T) (n := n) s
    rw [if_pos (gd_r s), fI_eq (kd_70 hS), h5.1, show (1 : Int32) = iz 1 from rfl, ifQ (by omega) (by omega) (by omega) (by omega)]
    show _ = some (some (Value.int (bz (decide (isW T n k s) = true))), M)
    rw [bz_congr (Q := isW T n k s) decide_eq_true_iff]
    by_cases g1 : tk T n s = 1
    · have hsn : s < n ∧ ltr (T s) := by
        unfold tk at g1
        by_cases q : s < n
        · rw [if_pos q] at g1
          by_cases q2 : ltr (T s)
          · exact ⟨q, q2⟩
          · rw [if_neg q2] at g1
            split at g1 <;> omega
        · rw [if_neg q] at g1; omega
      have eb : be T n s = stop ltr T n s := by unfold be; rw [if_pos hsn.1, if_pos hsn.2]
      rw [if_pos g1, fI_eq (kd_70 hS), h5.2.2.1, fI_eq (kd_70 hS), h5.2.1, nz_eq (by omega), xV_eq (by omega) (by omega), sLen hk, bI_eq, iz_sub, ifQ (by omega) (by omega) (by omega) (by omega)]
      by_cases g2 : be T n s = s + am_sl k
      · have key := mIsL ht h1 hk (s := s) (by omega) (fun q q1 q2 => stop_all (n := n) n s (by omega) q q1 (by rw [← eb, g2]; exact q2)) h5.2.1 (am_sl k) f0 0 (fun j hj => by omega) (by omega) (by omega)
        rw [← hf0, show iz ((0 : Nat) : Int) = 0 from rfl, show (1 : Int32) = iz 1 from rfl] at key
        rw [if_pos (by omega), key]
        rw [bz_congr (Q := isW T n k s) ⟨fun q => ⟨g1, g2, q⟩, fun q => q.2.2⟩]
      · rw [if_neg (by omega), bz_f (fun q => g2 q.2.1)]
        exact z0
    · rw [if_neg g1, bz_f (fun q => g1 q.1)]
theorem mGo (ht : TxO T n) (h : MSt T n M o) (g : gd o = true) : ∃ M', F_Md_advance 70 M = some (none, M') ∧ Fr BM M M' ∧ MSt T n M' (oA T n o) := by
  rcases o with ⟨f, p⟩ | s
  · cases g
  · obtain ⟨h1, h2, h3, h4, h5⟩ := h
    obtain ⟨M', e1, f1, e2⟩ := mAdv ht h1 h2 h5
    exact ⟨M', e1, f1.mono (fun b j q => by unfold B7 at q; unfold BM; omega), h1.f7 f1, nx_le s h2, by rw [f1.ri (fun q => by unfold B7 at q; omega)]; exact h3, by rw [f1.ri (fun q => by unfold B7 at q; omega)]; exact h4, e2⟩
theorem mTake (ht : TxO T n) (h : MSt T n M o) {k' k : Nat} (hk : k' < 40) (e : am_stx.getD k' [] = am_stx.getD k []) : ∃ M', F_Md_takes 70 (100 + k') M = some (some (.int (bz (oW T n k o = true))), M') ∧ Fr BM M M' ∧ MSt T n M' (oT T n k o) := by
  unfold F_Md_takes oT
  rw [nz_eq (by omega), cv_eq (kd_70 h.x.1), mIsW ht h hk, bI_eq, bz_if0, cv_eq (kd_70 h.x.1), oW_cg e]
  by_cases g : oW T n k o = true
  · obtain ⟨M', e1, f1, e2⟩ := mGo ht h (oW_gd g)
    rw [if_pos g, if_pos g, e1, bV_eq, bz_t g]
    exact ⟨M', rfl, f1, e2⟩
  · rw [if_neg g, if_neg g, bz_f g]
    exact ⟨M, rfl, Fr.refl M, h⟩
theorem mNeed (ht : TxO T n) (h : MSt T n M o) {k' k : Nat} (hk : k' < 40) (e : am_stx.getD k' [] = am_stx.getD k []) : ∃ M', F_Md_passes 70 (100 + k') M = some (none, M') ∧ Fr BM M M' ∧ MSt T n M' (oN T n k o) := by
  obtain ⟨M1, e1, f1, h1⟩ := mTake ht h hk e
  unfold F_Md_passes oN
  rw [nz_eq (by omega), cv_eq (kd_70 h.x.1), e1, bI_eq, bz_if0]
  unfold oT at h1
  by_cases g : oW T n k o = true
  · rw [if_pos g] at h1
    rw [if_pos g, if_pos g]
    exact ⟨M1, rfl, f1, h1⟩
  · rw [if_neg g] at h1
    obtain ⟨M2, e2, f2, h2⟩ := mErr h1 (f := 1) (by omega) (by omega)
    rw [if_neg g, if_neg g, fI_eq (kd_70 h1.x.1), cv_eq (kd_70 h1.x.1), show (1 : Int32) = iz 1 from rfl, e2, bV_eq]
    exact ⟨M2, rfl, f1.trans f2, h2⟩
theorem mNmb (ht : TxO T n) (h : MSt T n M o) {lo hi : Int} (l0 : -1000 ≤ lo) (l1 : lo ≤ 1000000) (u0 : -1000 ≤ hi) (u1 : hi ≤ 1000000) : ∃ v M', F_Md_number 70 (iz lo) (iz hi) M = some (some (.int v), M') ∧ Fr BM M M' ∧ MSt T n M' (oNum T n lo hi o) ∧ (gd (oNum T n lo hi o) = true → v = iz (oV T n o) ∧ lo ≤ oV T n o ∧ oV T n o ≤ hi) := by
  have hS := h.x.1
  have bad55 : ∀ (o : Lo) (M : am_M), MSt T n M o → gd o = false → F_Md_number_L55 70 M = some (some (.int (rI M 70 20)), M) := fun o M h g => by
    unfold F_Md_number_L55
    rw [fI_eq (kd_70 h.x.1), cv_eq (kd_70 h.x.1), mGd h, bI_eq, bz_if0, if_neg (by rw [g]; decide)]
  have bad24 : ∀ (o : Lo) (M : am_M), MSt T n M o → gd o = false → F_Md_number_L24 70 (iz lo) (iz hi) M = some (some (.int (rI M 70 20)), M) := fun o M h g => by
    unfold F_Md_number_L24
    rw [cv_eq (kd_70 h.x.1), mGd h, bI_eq, bz_if0, if_neg (by rw [g]; decide), bad55 o M h g]
  unfold F_Md_number
  rw [cv_eq (kd_70 hS), mGd h, bI_eq, bz_if0]
  rcases o with ⟨f, p⟩ | s
  · rw [if_neg (fun q => by cases q), bad24 _ M h rfl]
    exact ⟨_, M, rfl, Fr.refl M, h, fun q => by cases q⟩
  · obtain ⟨h1, h2, h3, h4, h5⟩ := id h
    have tb := tk_bd (T := T) (n := n) s
    have vn := va_nn (T := T) (n := n) s
    rw [if_pos (gd_r s), fI_eq (kd_70 hS), h5.1, show (2 : Int32) = iz 2 from rfl, ifQ (by omega) (by omega) (by omega) (by omega)]
    by_cases g1 : tk T n s = 2
    · have e8 := h5.2.2.2.1 g1
      unfold F_Md_number_L24
      rw [if_pos g1, cv_eq (kd_70 hS), mGd h, bI_eq, bz_if0, if_pos (gd_r s), fI_eq (kd_70 hS), e8, jz_i2l (a := min 9999999 (va T n s)) (by omega) (by omega), jz_i2l (a := lo) (by omega) (by omega), jz_i2l (a := hi) (by omega) (by omega), in_eq (by omega) (by omega) (by omega) (by omega) (by omega) (by omega), bI_eq, bz_if0]
      by_cases g2 : lo ≤ va T n s ∧ va T n s ≤ hi
      · obtain ⟨M', e1, f1, e2⟩ := mGo ht h rfl
        have ev : min 9999999 (va T n s) = va T n s := by omega
        have en : oNum T n lo hi (.inr s) = .inr (nx T n s) := by unfold oNum; simp only []; rw [if_pos g1, if_pos g2]
        unfold F_Md_number_L55
        rw [ev, if_pos g2, fI_eq (kd_70 hS), e8, ev, cv_eq (kd_70 hS), mGd h, bI_eq, bz_if0, if_pos (gd_r s), cv_eq (kd_70 hS), e1, bV_eq, en]
        exact ⟨_, M', rfl, f1, e2, fun _ => ⟨rfl, g2.1, g2.2⟩⟩
      · have en : oNum T n lo hi (.inr s) = .inl (2, s) := by unfold oNum; simp only []; rw [if_pos g1, if_neg g2]
        obtain ⟨M2, e2, f2, q2⟩ := mErr h (f := 2) (by omega) (by omega)
        rw [if_neg (by omega), fI_eq (kd_70 hS), cv_eq (kd_70 hS), show (2 : Int32) = iz 2 from rfl, e2, bV_eq, en, bad55 _ M2 q2 rfl]
        exact ⟨_, M2, rfl, f2, q2, fun q => by cases q⟩
    · have en : oNum T n lo hi (.inr s) = .inl (1, s) := by unfold oNum; simp only []; rw [if_neg g1]
      obtain ⟨M2, e2, f2, q2⟩ := mErr h (f := 1) (by omega) (by omega)
      rw [if_neg g1, fI_eq (kd_70 hS), cv_eq (kd_70 hS), show (1 : Int32) = iz 1 from rfl, e2, bV_eq, en, bad24 _ M2 q2 rfl]
      exact ⟨_, M2, rfl, f2, q2, fun q => by cases q⟩
theorem mSign (ht : TxO T n) (h : MSt T n M o) : ∃ M', F_Md_readLine_L96 70 M = some (none, M') ∧ Fr BM M M' ∧ MSt T n M' (oSg T n 59 o) := by
  have hS := h.x.1
  have er : ∃ M', F_Md_readLine_L120 70 M = some (none, M') ∧ Fr BM M M' ∧ MSt T n M' (oFail 1 o) := by
    obtain ⟨M2, e2, f2, q2⟩ := mErr h (f := 1) (by omega) (by omega)
    have hb : gd (oFail 1 o) = false := by rcases o with ⟨f, p⟩ | s <;> rfl
    unfold F_Md_readLine_L120
    rw [fI_eq (kd_70 hS), cv_eq (kd_70 hS), show (1 : Int32) = iz 1 from rfl, e2, bV_eq, cv_eq (kd_70 q2.x.1), mGd q2, bI_eq, bz_if0, if_neg (by rw [hb]; decide)]
    exact ⟨M2, rfl, f2, q2⟩
  unfold F_Md_readLine_L96
  rw [cv_eq (kd_70 hS), mGd h, bI_eq, bz_if0]
  rcases o with ⟨f, p⟩ | s
  · rw [if_neg (fun q => by cases q), cv_eq (kd_70 hS), mGd h, bI_eq, bz_if0, if_neg (fun q => by cases q)]
    exact ⟨M, rfl, Fr.refl M, h⟩
  · obtain ⟨h1, h2, h3, h4, h5⟩ := id h
    have tb := tk_bd (T := T) (n := n) s
    rw [if_pos (gd_r s), fI_eq (kd_70 hS), h5.1, show (3 : Int32) = iz 3 from rfl, ifQ (by omega) (by omega) (by omega) (by omega)]
    by_cases g1 : tk T n s = 3
    · have hs : s < n := by
        by_cases q : s < n
        · exact q
        · rw [show tk T n s = 0 from if_neg q] at g1; omega
      have t := ht.2 s hs
      rw [if_pos g1, fI_eq (kd_70 hS), h5.2.2.2.2 g1, show (59 : Int32) = iz 59 from rfl, ifQ (by omega) (by omega) (by omega) (by omega)]
      by_cases g2 : T s = 59
      · obtain ⟨M', e3, f3, e4⟩ := mGo ht h rfl
        have en : oSg T n 59 (.inr s) = .inr (nx T n s) := if_pos ⟨g1, g2⟩
        rw [if_pos g2, cv_eq (kd_70 hS), mGd h, bI_eq, bz_if0, if_pos (gd_r s), cv_eq (kd_70 hS), e3, bV_eq, en]
        exact ⟨M', rfl, f3, e4⟩
      · have en : oSg T n 59 (.inr s) = .inl (1, s) := if_neg (fun q => g2 q.2)
        rw [if_neg g2, en]
        exact er
    · have en : oSg T n 59 (.inr s) = .inl (1, s) := if_neg (fun q => g1 q.1)
      rw [if_neg g1, en]
      exact er
end Mop
