/-! ===== reading a kind ===== -/
section KindA
variable (T : Nat → Int) (n : Nat)
def oMi : Lo → Bool
  | .inl _ => false
  | .inr s => decide (tk T n s = 3 ∧ T s = 45)
def oM (o : Lo) : Lo := if oMi T n o then oA T n o else o
def oF (o : Lo) : Lo := if oW T n 6 o then oNum T n 0 9 (oM T n (oT T n 6 o)) else oT T n 6 o
def oFv (o : Lo) : Int := if oW T n 6 o then (if oMi T n (oT T n 6 o) then - oV T n (oM T n (oT T n 6 o)) else oV T n (oM T n (oT T n 6 o))) else 0
def oE (o : Lo) : Lo := if oW T n 8 o then oA T n o else if oW T n 9 o then oA T n o else oT T n 10 o
def oEv (o : Lo) : Int := if oW T n 8 o then 1 else if oW T n 9 o then 2 else 0
def k2 (o : Lo) : Lo := oN T n 3 (oA T n o)
def k3 (o : Lo) : Lo := oNum T n 1 40 (k2 T n o)
def k4 (o : Lo) : Lo := oB T n 4 0 20 (k3 T n o)
def k5 (o : Lo) : Lo := oB T n 5 0 20 (k4 T n o)
def k6 (o : Lo) : Lo := oF T n (k5 T n o)
def k7 (o : Lo) : Lo := oB T n 7 1 9 (k6 T n o)
def k8 (o : Lo) : Lo := oE T n (k7 T n o)
def k9 (o : Lo) : Lo := oB T n 11 1 2 (k8 T n o)
def kO (k : Int) (o : Lo) : Lo := if oW T n 11 (k8 T n o) then oNum T n 0 (k - 1) (oN T n 12 (k9 T n o)) else k9 T n o
def kF (o : Lo) (i : Int) : Int := if i = 0 then oV T n (k2 T n o) else if i = 1 then oBv T n 4 0 (k3 T n o) else if i = 2 then oBv T n 5 0 (k4 T n o) else if i = 3 then oFv T n (k5 T n o) else if i = 4 then oBv T n 7 1 (k6 T n o) else if i = 5 then oEv T n (k7 T n o) else if i = 6 then oBv T n 11 0 (k8 T n o) else if oW T n 11 (k8 T n o) then oV T n (oN T n 12 (k9 T n o)) else -1
end KindA
section KindB
variable {T : Nat → Int} {n : Nat} {M : am_M} {o : Lo}
theorem gd_f (h : ¬ gd o = true) : gd o = false := by rcases o with q | q <;> first | rfl | exact absurd rfl h
theorem ba_num {lo hi : Int} (h : ¬ gd o = true) : oNum T n lo hi o = o := by rcases o with q | q <;> first | rfl | exact absurd rfl h
theorem ba_W {k : Nat} (h : ¬ gd o = true) : oW T n k o = false := by rcases o with q | q <;> first | rfl | exact absurd rfl h
theorem ba_A (h : ¬ gd o = true) : oA T n o = o := by rcases o with q | q <;> first | rfl | exact absurd rfl h
theorem ba_Fl {f : Int} (h : ¬ gd o = true) : oFail f o = o := by rcases o with q | q <;> first | rfl | exact absurd rfl h
theorem ba_N {k : Nat} (h : ¬ gd o = true) : oN T n k o = o := by unfold oN; rw [ba_W h, ba_Fl h]; rfl
theorem ba_T {k : Nat} (h : ¬ gd o = true) : oT T n k o = o := by unfold oT; rw [ba_W h]; rfl
theorem ba_B {k : Nat} {lo hi : Int} (h : ¬ gd o = true) : oB T n k lo hi o = o := by unfold oB; rw [ba_W h, ba_T h]; rfl
theorem ba_F (h : ¬ gd o = true) : oF T n o = o := by unfold oF; rw [ba_W h, ba_T h]; rfl
theorem ba_E (h : ¬ gd o = true) : oE T n o = o := by unfold oE; rw [ba_W h, ba_W h, ba_T h]; rfl
theorem ba_S {c : Int} (h : ¬ gd o = true) : oSg T n c o = o := by rcases o with q | q <;> first | rfl | exact absurd rfl h
theorem gp {f : Lo → Lo} (hb : ∀ o : Lo, ¬ gd o = true → f o = o) (h : gd (f o) = true) : gd o = true := by
  by_cases g : gd o = true
  · exact g
  · rw [hb o g] at h; exact h
theorem gp_num {lo hi : Int} (h : gd (oNum T n lo hi o) = true) : gd o = true := gp (fun _ q => ba_num q) h
theorem gp_N {k : Nat} (h : gd (oN T n k o) = true) : gd o = true := gp (fun _ q => ba_N q) h
theorem gp_B {k : Nat} {lo hi : Int} (h : gd (oB T n k lo hi o) = true) : gd o = true := gp (fun _ q => ba_B q) h
theorem gp_F (h : gd (oF T n o) = true) : gd o = true := gp (fun _ q => ba_F q) h
theorem gp_E (h : gd (oE T n o) = true) : gd o = true := gp (fun _ q => ba_E q) h
theorem gp_S {c : Int} (h : gd (oSg T n c o) = true) : gd o = true := gp (fun _ q => ba_S q) h
theorem num_bd {lo hi : Int} (h : gd (oNum T n lo hi o) = true) : lo ≤ oV T n o ∧ oV T n o ≤ hi := by
  rcases o with q | s
  · cases h
  · unfold oNum at h
    simp only [] at h
    show lo ≤ va T n s ∧ va T n s ≤ hi
    by_cases g1 : tk T n s = 2
    · rw [if_pos g1] at h
      by_cases g2 : lo ≤ va T n s ∧ va T n s ≤ hi
      · exact g2
      · rw [if_neg g2] at h; cases h
    · rw [if_neg g1] at h; cases h
theorem beh_bd {k : Nat} {lo hi d : Int} (h : gd (oB T n k lo hi o) = true) : (oW T n k o = true → lo ≤ oBv T n k d o ∧ oBv T n k d o ≤ hi) ∧ (¬ oW T n k o = true → oBv T n k d o = d) := by
  unfold oB at h
  unfold oBv
  by_cases g : oW T n k o = true
  · rw [if_pos g] at h ⊢
    exact ⟨fun _ => num_bd h, fun q => absurd g q⟩
  · rw [if_neg g]
    exact ⟨fun q => absurd q g, fun _ => rfl⟩
/-! the component -/
def AK (k : Int) (b j : Nat) : Prop := AC6 b j ∨ (b = 9 ∧ k * 8 ≤ (j : Int) ∧ (j : Int) < k * 8 + 8)
def RkC (T : Nat → Int) (n : Nat) (M0 M : am_M) (k j : Int) (o : Lo) (fn : Int → Int) : Prop := Fr (AK k) M0 M ∧ CSt T n M o ∧ (gd o = true → ∀ i, 0 ≤ i → i < j → rI M 9 (k * 8 + i).toNat = iz (fn i))
theorem RkC.s {M0 : am_M} {k j : Int} {fn : Int → Int} (h : RkC T n M0 M k j o fn) : SH M := h.2.1.x.1
theorem RkC.mv {M0 M1 : am_M} {k j : Int} {o' : Lo} {fn : Int → Int} (h : RkC T n M0 M k j o fn) (f1 : Fr AC6 M M1) (h1 : CSt T n M1 o') (g : gd o' = true → gd o = true) : RkC T n M0 M1 k j o' fn :=
  ⟨h.1.trans (f1.mono (fun b j q => Or.inl q)), h1, fun q i i1 i2 => by rw [f1.ri (fun q => by unfold AC6 at q; omega)]; exact h.2.2 (g q) i i1 i2⟩
theorem cKs {M0 M1 : am_M} {k j : Int} {o' : Lo} {fn : Int → Int} {v : Int32} (k0 : 0 ≤ k) (k1 : k < 5) (j0 : 0 ≤ j) (j1 : j < 8) (h : RkC T n M0 M k j o fn) (f1 : Fr AC6 M M1) (h1 : CSt T n M1 o') (g : gd o' = true → gd o = true) (hv : gd o' = true → v = iz (fn j)) : ∃ M2, F_Scen_setKind 7 (iz k) (iz j) v M1 = some (none, M2) ∧ RkC T n M0 M2 k (j + 1) o' fn := by
  have h2 := h.mv f1 h1 g
  have fr : Fr (AK k) M1 (wI M1 9 (k * 8 + j).toNat v) := Fr.wI (Or.inr ⟨rfl, by omega, by omega⟩)
  refine ⟨wI M1 9 (k * 8 + j).toNat v, setKind_eq (SA_7 h1.x.1) k0 k1 j0 j1, h2.1.trans fr, h1.f (Fr.wI (A := fun b _ => b = 9) rfl) (fun b j q => by omega), fun q i i1 i2 => ?_⟩
  by_cases e : i = j
  · rw [e, rI_at rfl rfl]; exact hv q
  · rw [rI_ne (by omega)]; exact h2.2.2 q i i1 (by omega)
theorem cFls (ht : TxO T n) (h : CSt T n M o) : ∃ v M', F_Read_readFalls 6 M = some (some (.int v), M') ∧ Fr AC6 M M' ∧ CSt T n M' (oF T n o) ∧ (gd (oF T n o) = true → v = iz (oFv T n o)) := by
  obtain ⟨M1, e1, f1, h1⟩ := cTake ht h (k := 6) (by omega)
  have hS := h1.x.1
  unfold F_Read_readFalls oF oFv
  rw [cv_eq (kd_6 h.x.1), show F_Read_takeWord 6 106 M = _ from e1, bI_eq, bz_if0]
  by_cases g : oW T n 6 o = true
  rotate_left
  · rw [if_neg g, if_neg g, if_neg g]
    exact ⟨_, M1, rfl, f1, h1, fun _ => rfl⟩
  rw [if_pos g, if_pos g, if_pos g]
  generalize oT T n 6 o = o1 at h1 ⊢
  have plain : ∀ (hm : ¬ oMi T n o1 = true), ∃ v M', F_Read_readFalls_L39 6 M1 = some (some (.int v), M') ∧ Fr AC6 M M' ∧ CSt T n M' (oNum T n 0 9 (oM T n o1)) ∧ (gd (oNum T n 0 9 (oM T n o1)) = true → v = iz (if oMi T n o1 = true then - oV T n (oM T n o1) else oV T n (oM T n o1))) := fun hm => by
    have em : oM T n o1 = o1 := if_neg hm
    rw [em, if_neg hm]
    obtain ⟨v, M2, e2, f2, h2, v2⟩ := cNmb ht h1 (lo := 0) (hi := 9) (by omega) (by omega) (by omega) (by omega)
    unfold F_Read_readFalls_L39 F_Read_readFalls_L40 F_Read_readFalls_L49
    rw [if_pos rfl, cv_eq (kd_6 hS), show F_Read_needNumber 6 0 9 M1 = _ from e2, bI_eq, if_pos rfl]
    exact ⟨v, M2, rfl, f1.trans f2, h2, fun q => (v2 q).1⟩
  rw [fI_eq (kd_6 hS)]
  rcases o1 with ⟨f, p⟩ | s
  · obtain ⟨-, a2, a3, a4⟩ := id h1
    rw [a3, show (0 : Int32) = iz 0 from rfl, ifQ (by omega) (by omega) (by omega) (by omega), if_neg (by omega)]
    exact plain (fun q => by cases q)
  · obtain ⟨a1, a2, a3, a4, a5⟩ := id h1
    have tb := tk_bd (T := T) (n := n) s
    rw [a3, if_pos (show iz 0 = 0 from rfl), fI_eq (kd_6 hS), a5.1, show (3 : Int32) = iz 3 from rfl, ifQ (by omega) (by omega) (by omega) (by omega)]
    by_cases g1 : tk T n s = 3
    · have hs : s < n := by
        by_cases q : s < n
        · exact q
        · rw [show tk T n s = 0 from if_neg q] at g1; omega
      have t := ht.2 s hs
      rw [if_pos g1, fI_eq (kd_6 hS), a5.2.2.2.2 g1, show (45 : Int32) = iz 45 from rfl, ifQ (by omega) (by omega) (by omega) (by omega)]
      by_cases g2 : T s = 45
      · have hm : oMi T n (.inr s) = true := decide_eq_true ⟨g1, g2⟩
        have em : oM T n (.inr s) = oA T n (.inr s) := if_pos hm
        rw [em, if_pos g2, if_pos hm]
        obtain ⟨M2, e2, f2, h2⟩ := cGo ht h1 rfl
        obtain ⟨v, M3, e3, f3, h3, v3⟩ := cNmb ht h2 (lo := 0) (hi := 9) (by omega) (by omega) (by omega) (by omega)
        unfold F_Read_readFalls_L40 F_Read_readFalls_L49
        rw [if_neg (by decide), cv_eq (kd_6 hS), e2, bV_eq, cv_eq (kd_6 h2.x.1), show F_Read_needNumber 6 0 9 M2 = _ from e3, bI_eq, if_neg (by decide)]
        exact ⟨-v, M3, rfl, f1.trans (f2.trans f3), h3, fun q => by rw [(v3 q).1, iz_neg]⟩
      · rw [if_neg g2]
        exact plain (fun q => g2 (of_decide_eq_true q).2)
    · rw [if_neg g1]
      exact plain (fun q => g1 (of_decide_eq_true q).1)
theorem cEdg (ht : TxO T n) (h : CSt T n M o) : ∃ M', F_Read_readEdge 6 M = some (some (.int (iz (oEv T n o))), M') ∧ Fr AC6 M M' ∧ CSt T n M' (oE T n o) := by
  obtain ⟨M1, e1, f1, h1⟩ := cTake ht h (k := 8) (by omega)
  unfold F_Read_readEdge oE oEv
  rw [cv_eq (kd_6 h.x.1), show F_Read_takeWord 6 108 M = _ from e1, bI_eq, bz_if0]
  unfold oT at h1
  by_cases g : oW T n 8 o = true
  · rw [if_pos g] at h1
    rw [if_pos g, if_pos g, if_pos g]
    exact ⟨M1, rfl, f1, h1⟩
  rw [if_neg g] at h1
  rw [if_neg g, if_neg g, if_neg g]
  obtain ⟨M2, e2, f2, h2⟩ := cTake ht h1 (k := 9) (by omega)
  rw [cv_eq (kd_6 h1.x.1), show F_Read_takeWord 6 109 M1 = _ from e2, bI_eq, bz_if0]
  unfold oT at h2
  by_cases g2 : oW T n 9 o = true
  · rw [if_pos g2] at h2
    rw [if_pos g2, if_pos g2, if_pos g2]
    exact ⟨M2, rfl, f1.trans f2, h2⟩
  rw [if_neg g2] at h2
  rw [if_neg g2, if_neg g2, if_neg g2]
  obtain ⟨M3, e3, f3, h3⟩ := cTake ht h2 (k := 10) (by omega)
  rw [cv_eq (kd_6 h2.x.1), show F_Read_takeWord 6 110 M2 = _ from e3, bI_eq]
  exact ⟨M3, rfl, f1.trans (f2.trans f3), h3⟩
theorem cKnd (ht : TxO T n) (h : CSt T n M o) (g : gd o = true) {k : Int} (k0 : 0 ≤ k) (k1 : k < 5) (hk : rI M 7 3 = iz k) : ∃ M', F_Read_readKind 6 M = some (none, M') ∧ Fr (fun b j => AK k b j ∨ (b = 7 ∧ j = 3)) M M' ∧ CSt T n M' (kO T n k o) ∧ (gd (kO T n k o) = true → ∀ i, 0 ≤ i → i < 8 → rI M' 9 (k * 8 + i).toNat = iz (kF T n o i)) ∧ rI M' 7 3 = iz (k + 1) := by
  have hS := h.x.1
  unfold F_Read_readKind
  rw [fR_eq (kd_6 hS) (rr_6_0 hS), fI_eq (kd_7 hS), hk, show (5 : Int32) = iz 5 from rfl, ifL (by omega) (by omega) (by omega) (by omega), if_pos k1, cv_eq (kd_6 hS)]
  obtain ⟨M1, e1, f1, h1⟩ := cGo ht h g
  rw [e1, bV_eq, cv_eq (kd_6 h1.x.1)]
  obtain ⟨M2, e2, f2, h2⟩ := cNeed ht h1 (k := 3) (by omega)
  have S2 := h2.x.1
  have c2 : RkC T n M M2 k 0 (k2 T n o) (kF T n o) := ⟨(f1.trans f2).mono (fun b j q => Or.inl q), h2, fun _ i i1 i2 => by omega⟩
  rw [show F_Read_needWord 6 103 M1 = _ from e2, bV_eq, fR_eq (kd_6 S2) (rr_6_0 S2), cv_eq (kd_6 S2)]
  obtain ⟨v3, M3, e3, f3, h3, w3⟩ := cNmb ht c2.2.1 (lo := 1) (hi := 40) (by omega) (by omega) (by omega) (by omega)
  obtain ⟨N3, u3, c3⟩ := cKs k0 k1 (j := 0) (by omega) (by omega) c2 f3 h3 (fun q => gp_num q) (fun q => (w3 q).1)
  have S3 := c3.s
  rw [show F_Read_needNumber 6 1 40 M2 = _ from e3, bI_eq, cv_eq (kd_7 h3.x.1), show F_Scen_setKind 7 (iz k) 0 v3 M3 = _ from u3, bV_eq, fR_eq (kd_6 S3) (rr_6_0 S3), cv_eq (kd_6 S3)]
  obtain ⟨v4, M4, e4, f4, h4, w4⟩ := cBeh ht c3.2.1 (k := 4) (by omega) (lo := 0) (hi := 20) (d := 0) (by omega) (by omega) (by omega) (by omega)
  obtain ⟨N4, u4, c4⟩ := cKs k0 k1 (j := 0 + 1) (by omega) (by omega) c3 f4 h4 (fun q => gp_B q) (fun q => (w4 q).1)
  have S4 := c4.s
  rw [show F_Read_numberBehind 6 104 0 20 0 N3 = _ from e4, bI_eq, cv_eq (kd_7 h4.x.1), show F_Scen_setKind 7 (iz k) 1 v4 M4 = _ from u4, bV_eq, fR_eq (kd_6 S4) (rr_6_0 S4), cv_eq (kd_6 S4)]
  obtain ⟨v5, M5, e5, f5, h5, w5⟩ := cBeh ht c4.2.1 (k := 5) (by omega) (lo := 0) (hi := 20) (d := 0) (by omega) (by omega) (by omega) (by omega)
  obtain ⟨N5, u5, c5⟩ := cKs k0 k1 (j := 0 + 1 + 1) (by omega) (by omega) c4 f5 h5 (fun q => gp_B q) (fun q => (w5 q).1)
  have S5 := c5.s
  rw [show F_Read_numberBehind 6 105 0 20 0 N4 = _ from e5, bI_eq, cv_eq (kd_7 h5.x.1), show F_Scen_setKind 7 (iz k) 2 v5 M5 = _ from u5, bV_eq, fR_eq (kd_6 S5) (rr_6_0 S5), cv_eq (kd_6 S5)]
  obtain ⟨v6, M6, e6, f6, h6, w6⟩ := cFls ht c5.2.1
  obtain ⟨N6, u6, c6⟩ := cKs k0 k1 (j := 0 + 1 + 1 + 1) (by omega) (by omega) c5 f6 h6 (fun q => gp_F q) (fun q => w6 q)
  have S6 := c6.s
  rw [e6, bI_eq, cv_eq (kd_7 h6.x.1), show F_Scen_setKind 7 (iz k) 3 v6 M6 = _ from u6, bV_eq, fR_eq (kd_6 S6) (rr_6_0 S6), cv_eq (kd_6 S6)]
  obtain ⟨v7, M7, e7, f7, h7, w7⟩ := cBeh ht c6.2.1 (k := 7) (by omega) (lo := 1) (hi := 9) (d := 1) (by omega) (by omega) (by omega) (by omega)
  obtain ⟨N7, u7, c7⟩ := cKs k0 k1 (j := 0 + 1 + 1 + 1 + 1) (by omega) (by omega) c6 f7 h7 (fun q => gp_B q) (fun q => (w7 q).1)
  have S7 := c7.s
  rw [show F_Read_numberBehind 6 107 1 9 1 N6 = _ from e7, bI_eq, cv_eq (kd_7 h7.x.1), show F_Scen_setKind 7 (iz k) 4 v7 M7 = _ from u7, bV_eq, fR_eq (kd_6 S7) (rr_6_0 S7), cv_eq (kd_6 S7)]
  obtain ⟨M8, e8, f8, h8⟩ := cEdg ht c7.2.1
  obtain ⟨N8, u8, c8⟩ := cKs k0 k1 (j := 0 + 1 + 1 + 1 + 1 + 1) (by omega) (by omega) c7 f8 h8 (fun q => gp_E q) (v := iz (oEv T n (k7 T n o))) (fun q => rfl)
  have S8 := c8.s
  rw [show F_Read_readEdge 6 N7 = some (some (.int (iz (oEv T n (k7 T n o)))), M8) from e8, bI_eq, cv_eq (kd_7 h8.x.1), show F_Scen_setKind 7 (iz k) (iz 5) (iz (oEv T n (k7 T n o))) M8 = _ from u8, bV_eq, fR_eq (kd_6 S8) (rr_6_0 S8), cv_eq (kd_6 S8)]
  obtain ⟨v9, M9, e9, f9, h9, w9⟩ := cBeh ht c8.2.1 (k := 11) (by omega) (lo := 1) (hi := 2) (d := 0) (by omega) (by omega) (by omega) (by omega)
  obtain ⟨N9, u9, c9⟩ := cKs k0 k1 (j := 0 + 1 + 1 + 1 + 1 + 1 + 1) (by omega) (by omega) c8 f9 h9 (fun q => gp_B q) (fun q => (w9 q).1)
  have S9 := c9.s
  rw [show F_Read_numberBehind 6 111 1 2 0 N8 = _ from e9, bI_eq, cv_eq (kd_7 h9.x.1), show F_Scen_setKind 7 (iz k) 6 v9 M9 = _ from u9, bV_eq, fR_eq (kd_6 S9) (rr_6_0 S9), cv_eq (kd_7 S9)]
  have fr : Fr (AK k) N9 (wI N9 9 (k * 8 + 7).toNat (iz (-1))) := Fr.wI (Or.inr ⟨rfl, by omega, by omega⟩)
  have sk7 : F_Scen_setKind 7 (iz k) 7 (-1) N9 = some (none, wI N9 9 (k * 8 + 7).toNat (iz (-1))) := setKind_eq (SA_7 S9) k0 k1 (w := 7) (by omega) (by omega)
  have c10 : RkC T n M (wI N9 9 (k * 8 + 7).toNat (iz (-1))) k 7 (k9 T n o) (kF T n o) := ⟨c9.1.trans fr, c9.2.1.f (Fr.wI (A := fun b _ => b = 9) rfl) (fun b j q => by omega), fun q i i1 i2 => by rw [rI_ne (by omega)]; exact c9.2.2 q i i1 (by omega)⟩
  have z7 : rI (wI N9 9 (k * 8 + 7).toNat (iz (-1))) 9 (k * 8 + 7).toNat = iz (-1) := by rw [rI_at rfl rfl]
  rw [sk7, bV_eq]
  generalize wI N9 9 (k * 8 + 7).toNat (iz (-1)) = X at c10 z7 ⊢
  have SX := c10.s
  have x3 : rI X 7 3 = iz k := by rw [c10.1.ri (fun q => by unfold AK AC6 at q; omega)]; exact hk
  rw [fR_eq (kd_6 SX) (rr_6_0 SX), cv_eq (kd_7 SX), show F_Scen_ofKind 7 (iz k) 6 X = _ from ofKind_eq (SA_7 SX) k0 k1 (w := 6) (by omega) (by omega), bI_eq, show (0 : Int32) = iz 0 from rfl, show (1 : Int32) = iz 1 from rfl]
  have v6v : gd (k9 T n o) = true → rI X 9 (k * 8 + 6).toNat = iz (oBv T n 11 0 (k8 T n o)) := fun q => c10.2.2 q 6 (by omega) (by omega)
  have bb : gd (k9 T n o) = true → _ := fun q => beh_bd (d := 0) (show gd (oB T n 11 1 2 (k8 T n o)) = true from q)
  by_cases gx : rI X (7 + 2) (k * 8 + 6).toNat ≤ iz 0
  · have eo : kO T n k o = k9 T n o := by
      unfold kO
      by_cases gw : oW T n 11 (k8 T n o) = true
      · rw [if_pos gw]
        by_cases gg : gd (k9 T n o) = true
        · have b1 := (bb gg).1 gw
          rw [show rI X (7 + 2) (k * 8 + 6).toNat = _ from v6v gg, iz_le (by omega) (by omega) (by omega) (by omega)] at gx
          omega
        · rw [ba_N gg, ba_num gg]
      · rw [if_neg gw]
    rw [if_pos gx, fR_eq (kd_6 SX) (rr_6_0 SX), fI_eq (kd_7 SX), x3, iz_add, sI_eq (kd_7 SX), eo]
    have fx : Fr (fun b j => AK k b j ∨ (b = 7 ∧ j = 3)) X (wI X 7 3 (iz (k + 1))) := Fr.wI (Or.inr ⟨rfl, rfl⟩)
    refine ⟨_, rfl, (c10.1.mono (fun b j q => Or.inl q)).trans fx, c10.2.1.f (Fr.wI (A := fun b _ => b = 7) rfl) (fun b j q => by omega), fun q i i1 i2 => ?_, by rw [rI_at rfl rfl]⟩
    rw [rI_ne (by omega)]
    by_cases e7 : i = 7
    · have nw : ¬ oW T n 11 (k8 T n o) = true := fun gw => by
        have b1 := (bb q).1 gw
        rw [show rI X (7 + 2) (k * 8 + 6).toNat = _ from v6v q, iz_le (by omega) (by omega) (by omega) (by omega)] at gx
        omega
      rw [e7, z7, show kF T n o 7 = if oW T n 11 (k8 T n o) then oV T n (oN T n 12 (k9 T n o)) else -1 from rfl, if_neg nw]
    · exact c10.2.2 q i i1 (by omega)
  · have eo : kO T n k o = oNum T n 0 (k - 1) (oN T n 12 (k9 T n o)) := by
      unfold kO
      by_cases gw : oW T n 11 (k8 T n o) = true
      · rw [if_pos gw]
      · rw [if_neg gw]
        by_cases gg : gd (k9 T n o) = true
        · have b1 := (bb gg).2 gw
          rw [show rI X (7 + 2) (k * 8 + 6).toNat = _ from v6v gg, iz_le (by omega) (by omega) (by omega) (by omega)] at gx
          omega
        · rw [ba_N gg, ba_num gg]
    obtain ⟨M11, e11, f11, h11⟩ := cNeed ht c10.2.1 (k := 12) (by omega)
    have S11 := h11.x.1
    have c11 := c10.mv f11 h11 (fun q => gp_N q)
    obtain ⟨v12, M12, e12, f12, h12, w12⟩ := cNmb ht h11 (lo := 0) (hi := k - 1) (by omega) (by omega) (by omega) (by omega)
    obtain ⟨N12, u12, c12⟩ := cKs k0 k1 (j := 7) (by omega) (by omega) c11 f12 h12 (fun q => gp_num q) (v := v12) (fun q => by
      have gg : gd (k9 T n o) = true := gp_N (gp_num q)
      have gw : oW T n 11 (k8 T n o) = true := by
        by_cases gw : oW T n 11 (k8 T n o) = true
        · exact gw
        · have b1 := (bb gg).2 gw
          rw [show rI X (7 + 2) (k * 8 + 6).toNat = _ from v6v gg, iz_le (by omega) (by omega) (by omega) (by omega)] at gx
          omega
      rw [(w12 q).1, show kF T n o 7 = if oW T n 11 (k8 T n o) then oV T n (oN T n 12 (k9 T n o)) else -1 from rfl, if_pos gw])
    have S12 := c12.s
    have y3 : rI N12 7 3 = iz k := by rw [c12.1.ri (fun q => by unfold AK AC6 at q; omega)]; exact hk
    rw [if_neg gx, cv_eq (kd_6 SX), show F_Read_needWord 6 112 X = _ from e11, bV_eq, fR_eq (kd_6 S11) (rr_6_0 S11), cv_eq (kd_6 S11), iz_sub, e12, bI_eq, cv_eq (kd_7 h12.x.1), show F_Scen_setKind 7 (iz k) 7 v12 M12 = _ from u12, bV_eq, fR_eq (kd_6 S12) (rr_6_0 S12), fI_eq (kd_7 S12), y3, iz_add, sI_eq (kd_7 S12), eo]
    have fx : Fr (fun b j => AK k b j ∨ (b = 7 ∧ j = 3)) N12 (wI N12 7 3 (iz (k + 1))) := Fr.wI (Or.inr ⟨rfl, rfl⟩)
    refine ⟨_, rfl, (c12.1.mono (fun b j q => Or.inl q)).trans fx, c12.2.1.f (Fr.wI (A := fun b _ => b = 7) rfl) (fun b j q => by omega), fun q i i1 i2 => ?_, by rw [rI_at rfl rfl]⟩
    rw [rI_ne (by omega)]
    exact c12.2.2 q i i1 (by omega)
end KindB
