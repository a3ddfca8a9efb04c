/-! ===== twins ===== -/
section FrTwin
variable {M M0 : am_M} {S : Sc} {t : Int} {L O : List Int}
def par (c : Int) : Int := if c % 16 = 0 then (if c % 256 = 0 then -1 else c - c % 256) else c - c % 16
theorem cPar {c : Int} (h1 : 0 ≤ c) (h2 : c < 2147483648) : F_NS_codeOfParent (iz c) M = some (some (.int (iz (par c))), M) := by
  unfold F_NS_codeOfParent par
  rw [show (15 : Int32) = iz 15 from rfl, show (255 : Int32) = iz 255 from rfl, show (-256 : Int32) = iz (-256) from rfl, show (-16 : Int32) = iz (-16) from rfl, show (-1 : Int32) = iz (-1) from rfl, show (0 : Int32) = iz 0 from rfl, iz_15 h1 h2, iz_255 h1 h2, iz_n16 h1 h2, iz_n256 h1 h2, ifQ (by omega) (by omega) (by omega) (by omega), ifQ (by omega) (by omega) (by omega) (by omega)]
  by_cases g : c % 16 = 0
  · rw [if_pos g, if_pos g]
    by_cases g2 : c % 256 = 0
    · rw [if_pos g2, if_pos g2]
    · rw [if_neg g2, if_neg g2]
  · rw [if_neg g, if_neg g]
/-- the other child of its parent -/
def sib (c : Int) : Int := if c % 16 = 0 then (if c / 16 % 16 = 1 then c + 16 else c - 16) else (if c % 16 = 1 then c + 1 else c - 1)
def twA (S : Sc) (t c : Int) : Prop := gen c ≠ 0 ∧ inFr S t (sib c) ∧ c < sib c
def twZ (S : Sc) (t c : Int) : Prop := gen c ≠ 0 ∧ inFr S t (sib c) ∧ sib c < c
def twB (S : Sc) (t c : Int) : Prop := gen c ≠ 0 ∧ inFr S t (sib c)
theorem gen_p (c : Int) : gen c ≠ 0 ↔ par c ≠ -1 ∨ (c % 16 ≠ 0 ∧ c - c % 16 = -1) ∨ (c % 256 ≠ 0 ∧ c % 16 = 0 ∧ c - c % 256 = -1) := by
  unfold gen par
  split
  · split <;> omega
  · omega
theorem par_n {c : Int} (h : 0 ≤ c) : par c = -1 ↔ gen c = 0 := by
  unfold gen par
  split
  · split <;> omega
  · omega
theorem par_c (c : Int) : (c % 256 = 0 ∧ par c = -1) ∨ (c % 16 = 0 ∧ c % 256 ≠ 0 ∧ par c = c - c % 256) ∨ (c % 16 ≠ 0 ∧ par c = c - c % 16) := by
  unfold par
  by_cases q : c % 16 = 0
  · rw [if_pos q]
    by_cases q2 : c % 256 = 0
    · rw [if_pos q2]; exact Or.inl ⟨q2, rfl⟩
    · rw [if_neg q2]; exact Or.inr (Or.inl ⟨q, q2, rfl⟩)
  · rw [if_neg q]; exact Or.inr (Or.inr ⟨q, rfl⟩)
theorem sib_c (c : Int) : (c % 16 = 0 ∧ c / 16 % 16 = 1 ∧ sib c = c + 16) ∨ (c % 16 = 0 ∧ c / 16 % 16 ≠ 1 ∧ sib c = c - 16) ∨ (c % 16 = 1 ∧ sib c = c + 1) ∨ (c % 16 ≠ 0 ∧ c % 16 ≠ 1 ∧ sib c = c - 1) := by
  unfold sib
  by_cases q : c % 16 = 0
  · rw [if_pos q]
    by_cases q2 : c / 16 % 16 = 1
    · rw [if_pos q2]; exact Or.inl ⟨q, q2, rfl⟩
    · rw [if_neg q2]; exact Or.inr (Or.inl ⟨q, q2, rfl⟩)
  · rw [if_neg q]
    by_cases q2 : c % 16 = 1
    · rw [if_pos q2]; exact Or.inr (Or.inr (Or.inl ⟨q2, rfl⟩))
    · rw [if_neg q2]; exact Or.inr (Or.inr (Or.inr ⟨q, q2, rfl⟩))
theorem sib_u (hk : scOK S) {c d : Int} (hc : isSp S c) (hd : isSp S d) (hg : gen c ≠ 0) : (par d = par c ∧ d ≠ c) ↔ (d = sib c) := by
  have a := sp_line hk hc
  have b := sp_line hk hd
  have c0 := hc.1
  have d0 := hd.1
  have g := gen_c c
  have pc := par_c c
  have pd := par_c d
  have sc := sib_c c
  generalize par c = x at pc ⊢
  generalize par d = y at pd ⊢
  generalize sib c = z at sc ⊢
  generalize gen c = w at hg g
  rcases pc with pc | pc | pc <;> rcases sc with sc | sc | sc | sc <;> rcases pd with pd | pd | pd <;> omega
theorem cnt_ot {p : Int → Prop} {c : Int} (h : p c) : cnt p [c] = 1 := by unfold cnt; rw [lsm, lsm, if_pos h]; rfl
theorem cnt_of {p : Int → Prop} {c : Int} (h : ¬ p c) : cnt p [c] = 0 := by unfold cnt; rw [lsm, lsm, if_neg h]; rfl
theorem sib_b (hk : scOK S) {c e : Int} (hc : isSp S c) (he : isSp S e) (hg : gen c ≠ 0) (h1 : c + 3 ≤ e) (h2 : e < sib c) : False := by
  have a := sp_line hk hc
  have b := sp_line hk he
  have g := gen_c c
  unfold sib at h2
  by_cases q : c % 16 = 0
  · rw [if_pos q] at h2
    by_cases q2 : c / 16 % 16 = 1
    · rw [if_pos q2] at h2; omega
    · rw [if_neg q2] at h2; omega
  · rw [if_neg q] at h2
    by_cases q2 : c % 16 = 1
    · rw [if_pos q2] at h2; omega
    · rw [if_neg q2] at h2; omega
theorem sib_i (hk : scOK S) {c : Int} (hc : isSp S c) (hg : gen c ≠ 0) : sib (sib c) = c ∧ sib c ≠ c ∧ gen (sib c) ≠ 0 := by
  have a := sp_line hk hc
  have g := gen_c c
  have g2 := gen_c (sib c)
  by_cases q : c % 16 = 0
  · by_cases q2 : c / 16 % 16 = 1
    · have e : sib c = c + 16 := by unfold sib; rw [if_pos q, if_pos q2]
      rw [e] at g2 ⊢
      refine ⟨?_, by omega, by omega⟩
      unfold sib
      rw [if_pos (by omega), if_neg (by omega)]; omega
    · have e : sib c = c - 16 := by unfold sib; rw [if_pos q, if_neg q2]
      rw [e] at g2 ⊢
      refine ⟨?_, by omega, by omega⟩
      unfold sib
      rw [if_pos (by omega), if_pos (by omega)]; omega
  · by_cases q2 : c % 16 = 1
    · have e : sib c = c + 1 := by unfold sib; rw [if_neg q, if_pos q2]
      rw [e] at g2 ⊢
      refine ⟨?_, by omega, by omega⟩
      unfold sib
      rw [if_neg (by omega), if_neg (by omega)]; omega
    · have e : sib c = c - 1 := by unfold sib; rw [if_neg q, if_neg q2]
      rw [e] at g2 ⊢
      refine ⟨?_, by omega, by omega⟩
      unfold sib
      rw [if_neg (by omega), if_pos (by omega)]; omega
theorem cnt_1s {s : Int} {p : Int → Prop} {K : List Int} (hn : K.Nodup) (hp : ∀ d ∈ K, (p d ↔ d = s)) (hs : s ∈ K) : cnt p K = 1 := by
  rw [cnt_flt]
  have : (flt p K).Perm [s] := (List.perm_ext_iff_of_nodup (List.Pairwise.filter _ hn) (by simp)).mpr (fun d => by
    show d ∈ flt p K ↔ _
    rw [flt_mem, List.mem_singleton]
    exact ⟨fun q => (hp d q.1).mp q.2, fun q => by rw [q]; exact ⟨hs, (hp s hs).mpr rfl⟩⟩)
  rw [this.length_eq]; rfl
/-- what one spark's turn counts -/
theorem tw_i (hk : scOK S) (hL : FL S t L) {i : Nat} {c : Int} (hi : L[i]? = some c) (hg : gen c ≠ 0) : (twA S t c → cnt (fun d => par d = par c) ((L.drop (i + 1)).take 6) = 1) ∧ (¬ twA S t c → cnt (fun d => par d = par c) ((L.drop (i + 1)).take 6) = 0) := by
  have il := (List.getElem?_eq_some_iff.mp hi).1
  have fc := (hL.2 c).mp (List.mem_of_getElem? hi)
  have pw := List.pairwise_iff_getElem.mp hL.1
  have up : ∀ (j : Nat) d, i < j → L[j]? = some d → c < d := fun j d hij hj => by
    obtain ⟨jl, ej⟩ := List.getElem?_eq_some_iff.mp hj
    obtain ⟨il', ei⟩ := List.getElem?_eq_some_iff.mp hi
    have := pw i j il' jl hij
    rw [ei, ej] at this; exact this
  have mem : ∀ d, d ∈ (L.drop (i + 1)).take 6 → inFr S t d ∧ c < d := fun d hd => by
    have hd' := List.mem_of_mem_take hd
    obtain ⟨m, hm⟩ := List.mem_iff_getElem?.mp hd'
    rw [List.getElem?_drop] at hm
    exact ⟨(hL.2 d).mp (List.mem_of_getElem? hm), up (i + 1 + m) d (by omega) hm⟩
  have pr : ∀ d ∈ (L.drop (i + 1)).take 6, (par d = par c ↔ d = sib c) := fun d hd => by
    obtain ⟨fd, lt⟩ := mem d hd
    rw [← sib_u hk fc.1 fd.1 hg]
    exact ⟨fun q => ⟨q, by omega⟩, fun q => q.1⟩
  have nd : ((L.drop (i + 1)).take 6).Nodup := List.Nodup.sublist ((List.take_sublist _ _).trans (List.drop_sublist _ _)) (pw_nd hL.1)
  refine ⟨fun ⟨_, fs, lt⟩ => cnt_1s nd pr ?_, fun hn => cnt_none (fun d hd q => hn ?_)⟩
  · obtain ⟨j, jl, ej⟩ := List.mem_iff_getElem.mp ((hL.2 _).mpr fs)
    have ij : i < j := by
      rcases Nat.lt_trichotomy i j with z | z | z
      · exact z
      · exfalso
        subst z
        rw [List.getElem?_eq_getElem jl, ej] at hi
        have : sib c = c := by simpa using hi
        omega
      · exfalso
        obtain ⟨il', ei⟩ := List.getElem?_eq_some_iff.mp hi
        have := pw j i jl il' z
        rw [ei, ej] at this; omega
    have j4 : j ≤ i + 3 := by
      rcases Nat.lt_or_ge (i + 3) j with z | z
      · exfalso
        obtain ⟨il', ei⟩ := List.getElem?_eq_some_iff.mp hi
        have a1 := pw i (i + 1) il' (by omega) (by omega)
        have a2 := pw (i + 1) (i + 2) (by omega) (by omega) (by omega)
        have a3 := pw (i + 2) (i + 3) (by omega) (by omega) (by omega)
        have a4 := pw (i + 3) j (by omega) jl z
        have f3 := (hL.2 (L[i + 3]'(by omega))).mp (List.getElem_mem _)
        rw [ei] at a1
        rw [ej] at a4
        exact sib_b hk fc.1 f3.1 hg (by omega) a4
      · exact z
    rw [List.mem_iff_getElem?]
    refine ⟨j - (i + 1), ?_⟩
    rw [List.getElem?_take, if_pos (by omega), List.getElem?_drop, show i + 1 + (j - (i + 1)) = j by omega, List.getElem?_eq_getElem jl, ej]
  · obtain ⟨fd, lt⟩ := mem d hd
    have e := (pr d hd).mp q
    rw [e] at fd lt
    exact ⟨hg, fd, lt⟩
theorem cTwiL (h : SH M) (ha : FrA M) (hk : scOK S) (hK : FrK M S t L O) (k18 : Nat → Int32 → Int32 → am_M → am_R) {i : Nat} (il : i < L.length) {p : Int} (p0 : 0 ≤ p) (p1 : p < 2147483648) : ∀ (r n j : Nat) (v : Int), i < j → j + r = i + 7 → r < n → F_NS_twins_L47 k18 n 0 (iz v) (iz (i : Int)) (iz p) (iz (j : Int)) M = k18 0 (iz (v + 2 * cnt (fun d => par d = p) ((L.drop j).take r))) (iz ((i + 1 : Nat) : Int)) M
  | r, 0, j, v, q0, q1, q2 => by omega
  | 0, n + 1, j, v, q0, q1, q2 => by
    have ll := fr_len hk hK
    rw [F_NS_twins_L47, show (-1 : Int32) = iz (-1) from rfl, ifQ (by omega) p1 (by omega) (by omega), if_neg (by omega), fR_eq (kd_0 h) (rr_0_7 h), fr_l h hK, List.take_zero, show cnt (fun d => par d = p) [] = 0 from rfl, Int.mul_zero, Int.add_zero, ifE (by omega) (by omega) (by omega) (by omega), show (7 : Int32) = iz 7 from rfl, iz_add, ifE (by omega) (by omega) (by omega) (by omega), show (1 : Int32) = iz 1 from rfl, iz_add, nm_eq, show ((i : Int) + 1) = ((i + 1 : Nat) : Int) by omega]
    by_cases g : (L.length : Int) ≤ (j : Int)
    · rw [if_pos g]
    · rw [if_neg g, if_pos (by omega)]
  | r + 1, n + 1, j, v, q0, q1, q2 => by
    have ll := fr_len hk hK
    have ih := fun v => cTwiL h ha hk hK k18 il p0 p1 r n (j + 1) v (by omega) (by omega) (by omega)
    rw [F_NS_twins_L47, show (-1 : Int32) = iz (-1) from rfl, ifQ (by omega) p1 (by omega) (by omega), if_neg (by omega), fR_eq (kd_0 h) (rr_0_7 h), fr_l h hK, ifE (by omega) (by omega) (by omega) (by omega), show (7 : Int32) = iz 7 from rfl, iz_add, ifE (by omega) (by omega) (by omega) (by omega)]
    by_cases g : (L.length : Int) ≤ (j : Int)
    · rw [if_pos g, List.drop_of_length_le (by omega), List.take_nil, show cnt (fun d => par d = p) [] = 0 from rfl, Int.mul_zero, Int.add_zero, show (1 : Int32) = iz 1 from rfl, iz_add, nm_eq, show ((i : Int) + 1) = ((i + 1 : Nat) : Int) by omega]
    have jl : j < L.length := by omega
    have hj : L[j]? = some L[j] := List.getElem?_eq_getElem jl
    have fj := (fr_in hK hj).1
    have cb := sp_rt hk fj.1
    have c0 := fj.1.1
    have pb : -1 ≤ par L[j] ∧ par L[j] < 2147483648 := by unfold par; split <;> (try split) <;> omega
    rw [if_neg g, if_neg (by omega), fR_eq (kd_0 h) (rr_0_7 h), cv_eq (kd_45 h), fr_cd h ha hK hj, bI_eq, cPar c0 (by omega), bI_eq, ifQ (by omega) (by omega) (by omega) p1, show (2 : Int32) = iz 2 from rfl, show (1 : Int32) = iz 1 from rfl, iz_add, iz_add, nm_eq, nm_eq, nm_eq, show ((j : Int) + 1) = ((j + 1 : Nat) : Int) by omega, List.drop_eq_getElem_cons jl, List.take_succ_cons]
    have sp : cnt (fun d => par d = p) (L[j] :: (L.drop (j + 1)).take r) = cnt (fun d => par d = p) [L[j]] + cnt (fun d => par d = p) ((L.drop (j + 1)).take r) := by rw [← cnt_app]; rfl
    by_cases q : par L[j] = p
    · rw [if_pos q, ih, sp, cnt_ot (c := L[j]) (by exact q)]
      show k18 0 (iz (v + 2 + 2 * _)) _ _ = k18 0 (iz (v + 2 * (1 + _))) _ _
      rw [Int.mul_add, ← Int.add_assoc]; rfl
    · rw [if_neg q, ih, sp, cnt_of (c := L[j]) (by exact q), Int.zero_add]
theorem cTwi (h : SH M) (ha : FrA M) (hk : scOK S) (hK : FrK M S t L O) : ∀ (r n i : Nat) (v : Int), i + r = L.length → r < n → F_NS_twins_L18 n 0 (iz v) (iz (i : Int)) M = some (some (.int (iz (v + 2 * cnt (twA S t) (L.drop i)))), M)
  | r, 0, i, v, q1, q2 => by omega
  | 0, n + 1, i, v, q1, q2 => by
    have ll := fr_len hk hK
    rw [F_NS_twins_L18, fR_eq (kd_0 h) (rr_0_7 h), fr_l h hK, ifE (by omega) (by omega) (by omega) (by omega), if_pos (by omega), List.drop_of_length_le (by omega), show cnt (twA S t) [] = 0 from rfl, Int.mul_zero, Int.add_zero]
  | r + 1, n + 1, i, v, q1, q2 => by
    have ll := fr_len hk hK
    have fg := fu_ge
    have il : i < L.length := by omega
    have hi : L[i]? = some L[i] := List.getElem?_eq_getElem il
    have fi := (fr_in hK hi).1
    have cb := sp_rt hk fi.1
    have c0 := fi.1.1
    have sp : cnt (twA S t) (L.drop i) = cnt (twA S t) [L[i]] + cnt (twA S t) (L.drop (i + 1)) := by rw [← cnt_app, List.drop_eq_getElem_cons il]; rfl
    rw [F_NS_twins_L18, fR_eq (kd_0 h) (rr_0_7 h), fr_l h hK, ifE (by omega) (by omega) (by omega) (by omega), if_neg (by omega), fR_eq (kd_0 h) (rr_0_7 h), cv_eq (kd_45 h), fr_cd h ha hK hi, bI_eq, cPar c0 (by omega), bI_eq, nm_eq, show (1 : Int32) = iz 1 from rfl, iz_add, show ((i : Int) + 1) = ((i + 1 : Nat) : Int) by omega, sp]
    by_cases g : gen L[i] = 0
    · obtain ⟨m, hm⟩ : ∃ m, fu = m + 1 := ⟨fu - 1, by omega⟩
      rw [(par_n c0).mpr g, hm, F_NS_twins_L47, if_pos (show iz (-1) = -1 from rfl), nm_eq, cnt_of (c := L[i]) (fun z => z.1 g), Int.zero_add, show (1 : Int32) = iz 1 from rfl, iz_add, show ((i : Int) + 1) = ((i + 1 : Nat) : Int) by omega]
      exact cTwi h ha hk hK r n (i + 1) v (by omega) (by omega)
    · have pn : par L[i] ≠ -1 := fun z => g ((par_n c0).mp z)
      have pb : 0 ≤ par L[i] ∧ par L[i] < 2147483648 := by
        have ln := sp_line hk fi.1
        unfold par at pn ⊢
        split
        · rename_i z
          rw [if_pos z] at pn
          split
          · rename_i z2; rw [if_pos z2] at pn; omega
          · omega
        · omega
      rw [cTwiL h ha hk hK (F_NS_twins_L18 n) il pb.1 pb.2 6 fu (i + 1) v (by omega) (by omega) (by omega)]
      have ti := tw_i hk hK.1 hi g
      by_cases q : twA S t L[i]
      · rw [ti.1 q, cTwi h ha hk hK r n (i + 1) _ (by omega) (by omega), cnt_ot (c := L[i]) (by exact q)]
        show some (some (Value.int (iz (v + 2 * 1 + 2 * _))), M) = some (some (Value.int (iz (v + 2 * (1 + _)))), M)
        rw [Int.mul_add, ← Int.add_assoc]
      · rw [ti.2 q, cTwi h ha hk hK r n (i + 1) _ (by omega) (by omega), cnt_of (c := L[i]) (by exact q), Int.zero_add, Int.mul_zero, Int.add_zero]
theorem tw_2 (hk : scOK S) (hL : FL S t L) : cnt (twB S t) L = 2 * cnt (twA S t) L := by
  have e1 : cnt (twB S t) L = cnt (twA S t) L + cnt (twZ S t) L := cnt_or (fun c hc => by
    have fi := (hL.2 c).mp hc
    unfold twB twA twZ
    by_cases g : gen c ≠ 0
    · have := (sib_i hk fi.1 g).2.1
      refine ⟨⟨fun ⟨a, b⟩ => ?_, fun q => ?_⟩, fun q => by omega⟩
      · rcases Int.lt_or_le c (sib c) with z | z
        · exact Or.inl ⟨a, b, z⟩
        · exact Or.inr ⟨a, b, by omega⟩
      · rcases q with q | q
        · exact ⟨q.1, q.2.1⟩
        · exact ⟨q.1, q.2.1⟩
    · exact ⟨⟨fun q => absurd q.1 g, fun q => by rcases q with q | q <;> exact absurd q.1 g⟩, fun q => g q.1.1⟩)
  have e2 : cnt (twZ S t) L = cnt (twA S t) L := by
    rw [cnt_flt, cnt_flt]
    have nA : (flt (twA S t) L).Nodup := List.Pairwise.filter _ (pw_nd hL.1)
    have nZ : (flt (twZ S t) L).Nodup := List.Pairwise.filter _ (pw_nd hL.1)
    have nM : ((flt (twA S t) L).map sib).Nodup := by
      unfold List.Nodup
      rw [List.pairwise_map]
      refine List.Pairwise.imp_of_mem (fun {a b} ha hb hab e => ?_) nA
      obtain ⟨a1, a2⟩ := flt_mem.mp ha
      obtain ⟨b1, b2⟩ := flt_mem.mp hb
      have ea := (sib_i hk ((hL.2 a).mp a1).1 a2.1).1
      have eb := (sib_i hk ((hL.2 b).mp b1).1 b2.1).1
      exact hab (by rw [← ea, ← eb, e])
    have pm : ((flt (twA S t) L).map sib).Perm (flt (twZ S t) L) := (List.perm_ext_iff_of_nodup nM nZ).mpr (fun d => by
      rw [List.mem_map, flt_mem]
      constructor
      · rintro ⟨c, hc, rfl⟩
        obtain ⟨c1, c2⟩ := flt_mem.mp hc
        have fc := (hL.2 c).mp c1
        obtain ⟨s1, s2, s3⟩ := sib_i hk fc.1 c2.1
        exact ⟨(hL.2 _).mpr c2.2.1, s3, by rw [s1]; exact fc, by rw [s1]; exact c2.2.2⟩
      · rintro ⟨d1, d2⟩
        have fd := (hL.2 d).mp d1
        obtain ⟨s1, s2, s3⟩ := sib_i hk fd.1 d2.1
        exact ⟨sib d, flt_mem.mpr ⟨(hL.2 _).mpr d2.2.1, s3, by rw [s1]; exact fd, by rw [s1]; exact d2.2.2⟩, s1⟩)
    rw [← pm.length_eq, List.length_map]
  omega
end FrTwin
