/-! ===== calls, with what comes back ===== -/
def xV (w : Nat) (r : am_R) : am_R := if 100 ≤ w ∧ w < 140 then r else none
def xI (v : Nat) (i : Int32) (f : Int32 → am_R) : am_R := if (v = 2 ∨ v = 3) ∧ ¬ (i < 0 ∨ 5 ≤ i.toNatClampNeg) then f ((if v = 2 then am_KL else am_KM).getD i.toNatClampNeg 0) else none
def xB (v : Nat) (i : Int32) (f : Int32 → am_R) : am_R := if (200 ≤ v ∧ v < 240) ∧ ¬ (i < 0 ∨ am_sl (v - 200) ≤ i.toNatClampNeg) then f (am_sb (v - 200) i.toNatClampNeg) else none
def xLn (v : Nat) (f : Int32 → am_R) : am_R := if 200 ≤ v ∧ v < 240 then f (Int32.ofNat (am_sl (v - 200))) else none
section RfCalls2
variable {G : am_G} {l : Launch} {X Xc : am_X} {pc : Nat} {ls st rest : List Value} {M : am_M} {o x : am_R} {a b c k idx n : Nat} {y : MethodName} {as As : List Value} {host C : String} {T : u_T} {N : Nat}
theorem r_cvV {f : am_M → am_R} (hc : Ct G l y Xc (.ref b :: As) M x) (hd : decode (xC X) pc = .ok (.invokevirtual idx, 3)) (hb : am_mb y Xc n) (hw1 : Cond.methodLink (xO X) idx y ∈ am_ws) (hw2 : Cond.instanceMethod y ∈ am_ws) (hw3 : Cond.selects C y y ∈ am_ws) (hcl : am_cl[c]? = some (C, T, N)) (hdp : xD Xc + 1 ≤ xD X) (hn : As.length = n) (hst : st = As.reverse ++ .ref b :: rest) (hcat : (rest.map Value.category).sum ≤ 8) (kk : ∀ M1, Rf G l X (pc + 3) ls rest M1 (f M1)) : Rf G l X pc ls st M (cv M b (c + 4) (bV x f)) := by
  unfold cv
  refine Rf.ite (fun hk => ?_) (fun _ => Rf.no)
  rcases hx : x with _ | ⟨_ | v, M1⟩
  · exact Rf.no
  · exact Rf.callV (v1 := none) (M1 := M1) rfl (hx ▸ hc) hd hb hw1 hw2 hw3 hcl hdp hn hst hcat hk (kk M1)
  · exact Rf.no
theorem r_csV {f : am_M → am_R} (hc : Ct G l y Xc as M x) (hd : decode (xC X) pc = .ok (.invokestatic idx, 3)) (hb : am_mb y Xc n) (hw1 : Cond.methodLink (xO X) idx y ∈ am_ws) (hw2 : Cond.static y ∈ am_ws) (hdp : xD Xc + 1 ≤ xD X) (hn : as.length = n) (hst : st = as.reverse ++ rest) (hcat : (rest.map Value.category).sum ≤ 8) (kk : ∀ M1, Rf G l X (pc + 3) ls rest M1 (f M1)) : Rf G l X pc ls st M (bV x f) := by
  rcases hx : x with _ | ⟨_ | v, M1⟩
  · exact Rf.no
  · exact Rf.callS (v1 := none) (M1 := M1) rfl (hx ▸ hc) hd hb hw1 hw2 hdp hn hst hcat (kk M1)
  · exact Rf.no
theorem r_cvI {f : Int32 → am_M → am_R} (hc : Ct G l y Xc (.ref b :: As) M x) (hd : decode (xC X) pc = .ok (.invokevirtual idx, 3)) (hb : am_mb y Xc n) (hw1 : Cond.methodLink (xO X) idx y ∈ am_ws) (hw2 : Cond.instanceMethod y ∈ am_ws) (hw3 : Cond.selects C y y ∈ am_ws) (hcl : am_cl[c]? = some (C, T, N)) (hdp : xD Xc + 1 ≤ xD X) (hn : As.length = n) (hst : st = As.reverse ++ .ref b :: rest) (hcat : (rest.map Value.category).sum ≤ 8) (kk : ∀ r M1, Rf G l X (pc + 3) ls (.int r :: rest) M1 (f r M1)) : Rf G l X pc ls st M (cv M b (c + 4) (bI x f)) := by
  unfold cv
  refine Rf.ite (fun hk => ?_) (fun _ => Rf.no)
  rcases hx : x with _ | ⟨_ | v, M1⟩
  · exact Rf.no
  · exact Rf.no
  · cases v <;> first | exact Rf.no | skip
    rename_i r
    exact Rf.callV (v1 := some (.int r)) (M1 := M1) rfl (hx ▸ hc) hd hb hw1 hw2 hw3 hcl hdp hn hst hcat hk (kk r M1)
theorem r_csI {f : Int32 → am_M → am_R} (hc : Ct G l y Xc as M x) (hd : decode (xC X) pc = .ok (.invokestatic idx, 3)) (hb : am_mb y Xc n) (hw1 : Cond.methodLink (xO X) idx y ∈ am_ws) (hw2 : Cond.static y ∈ am_ws) (hdp : xD Xc + 1 ≤ xD X) (hn : as.length = n) (hst : st = as.reverse ++ rest) (hcat : (rest.map Value.category).sum ≤ 8) (kk : ∀ r M1, Rf G l X (pc + 3) ls (.int r :: rest) M1 (f r M1)) : Rf G l X pc ls st M (bI x f) := by
  rcases hx : x with _ | ⟨_ | v, M1⟩
  · exact Rf.no
  · exact Rf.no
  · cases v <;> first | exact Rf.no | skip
    rename_i r
    exact Rf.callS (v1 := some (.int r)) (M1 := M1) rfl (hx ▸ hc) hd hb hw1 hw2 hdp hn hst hcat (kk r M1)
theorem r_cnI {f : Int32 → am_M → am_R} (hc : Ct G l y Xc as M x) (hd : decode (xC X) pc = .ok (.invokestatic idx, 3)) (hb : am_mb y Xc n) (hw1 : Cond.methodLinkNest (xO X) idx y host ∈ am_ws) (hw2 : Cond.static y ∈ am_ws) (hdp : xD Xc + 1 ≤ xD X) (hn : as.length = n) (hst : st = as.reverse ++ rest) (hcat : (rest.map Value.category).sum ≤ 8) (kk : ∀ r M1, Rf G l X (pc + 3) ls (.int r :: rest) M1 (f r M1)) : Rf G l X pc ls st M (bI x f) := by
  rcases hx : x with _ | ⟨_ | v, M1⟩
  · exact Rf.no
  · exact Rf.no
  · cases v <;> first | exact Rf.no | skip
    rename_i r
    exact Rf.callSN (v1 := some (.int r)) (M1 := M1) rfl (hx ▸ hc) hd hb hw1 hw2 hdp hn hst hcat (kk r M1)
theorem r_cvL {f : Int64 → am_M → am_R} (hc : Ct G l y Xc (.ref b :: As) M x) (hd : decode (xC X) pc = .ok (.invokevirtual idx, 3)) (hb : am_mb y Xc n) (hw1 : Cond.methodLink (xO X) idx y ∈ am_ws) (hw2 : Cond.instanceMethod y ∈ am_ws) (hw3 : Cond.selects C y y ∈ am_ws) (hcl : am_cl[c]? = some (C, T, N)) (hdp : xD Xc + 1 ≤ xD X) (hn : As.length = n) (hst : st = As.reverse ++ .ref b :: rest) (hcat : (rest.map Value.category).sum ≤ 8) (kk : ∀ r M1, Rf G l X (pc + 3) ls (.long r :: rest) M1 (f r M1)) : Rf G l X pc ls st M (cv M b (c + 4) (bL x f)) := by
  unfold cv
  refine Rf.ite (fun hk => ?_) (fun _ => Rf.no)
  rcases hx : x with _ | ⟨_ | v, M1⟩
  · exact Rf.no
  · exact Rf.no
  · cases v <;> first | exact Rf.no | skip
    rename_i r
    exact Rf.callV (v1 := some (.long r)) (M1 := M1) rfl (hx ▸ hc) hd hb hw1 hw2 hw3 hcl hdp hn hst hcat hk (kk r M1)
theorem r_csL {f : Int64 → am_M → am_R} (hc : Ct G l y Xc as M x) (hd : decode (xC X) pc = .ok (.invokestatic idx, 3)) (hb : am_mb y Xc n) (hw1 : Cond.methodLink (xO X) idx y ∈ am_ws) (hw2 : Cond.static y ∈ am_ws) (hdp : xD Xc + 1 ≤ xD X) (hn : as.length = n) (hst : st = as.reverse ++ rest) (hcat : (rest.map Value.category).sum ≤ 8) (kk : ∀ r M1, Rf G l X (pc + 3) ls (.long r :: rest) M1 (f r M1)) : Rf G l X pc ls st M (bL x f) := by
  rcases hx : x with _ | ⟨_ | v, M1⟩
  · exact Rf.no
  · exact Rf.no
  · cases v <;> first | exact Rf.no | skip
    rename_i r
    exact Rf.callS (v1 := some (.long r)) (M1 := M1) rfl (hx ▸ hc) hd hb hw1 hw2 hdp hn hst hcat (kk r M1)
theorem r_cvR {fn : am_M → am_R} {f : Nat → am_M → am_R} (hc : Ct G l y Xc (.ref b :: As) M x) (hd : decode (xC X) pc = .ok (.invokevirtual idx, 3)) (hb : am_mb y Xc n) (hw1 : Cond.methodLink (xO X) idx y ∈ am_ws) (hw2 : Cond.instanceMethod y ∈ am_ws) (hw3 : Cond.selects C y y ∈ am_ws) (hcl : am_cl[c]? = some (C, T, N)) (hdp : xD Xc + 1 ≤ xD X) (hn : As.length = n) (hst : st = As.reverse ++ .ref b :: rest) (hcat : (rest.map Value.category).sum ≤ 8) (kn : ∀ M1, Rf G l X (pc + 3) ls (.null :: rest) M1 (fn M1)) (kk : ∀ r M1, Rf G l X (pc + 3) ls (.ref r :: rest) M1 (f r M1)) : Rf G l X pc ls st M (cv M b (c + 4) (bR x fn f)) := by
  unfold cv
  refine Rf.ite (fun hk => ?_) (fun _ => Rf.no)
  rcases hx : x with _ | ⟨_ | v, M1⟩
  · exact Rf.no
  · exact Rf.no
  · cases v <;> first | exact Rf.no | skip
    · exact Rf.callV (v1 := some .null) (M1 := M1) rfl (hx ▸ hc) hd hb hw1 hw2 hw3 hcl hdp hn hst hcat hk (kn M1)
    · rename_i r
      exact Rf.callV (v1 := some (.ref r)) (M1 := M1) rfl (hx ▸ hc) hd hb hw1 hw2 hw3 hcl hdp hn hst hcat hk (kk r M1)
theorem r_csR {fn : am_M → am_R} {f : Nat → am_M → am_R} (hc : Ct G l y Xc as M x) (hd : decode (xC X) pc = .ok (.invokestatic idx, 3)) (hb : am_mb y Xc n) (hw1 : Cond.methodLink (xO X) idx y ∈ am_ws) (hw2 : Cond.static y ∈ am_ws) (hdp : xD Xc + 1 ≤ xD X) (hn : as.length = n) (hst : st = as.reverse ++ rest) (hcat : (rest.map Value.category).sum ≤ 8) (kn : ∀ M1, Rf G l X (pc + 3) ls (.null :: rest) M1 (fn M1)) (kk : ∀ r M1, Rf G l X (pc + 3) ls (.ref r :: rest) M1 (f r M1)) : Rf G l X pc ls st M (bR x fn f) := by
  rcases hx : x with _ | ⟨_ | v, M1⟩
  · exact Rf.no
  · exact Rf.no
  · cases v <;> first | exact Rf.no | skip
    · exact Rf.callS (v1 := some .null) (M1 := M1) rfl (hx ▸ hc) hd hb hw1 hw2 hdp hn hst hcat (kn M1)
    · rename_i r
      exact Rf.callS (v1 := some (.ref r)) (M1 := M1) rfl (hx ▸ hc) hd hb hw1 hw2 hdp hn hst hcat (kk r M1)
theorem r_ciV {f : am_M → am_R} (hc : Ct G l y Xc (.ref b :: As) M x) (hd : decode (xC X) pc = .ok (.invokespecial idx, 3)) (hb : am_mb y Xc n) (hrt : xT Xc = none) (hy : y.name = "<init>") (hw1 : Cond.methodLink (xO X) idx y ∈ am_ws) (hw2 : Cond.instanceMethod y ∈ am_ws) (hdp : xD Xc + 1 ≤ xD X) (hn : As.length = n) (hst : st = As.reverse ++ .ref b :: rest) (hcat : (rest.map Value.category).sum ≤ 8) (kk : ∀ M1, Rf G l X (pc + 3) ls rest M1 (f M1)) : Rf G l X pc ls st M (bV x f) := by
  rcases hx : x with _ | ⟨_ | v, M1⟩
  · exact Rf.no
  · exact Rf.callI (M1 := M1) rfl (hx ▸ hc) hd hb hrt hy hw1 hw2 hdp hn hst hcat (kk M1)
  · exact Rf.no
theorem r_cinV {f : am_M → am_R} (hc : Ct G l y Xc (.ref b :: As) M x) (hd : decode (xC X) pc = .ok (.invokespecial idx, 3)) (hb : am_mb y Xc n) (hrt : xT Xc = none) (hy : y.name = "<init>") (hw1 : Cond.methodLinkNest (xO X) idx y host ∈ am_ws) (hw2 : Cond.instanceMethod y ∈ am_ws) (hdp : xD Xc + 1 ≤ xD X) (hn : As.length = n) (hst : st = As.reverse ++ .ref b :: rest) (hcat : (rest.map Value.category).sum ≤ 8) (kk : ∀ M1, Rf G l X (pc + 3) ls rest M1 (f M1)) : Rf G l X pc ls st M (bV x f) := by
  rcases hx : x with _ | ⟨_ | v, M1⟩
  · exact Rf.no
  · exact Rf.callIN (M1 := M1) rfl (hx ▸ hc) hd hb hrt hy hw1 hw2 hdp hn hst hcat (kk M1)
  · exact Rf.no
end RfCalls2
