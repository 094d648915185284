section MWC
variable {G : mG} {M : mI} {Z : mZ}
theorem mIn_of {h : mH} {al : mAl} {s U : State} {H : Heap} {locs : List Loc} (hsz : H.size = al.1) (hP : mP G h H) (hK : va_K (gD G) vwCl (gT G) s) (hgS : gS G s s.heap) (hB : gB G ≤ s.heap.size) (hS : va_S (gA G) s.heap H locs) (hU : U.heap = H) (hW : s.WarmedH U.vm) : mIn G h al.1 U :=
  ⟨by rw [hU]; exact hsz, by rw [hU]; exact hP, va_K.moved hW.alike hK, gS_call hgS hS hU hW, by have := hS.1; omega⟩
theorem mWd_g {a kind b : Nat} (hw : mWok a kind b) : ∀ w ∈ mWd (mtab a), w ∈ lw_g := by
  intro w h
  rcases List.mem_cons.mp h with rfl | h
  · exact hw.1
  · exact h
theorem MW.callV {post : Option Value → mH → Prop} {pc idx a b x : Nat} {fs : List Value} {As r : List Value} {L : mL} {h : mH} {al : mAl} {d : Nat} (hR : d ≤ Z.1.frames ∧ 64 * d ≤ Z.1.locals) (h1 : 1 ≤ d) (hst : mstW r ≤ 8) (hx0 : h x = some (.inr (mCls (mtab a), fs))) (hl : Cond.methodLink (mOwn (mCls M)) idx (mNm (mtab a)) ∈ lw_g) (hw : mWok a 0 b) (hn : As.length = b) (hd : decode (mCd M) pc = .ok (.invokevirtual idx, 3))
    (k : MC G (mtab a) (d - 1) 0 0 (.ref x :: As) h al.1 post) (hk : ∀ rv h', post rv h' → MW G M Z (pc + 3) L (rv.toList ++ r) h' al) : MW G M Z pc L (As.reverse ++ .ref x :: r) h al := by
  intro p e s m args below meth c C X H locs ls hN hP hS hL T hT XX
  have hsz : H.size = al.1 := by have := heap_le hT XX; omega
  have C0 := C
  obtain ⟨hx, hb, -, hml, hown, hts, -, hK, hgS, hB, hnm⟩ := C
  obtain ⟨q0, hq⟩ := mws_at hP hx0
  have hc := hw.2.2.2.2.2.2.2.2 rfl
  cases hcl : vwCl[mCls (mtab a)]? with
  | none => rw [hcl] at hc; cases hc
  | some cq =>
    rw [hcl] at hc
    have hcn : cq.1 = (mNm (mtab a)).cls := Option.some.inj hc
    have hrecv := va_recv hK (mws_P hP H.size) hcl hq
    rw [hcn] at hrecv
    refine mm_call (va_runV (C := (mNm (mtab a)).cls) (b := x) (As := As) (rest := r) (bytes := mCd (mtab a)) (maxL := mMx (mtab a)) (ret := mRt (mtab a)) (n := b) ⟨hx, hb, hml, hown, hts⟩ k
      ⟨callB_of b hts (good_g (mWd_g hw)) rfl rfl rfl (hts _ hw.2.2.2.2.1) (hts _ hl) hw.2.2.2.2.2.1 ⟨by show d - 1 + 1 ≤ _; omega, by show 8 + (mMx (mtab a) + 11) + 64 * (d - 1) ≤ _; have := hw.2.2.2.2.2.2.1.2.1; omega⟩, hts _ (hw.2.2.1 (by decide)), hts _ (hw.2.2.2.1 rfl)⟩
      ⟨mIn_blind, hrecv, fun U hU hW => ⟨rfl, mIn_of hsz hP hK hgS hB hS hU hW⟩⟩ rfl hn hL.1 rfl (by show 2 * 0 + _ ≤ 8; unfold mstW at hst; omega) hd ⟨by show al.2.1 + 0 ≤ _; omega, by show al.2.2 + 0 ≤ _; omega⟩) hS (fun rv h' H1 locs1 hpost hs1 hP1 hS1 => ?_) T hT XX
    exact hk _ _ hpost p e s m args below meth c C0 X H1 locs1 ls ⟨hN.1, by omega, hN.2.2⟩ hP1 hS1 hL
theorem MW.callS {post : Option Value → mH → Prop} {pc idx a b : Nat} {As r : List Value} {L : mL} {h : mH} {al : mAl} {d : Nat} (hR : d ≤ Z.1.frames ∧ 64 * d ≤ Z.1.locals) (h1 : 1 ≤ d) (hst : mstW r ≤ 8) (hl : Cond.methodLink (mOwn (mCls M)) idx (mNm (mtab a)) ∈ lw_g) (hw : mWok a 1 b) (hn : As.length = b) (hd : decode (mCd M) pc = .ok (.invokestatic idx, 3))
    (k : MC G (mtab a) (d - 1) 0 0 As h al.1 post) (hk : ∀ rv h', post rv h' → MW G M Z (pc + 3) L (rv.toList ++ r) h' al) : MW G M Z pc L (As.reverse ++ r) h al := by
  intro p e s m args below meth c C X H locs ls hN hP hS hL T hT XX
  have hsz : H.size = al.1 := by have := heap_le hT XX; omega
  have C0 := C
  obtain ⟨hx, hb, -, hml, hown, hts, -, hK, hgS, hB, hnm⟩ := C
  refine mm_call (va_runS (As := As) (rest := r) (bytes := mCd (mtab a)) (maxL := mMx (mtab a)) (ret := mRt (mtab a)) (n := b) ⟨hx, hb, hml, hown, hts⟩ k
    ⟨callB_of b hts (good_g (mWd_g hw)) rfl rfl rfl (hts _ hw.2.2.2.2.1) (hts _ hl) hw.2.2.2.2.2.1 ⟨by show d - 1 + 1 ≤ _; omega, by show 8 + (mMx (mtab a) + 11) + 64 * (d - 1) ≤ _; have := hw.2.2.2.2.2.2.1.2.1; omega⟩, hts _ (hw.2.1 rfl)⟩
    ⟨mIn_blind, fun U hU hW => ⟨rfl, mIn_of hsz hP hK hgS hB hS hU hW⟩⟩ rfl hn hL.1 rfl (by show 2 * 0 + _ ≤ 8; unfold mstW at hst; omega) hd ⟨by show al.2.1 + 0 ≤ _; omega, by show al.2.2 + 0 ≤ _; omega⟩) hS (fun rv h' H1 locs1 hpost hs1 hP1 hS1 => ?_) T hT XX
  exact hk _ _ hpost p e s m args below meth c C0 X H1 locs1 ls ⟨hN.1, by omega, hN.2.2⟩ hP1 hS1 hL
theorem MW.callI {post : Option Value → mH → Prop} {pc idx a b x mc ms : Nat} {As r : List Value} {L : mL} {h : mH} {al : mAl} {d : Nat} (hR : d ≤ Z.1.frames ∧ 64 * d ≤ Z.1.locals) (h1 : 1 ≤ d) (hst : mstW r ≤ 8) (hf : al.2.1 + mc ≤ Z.1.cells ∧ al.2.2 + ms ≤ Z.1.slots) (hl : Cond.methodLink (mOwn (mCls M)) idx (mNm (mtab a)) ∈ lw_g ∨ Cond.methodLinkNest (mOwn (mCls M)) idx (mNm (mtab a)) "CornerFronts" ∈ lw_n) (hw : mWok a 2 b) (hn : As.length = b) (hd : decode (mCd M) pc = .ok (.invokespecial idx, 3))
    (k : MC G (mtab a) (d - 1) mc ms (.ref x :: As) h al.1 post) (hk : ∀ rv h', post rv h' → MW G M Z (pc + 3) L (rv.toList ++ r) h' (al.1 + mc, al.2.1 + mc, al.2.2 + ms)) : MW G M Z pc L (As.reverse ++ .ref x :: r) h al := by
  intro p e s m args below meth c C X H locs ls hN hP hS hL T hT XX
  have hsz : H.size = al.1 := by have := heap_le hT XX; omega
  have C0 := C
  obtain ⟨hx, hb, -, hml, hown, hts, -, hK, hgS, hB, hnm⟩ := C
  obtain ⟨hnm2, hrt2⟩ := hw.2.2.2.2.2.2.2.1 rfl
  have hwd : mWd (mtab a) = Cond.code (mNm (mtab a)) (mCd (mtab a)) (mMx (mtab a)) none :: lw_g := by unfold mWd; rw [hrt2]
  rcases hl with hl | hl
  · refine mm_call (va_runI (b := x) (As := As) (rest := r) (bytes := mCd (mtab a)) (maxL := mMx (mtab a)) (n := b) ⟨hx, hb, hml, hown, hts⟩ k
      ⟨callB_of b hts (good_g (mWd_g hw)) hwd rfl rfl (hts _ hw.2.2.2.2.1) (hts _ hl) hw.2.2.2.2.2.1 ⟨by show d - 1 + 1 ≤ _; omega, by show 8 + (mMx (mtab a) + 11) + 64 * (d - 1) ≤ _; have := hw.2.2.2.2.2.2.1.2.1; omega⟩, hnm2, hts _ (hw.2.2.1 (by decide))⟩
      ⟨mIn_blind, fun U hU hW => ⟨rfl, mIn_of hsz hP hK hgS hB hS hU hW⟩⟩ rfl hn hL.1 rfl (by show 2 * 0 + _ ≤ 8; unfold mstW at hst; omega) hd hf) hS (fun rv h' H1 locs1 hpost hs1 hP1 hS1 => ?_) T hT XX
    exact hk _ _ hpost p e s m args below meth c C0 X H1 locs1 ls ⟨by show al.1 + mc = _ + (al.2.1 + mc); omega, by show al.1 + mc ≤ _; omega, hf⟩ hP1 hS1 hL
  · refine mm_call (va_runIN (b := x) (As := As) (rest := r) (bytes := mCd (mtab a)) (maxL := mMx (mtab a)) (n := b) (host := "CornerFronts") ⟨hx, hb, hml, hown, hts⟩ k
      ⟨va_cnB b hts (good_g (mWd_g hw)) hwd rfl rfl (hgS.1 _ hl) (hts _ hw.2.2.2.2.1) hw.2.2.2.2.2.1 ⟨by show d - 1 + 1 ≤ _; omega, by show 8 + (mMx (mtab a) + 11) + 64 * (d - 1) ≤ _; have := hw.2.2.2.2.2.2.1.2.1; omega⟩, hnm2, hts _ (hw.2.2.1 (by decide))⟩
      ⟨mIn_blind, fun U hU hW => ⟨rfl, mIn_of hsz hP hK hgS hB hS hU hW⟩⟩ rfl hn hL.1 rfl (by show 2 * 0 + _ ≤ 8; unfold mstW at hst; omega) hd hf) hS (fun rv h' H1 locs1 hpost hs1 hP1 hS1 => ?_) T hT XX
    exact hk _ _ hpost p e s m args below meth c C0 X H1 locs1 ls ⟨by show al.1 + mc = _ + (al.2.1 + mc); omega, by show al.1 + mc ≤ _; omega, hf⟩ hP1 hS1 hL
theorem MW.objI {pc idx x : Nat} {r : List Value} {L : mL} {h : mH} {al : mAl} {d : Nat} (hR : d ≤ Z.1.frames ∧ 64 * d ≤ Z.1.locals) (h1 : 1 ≤ d) (hst : mstW r ≤ 8) (hl : Cond.methodLink (mOwn (mCls M)) idx objectInit ∈ lw_g) (hd : decode (mCd M) pc = .ok (.invokespecial idx, 3))
    (k : MW G M Z (pc + 3) L r h al) : MW G M Z pc L (.ref x :: r) h al := by
  intro p e s m args below meth c C X H locs ls hN hP hS hL
  have kk := k p e s m args below meth c C X H locs ls hN hP hS hL
  obtain ⟨hx, hb, -, hml, hown, hts, -, hK, hgS, hB, hnm⟩ := C
  have hw : ∀ w, w ∈ lw_tbl → goodWord w = true → w.before args s = true := fun w a b => hts w (List.mem_filter.mpr ⟨a, b⟩)
  exact W.objInit hx hb hown (hts _ hl) (hw _ posS_ok.1 rfl) (hw _ posS_ok.2.1 rfl) rfl (hL.1.trans hml.symm) rfl hd (by omega) (by show 2 * 0 + _ + 12 ≤ _; unfold mstW at hst; omega) kk
theorem MW.mth {pc idx : Nat} {st r : List Value} {v : Int32} {L : mL} {h : mH} {al : mAl} {d : Nat} (hR : d ≤ Z.1.frames ∧ 64 * d ≤ Z.1.locals) (h1 : 1 ≤ d) (hst : mstW r ≤ 8) (hd : decode (mCd M) pc = .ok (.invokestatic idx, 3))
    (hl : (∃ x y : Int32, Cond.methodLink (mOwn (mCls M)) idx Lib.Math.max.name ∈ lw_g ∧ st = .int y :: .int x :: r ∧ v = if x < y then y else x) ∨ (∃ x y : Int32, Cond.methodLink (mOwn (mCls M)) idx Lib.Math.min.name ∈ lw_g ∧ st = .int y :: .int x :: r ∧ v = if y < x then y else x) ∨ (∃ x : Int32, Cond.methodLink (mOwn (mCls M)) idx Lib.Math.abs.name ∈ lw_g ∧ st = .int x :: r ∧ v = if 0 ≤ x then x else 0 - x))
    (k : MW G M Z (pc + 3) L (.int v :: r) h al) : MW G M Z pc L st h al := by
  intro p e s m args below meth c C X H locs ls hN hP hS hL
  have kk := k p e s m args below meth c C X H locs ls hN hP hS hL
  obtain ⟨hx, hb, -, hml, hown, hts, -, hK, hgS, hB, hnm⟩ := C
  have hw : ∀ w, w ∈ lw_tbl → goodWord w = true → w.before args s = true := fun w a b => hts w (List.mem_filter.mpr ⟨a, b⟩)
  have hlo : (r.map fun v => v.category).sum + 13 ≤ Z.1.locals := by unfold mstW at hst; omega
  have hfr : 1 ≤ Z.1.frames := by omega
  have P := posMt_ok
  rcases hl with ⟨x, y, hl, rfl, rfl⟩ | ⟨x, y, hl, rfl, rfl⟩ | ⟨x, hl, rfl, rfl⟩
  · exact va_mmax hx hb (hml.trans hL.1.symm) hown (hts _ hl) (hw _ P.1 rfl) (hw _ P.2.2.2.2.2.2 rfl) (hw _ P.2.1 rfl) hfr hlo hN.2.2.1 hN.2.2.2 hd kk
  · exact va_mmin hx hb (hml.trans hL.1.symm) hown (hts _ hl) (hw _ P.2.2.1 rfl) (hw _ P.2.2.2.2.2.2 rfl) (hw _ P.2.2.2.1 rfl) hfr hlo hN.2.2.1 hN.2.2.2 hd kk
  · exact va_mabs hx hb (hml.trans hL.1.symm) hown (hts _ hl) (hw _ P.2.2.2.2.1 rfl) (hw _ P.2.2.2.2.2.2 rfl) (hw _ P.2.2.2.2.2.1 rfl) hfr hlo hN.2.2.1 hN.2.2.2 hd kk
theorem MW.ldc2 {pc idx : Nat} {w : Int64} {r : List Value} {L : mL} {h : mH} {al : mAl} (hr : rTabL.any (fun q => q.1 == mCls M && (q.2.1 == idx && q.2.2.1 == w)) = true) (hd : decode (mCd M) pc = .ok (.ldc2_w idx, 3))
    (k : MW G M Z (pc + 3) L (.long w :: r) h al) : MW G M Z pc L r h al := by
  intro p e s m args below meth c C X H locs ls hN hP hS hL
  have kk := k p e s m args below meth c C X H locs ls hN hP hS hL
  obtain ⟨hx, hb, -, hml, hown, hts, -, hK, hgS, hB, hnm⟩ := C
  obtain ⟨q, hq, h2⟩ := List.any_eq_true.mp hr
  simp only [Bool.and_eq_true, beq_iff_eq] at h2
  obtain ⟨e1, rfl, rfl⟩ := h2
  have ok := of_decide_eq_true (List.all_eq_true.mp tabL_ok q hq)
  rw [e1] at ok
  exact lv_ldc2 hx hb hown (hts _ (mem_g ok rfl)) hd kk
end MWC
