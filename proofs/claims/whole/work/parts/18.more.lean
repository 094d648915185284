/-! instructions beside the evaluator: switches, new arrays, new objects -/
section MWX
variable {G : mG} {M : mI} {Z : mZ}
theorem MW.dec (hg : mGood M) {pc : Nat} {e : mE} (hf : mft M pc = some e) : decode (mCd M) pc = .ok (e.1, e.2.1 - pc) := by
  have hok := mft_ok hg.1 hf
  unfold okE at hok
  simp only [Bool.and_eq_true, decide_eq_true_eq] at hok
  exact hok.1.2
theorem MW.tswIn {pc tgt len : Nat} {dflt lo hi off : Int} {offs : Array Int} {x : Int32} {L : mL} {r : List Value} {h : mH} {al : mAl} (hd : decode (mCd M) pc = .ok (.tableswitch dflt lo hi offs, len)) (h1 : ¬ x.toInt < lo) (h2 : ¬ hi < x.toInt) (ho : offs[(x.toInt - lo).toNat]? = some off) (ht : (pc : Int) + off = (tgt : Int)) (k : MW G M Z tgt L r h al) : MW G M Z pc L (.int x :: r) h al :=
  MW.go (fun hx hb hL k => lv_tableIn hx hb hd h1 h2 ho ht k) k
theorem MW.tswOut {pc tgt len : Nat} {dflt lo hi : Int} {offs : Array Int} {x : Int32} {L : mL} {r : List Value} {h : mH} {al : mAl} (hd : decode (mCd M) pc = .ok (.tableswitch dflt lo hi offs, len)) (h1 : x.toInt < lo ∨ hi < x.toInt) (ht : (pc : Int) + dflt = (tgt : Int)) (k : MW G M Z tgt L r h al) : MW G M Z pc L (.int x :: r) h al :=
  MW.go (fun hx hb hL k => lv_tableOut hx hb hd h1 ht k) k
theorem MW.lsw {pc tgt len : Nat} {dflt off : Int} {ps : Array (Int × Int)} {x : Int32} {L : mL} {r : List Value} {h : mH} {al : mAl} (hd : decode (mCd M) pc = .ok (.lookupswitch dflt ps, len)) (hp : (ps.toList.zip (ps.toList.drop 1)).all (fun (a, next) => a.1 < next.1) = true) (ho : Op.lookupswitch.offset ps.toList dflt x.toInt = off) (ht : (pc : Int) + off = (tgt : Int)) (k : MW G M Z tgt L r h al) : MW G M Z pc L (.int x :: r) h al :=
  MW.go (fun hx hb hL k => lv_lookup hx hb hd hp ho ht k) k
theorem mP_new {h : mH} {H H1 : Heap} {a : Nat} {e : va_E} (hP : mP G h H) (hsz : H.size = a) (hB : gB G ≤ a) (he : va_at (gD G) vwCl (a, e) H1) (o1 : ∀ q : Nat, q < a → H1[q]? = H[q]?) : mP G (mset h a e) H1 := by
  intro y ey hy
  by_cases c : y = a
  · subst c
    rw [mset_same] at hy
    cases hy
    exact ⟨hB, he⟩
  · rw [mset_ne c] at hy
    have h1 := hP y ey hy
    have h2 := h1.2.lt
    exact ⟨h1.1, h1.2.kept (o1 y (by rw [← hsz]; exact h2))⟩
theorem va_S_new {A : Nat → Prop} {H0 H H1 : Heap} {locs : List Loc} {a : Nat} (hS : va_S A H0 H locs) (hsz : H.size = a) (z1 : H1.size = a + 1) (o1 : ∀ q : Nat, q < a → H1[q]? = H[q]?) : va_S A H0 H1 locs :=
  ⟨by have := hS.1; omega, fun q g1 g2 => (o1 q (by have := hS.1; omega)).trans (hS.2.1 q g1 g2), hS.2.2⟩
theorem MW.newa {pc t : Nat} {atype : ArrayType} {ty : FieldType} {n : Int32} {K : Nat} {L : mL} {r : List Value} {h : mH} {al : mAl} (hd : decode (mCd M) pc = .ok (.newarray atype, 2)) (hty : newarray.typeOf atype = ty) (ht : (gT G)[t]? = some (gC G t, ty)) (hdf : defaultValue ty = .int 0) (hra : ∀ (U : State) (cA : ClassId), va_RA U cA ty → U.vm.findClass ("[" ++ ty.toString) = some cA) (hw : Cond.arrayClass ty ∈ lw_tbl)
    (hn : ¬ n < 0) (hK0 : n.toNatClampNeg = K) (hby : K * componentBytes ty ≤ 536870912) (hc : al.2.1 + 1 ≤ Z.1.cells) (hs : al.2.2 + K ≤ Z.1.slots)
    (k : MW G M Z (pc + 2) L (.ref al.1 :: r) (mset h al.1 (.inl (gC G t, K, .inl (fun _ => 0)))) (al.1 + 1, al.2.1 + 1, al.2.2 + K)) : MW G M Z pc L (.int n :: r) h al := by
  intro p e s m args below meth c C X H locs ls hN hP hS hL T hT XX
  have hsz : H.size = al.1 := by have := heap_le hT XX; omega
  have C0 := C
  obtain ⟨hx, hb, -, hml, hown, hts, -, hK, hgS, hB, hnm⟩ := C
  subst hty
  refine (?_ : W p G.1 e Z.1 s m args below meth c H locs al.2.1 al.2.2 (Z.2.1 below args s) (F0 m pc ls (.int n :: r))) T hT XX
  refine va_newaK hx hb (hts _ (List.mem_filter.mpr ⟨hw, rfl⟩)) rfl hd rfl hn hK0 hby hc hs hsz (fun H1 cA e1 z1 o1 hAr hNm => ?_)
  have hcA : cA = gC G t := Option.some.inj (hNm.symm.trans (hra s _ (hK.2 t _ ht).2))
  subst hcA
  refine k p e s m args below meth c C0 X H1 locs ls ⟨by show al.1 + 1 = _ + (al.2.1 + 1); omega, by show al.1 + 1 ≤ _; omega, hc, hs⟩ (mP_new hP hsz (by omega) ?_ o1) (va_S_new hS hsz z1 o1) hL
  show H1[al.1]? = some (vp_cell _ _)
  rw [e1, vp_cell_i, hdf]
theorem MW.new {pc ci idx : Nat} {q : vw_C} {fs : List Value} {L : mL} {r : List Value} {h : mH} {al : mAl} (hd : decode (mCd M) pc = .ok (.new idx, 3)) (hq : vwCl[ci]? = some q) (hl : Cond.classLink (mOwn (mCls M)) idx q.1 ∈ lw_tbl) (hi : Cond.instantiable q.1 q.2.2 ∈ lw_tbl) (hni : Cond.initialized q.1 ∈ lw_tbl) (hfs : ∀ j, j < q.2.2 → defaultValue (tyCl ci j) = vp_V fs j)
    (hc : al.2.1 + 1 ≤ Z.1.cells) (hs : al.2.2 + q.2.2 ≤ Z.1.slots)
    (k : MW G M Z (pc + 3) L (.ref al.1 :: r) (mset h al.1 (.inr (ci, fs))) (al.1 + 1, al.2.1 + 1, al.2.2 + q.2.2)) : MW G M Z pc L r h al := by
  intro p e s m args below meth c C X H locs ls hN hP hS hL T hT XX
  have hsz : H.size = al.1 := by have := heap_le hT XX; omega
  have C0 := C
  obtain ⟨hx, hb, -, hml, hown, hts, -, hK, hgS, hB, hnm⟩ := C
  have hw : ∀ w, w ∈ lw_tbl → goodWord w = true → w.before args s = true := fun w a b => hts w (List.mem_filter.mpr ⟨a, b⟩)
  have hKn := hK.1 ci q hq
  refine (?_ : W p G.1 e Z.1 s m args below meth c H locs al.2.1 al.2.2 (Z.2.1 below args s) (F0 m pc ls r)) T hT XX
  refine W.newcK hx hb hown (hw _ hl rfl) (hw _ hi rfl) (hw _ hni rfl) rfl hd hc hs hKn.2.1 hsz (fun H1 kC hkC e1 z1 o1 => ?_)
  refine k p e s m args below meth c C0 X H1 locs ls ⟨by show al.1 + 1 = _ + (al.2.1 + 1); omega, by show al.1 + 1 ≤ _; omega, hc, hs⟩ (mP_new hP hsz (by omega) ?_ o1) (va_S_new hS hsz z1 o1) hL
  exact ⟨q, hq, (u_born (tyCl ci) hts (u_in_g hq) hKn hkC e1 (cl_facts ci q hq).2.1).to hfs⟩
end MWX
