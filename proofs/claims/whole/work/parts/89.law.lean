/-! the law: its end, its script, its steps -/
theorem MR_eq {h h' : mH} {G : mG} {M : Nat} {S : AS} (e : eqO h h' M (M + 17)) (hR : MR h G M S) : MR h' G M S := by
  obtain ⟨v, a, ⟨h0, h1⟩, hL⟩ := hR
  exact ⟨v, a, ⟨by rw [e M (by omega) (by omega)]; exact h0, fun k a b => by rw [e (M + k) (by omega) (by omega)]; exact h1 k a b⟩, hL⟩
theorem MR_o {h : mH} {G : mG} {M : Nat} {S : AS} (hR : MR h G M S) : ∃ fs, h M = some (.inr (7, fs)) := by
  obtain ⟨v, a, ⟨h0, h1⟩, hL⟩ := hR
  exact ⟨_, h0⟩
theorem XR_eq {h h' : mH} {G : mG} {B : Nat} {S : AS} (hI : SInv S) (e : eqO h h' B (B + 136)) (hX : XR h G B S) : XR h' G B S := by
  have h8 := hI.1
  exact ⟨by rw [e B (by omega) (by omega)]; exact hX.1, TR_eq (fun q a b => e q (by omega) (by omega)) hX.2.1, by rw [e (B + 3) (by omega) (by omega)]; exact hX.2.2.1, by rw [e (B + 4) (by omega) (by omega)]; exact hX.2.2.2.1, FA_eq (fun q a b => e q (by omega) (by omega)) hX.2.2.2.2.1, PA_eq (fun q a b => e q (by omega) (by omega)) hX.2.2.2.2.2.1, WA_eq (fun q a b => e q (by omega) (by omega)) hX.2.2.2.2.2.2.1, SA_eq (fun q a b => e q (by omega) (by omega)) hX.2.2.2.2.2.2.2.1, fun k hk => SR_eq (fun q a b => e q (by unfold xS at a; omega) (by unfold xS at b; omega)) (hX.2.2.2.2.2.2.2.2.1 k hk), fun f hf => FA_eq (fun q a b => e q (by unfold xF at a; omega) (by unfold xF at b; omega)) (hX.2.2.2.2.2.2.2.2.2.1 f hf), fun f hf => FR_eq (fun q a b => e q (by unfold xF at a; omega) (by unfold xF at b; omega)) (hX.2.2.2.2.2.2.2.2.2.2 f hf)⟩
/-- both sides hold the state -/
def LI (h : mH) (G : mG) (B : Nat) (S : AS) : Prop := SInv S ∧ XR h G B S ∧ MR h G (B + 137) S
theorem LI_next {h1 h2 : mH} {G : mG} {B : Nat} {S : AS} (hI : SInv S) (hX : XR h1 G B S) (hk : mKeep h1 h2 (B + 137) (B + 137 + 17)) (hR : MR h2 G (B + 137) S) : LI h2 G B S :=
  ⟨hI, XR_eq hI (eqO_of hk (by omega)) hX, hR⟩
def ZL (b Ln : Nat) (xs : Nat → Int32) (N0 : Nat) : mZ := (room_1, fun below args s => lw_Z below args s, fun args s => args = #[Value.ref b] ∧ va_X b Ln xs s s.heap ∧ b < s.heap.size ∧ s.heap.size = N0)
def retL : Option Value → mH → mAl → Prop := fun r _ al => r = some (.int 1) ∧ al.2.1 ≤ 600000 ∧ al.2.2 ≤ 7302250
section LAW
variable {G : mG} {b Ln : Nat} {xs : Nat → Int32}
theorem ret_law : mRet G ML_law (ZL b Ln xs (gB G)) retL := by
  intro pc L h al
  refine ⟨fun x hd ht hq => ?_, fun x hd ht hq => ?_, fun hd ht hq => ?_⟩
  · obtain ⟨q1, q2, q3⟩ := hq
    cases q1
    intro p e s m args below meth c C X H locs ls hN hP hS hL
    obtain ⟨hx, hb, hr, hml, hown, hts, hlk, hK, hgS, hB, hnm⟩ := C
    obtain ⟨rfl, -, -, hsz⟩ := X
    refine va_forget (fun q hq => ?_) (W.widen (k := 600000) (n := 7302250) q2 q3 (lw_ret hx hb hr hlk hd))
    have : gB G ≤ q.base := hS.2.2 q hq
    omega
  · obtain ⟨n, e1⟩ := ht
    cases e1
  · cases ht
theorem w_o_some {α : Type} {o : Option α} {e : α} (h : ∀ f : α → Prop, w_o o f = f e) : o = some e := by
  have h1 := h (fun x => x = e)
  cases o with
  | none => exact absurd (h1.mpr rfl) (fun z => z)
  | some v =>
    have h2 : (v = e) = (e = e) := h1
    rw [h2.mpr rfl]
/-- one instruction of the law -/
theorem lawS {pc : Nat} {e : mE} {L : mL} {st : List Value} {h : mH} {al : mAl} (hf : ∀ f : mE → Prop, w_o (mft ML_law pc) f = f e) (hw : wpI G 1000 room_1 retL (fun pc L st h al => MW G ML_law (ZL b Ln xs (gB G)) pc L st h al) e L st h al) : MW G ML_law (ZL b Ln xs (gB G)) pc L st h al :=
  MW.step (Z := ZL b Ln xs (gB G)) ⟨by show 1000 ≤ 2048; decide, by show 64 * 1000 ≤ 84000; decide⟩ ret_law gd_L_law.1 (w_o_some hf) (fun _ _ _ _ _ q => q) hw
theorem L_dec {pc : Nat} {e : mE} (hf : ∀ f : mE → Prop, w_o (mft ML_law pc) f = f e) : decode (mCd ML_law) pc = .ok (e.1, e.2.1 - pc) := MW.dec gd_L_law (w_o_some hf)
theorem L_ald {pc : Nat} {i : Int32} {L : mL} {r : List Value} {h : mH} {al : mAl} (hd : decode (mCd ML_law) pc = .ok (.iaload, 1)) (hi : vp_in i Ln) (k : MW G ML_law (ZL b Ln xs (gB G)) (pc + 1) L (.int (xs i.toNatClampNeg) :: r) h al) : MW G ML_law (ZL b Ln xs (gB G)) pc L (.int i :: .ref b :: r) h al := by
  intro p e s m args below meth c C X H locs ls hN hP hS hL
  have kk := k p e s m args below meth c C X H locs ls hN hP hS hL
  obtain ⟨hx, hb, -, hml, hown, hts, -, hK, hgS, hB, hnm⟩ := C
  obtain ⟨-, hX, hbl, hsz⟩ := X
  exact va_sld hx hb hX hbl (fun z => by have : gB G ≤ b := z; omega) hS hi hd kk
theorem L_len {pc : Nat} {L : mL} {r : List Value} {h : mH} {al : mAl} (hd : decode (mCd ML_law) pc = .ok (.arraylength, 1)) (k : MW G ML_law (ZL b Ln xs (gB G)) (pc + 1) L (.int (nI Ln) :: r) h al) : MW G ML_law (ZL b Ln xs (gB G)) pc L (.ref b :: r) h al := by
  intro p e s m args below meth c C X H locs ls hN hP hS hL
  have kk := k p e s m args below meth c C X H locs ls hN hP hS hL
  obtain ⟨hx, hb, -, hml, hown, hts, -, hK, hgS, hB, hnm⟩ := C
  obtain ⟨-, hX, hbl, hsz⟩ := X
  exact va_slen hx hb hX hbl (fun z => by have : gB G ≤ b := z; omega) hS hd kk
/-- the law's locals -/
abbrev LL (b B i : Nat) : mL := [some (.ref b), some (.ref B), some (.ref (B + 137)), some (.int (nI i))]
variable {B i : Nat} {h : mH} {al : mAl} {st : List Value}
theorem L_a1 {pc p1 : Nat} (f0 : ∀ f : mE → Prop, w_o (mft ML_law pc) f = f (.aload_n 1, p1, 1, 0, 0, 0, 0)) (k : MW G ML_law (ZL b Ln xs (gB G)) p1 (LL b B i) (.ref B :: st) h al) : MW G ML_law (ZL b Ln xs (gB G)) pc (LL b B i) st h al := lawS f0 k
theorem L_a2 {pc p1 : Nat} (f0 : ∀ f : mE → Prop, w_o (mft ML_law pc) f = f (.aload_n 2, p1, 2, 0, 0, 0, 0)) (k : MW G ML_law (ZL b Ln xs (gB G)) p1 (LL b B i) (.ref (B + 137) :: st) h al) : MW G ML_law (ZL b Ln xs (gB G)) pc (LL b B i) st h al := lawS f0 k
theorem L_arg {pc p1 p2 p3 p4 : Nat} (k : Nat) {c0 : Int} {v : Int32} (f0 : ∀ f : mE → Prop, w_o (mft ML_law pc) f = f (.aload_n 0, p1, 0, 0, 0, 0, 0)) (f1 : ∀ f : mE → Prop, w_o (mft ML_law p1) f = f (.iload_n 3, p2, 3, 0, 0, 0, 0)) (f2 : ∀ f : mE → Prop, w_o (mft ML_law p2) f = f (.iconst c0, p3, 0, 0, 0, v, 0)) (f3 : ∀ f : mE → Prop, w_o (mft ML_law p3) f = f (.iadd, p4, 0, 0, 0, 0, 0)) (f4 : ∀ f : mE → Prop, w_o (mft ML_law p4) f = f (.iaload, p4 + 1, 0, 0, 0, 0, 0)) (hv : v = nI k) (hk : i + k < Ln) (hL : Ln ≤ 2560)
    (kk : MW G ML_law (ZL b Ln xs (gB G)) (p4 + 1) (LL b B i) (.int (xs (i + k)) :: st) h al) : MW G ML_law (ZL b Ln xs (gB G)) pc (LL b B i) st h al := by
  refine lawS f0 (lawS f1 (lawS f2 (lawS f3 ?_)))
  show MW G ML_law (ZL b Ln xs (gB G)) p4 (LL b B i) (.int (nI i + v) :: .ref b :: st) h al
  rw [hv, nI_add]
  have hd := L_dec f4
  rw [show (p4 + 1) - p4 = 1 by omega] at hd
  refine L_ald hd (vp_in_nI hk (by omega)) ?_
  rw [nI_clamp (by omega)]
  exact kk
theorem L_call {pc idx nx a nb c x : Nat} {v : Int32} {w : Int64} {Mm : mI} {As r fs : List Value} {L : mL} (hf : ∀ f : mE → Prop, w_o (mft ML_law pc) f = f (.invokevirtual idx, nx, a, nb, c, v, w)) (ha : a ≠ 999) (hm : mtab a = Mm) (hp : mpop nb [] st = some (As, .ref x :: r)) (hx : h x = some (.inr (c, fs))) (hst : mstW r ≤ 8)
    (k : MC G Mm 999 0 0 (.ref x :: As) h al.1 (fun rv h' => MW G ML_law (ZL b Ln xs (gB G)) nx L (rv.toList ++ r) h' al)) : MW G ML_law (ZL b Ln xs (gB G)) pc L st h al := by
  refine lawS hf ?_
  show (if a = 999 then False else w_pop nb [] st fun As st => w_r st fun x r => w_ob h x c fun _ => 1 ≤ 1000 ∧ mstW r ≤ 8 ∧ MC G (mtab a) (1000 - 1) 0 0 (.ref x :: As) h al.1 (w_k (fun pc L st h al => MW G ML_law (ZL b Ln xs (gB G)) pc L st h al) nx L r al))
  rw [if_neg ha]
  unfold w_pop
  rw [hp]
  show w_ob h x c fun _ => 1 ≤ 1000 ∧ mstW r ≤ 8 ∧ MC G (mtab a) (1000 - 1) 0 0 (.ref x :: As) h al.1 (w_k (fun pc L st h al => MW G ML_law (ZL b Ln xs (gB G)) pc L st h al) nx L r al)
  refine w_ob_of hx ⟨by decide, hst, ?_⟩
  rw [hm]
  exact k
theorem L_eq {pc nx : Nat} {off : Int} {x : Int32} {L : mL} (hf : ∀ f : mE → Prop, w_o (mft ML_law pc) f = f (.if_icmp .eq off, nx, 1006, 0, 0, 0, 0)) (hs : st = [.int x, .int x]) (k : MW G ML_law (ZL b Ln xs (gB G)) 1006 L [] h al) : MW G ML_law (ZL b Ln xs (gB G)) pc L st h al := by
  subst hs
  refine lawS hf ?_
  show (x = x → MW G ML_law (ZL b Ln xs (gB G)) 1006 L [] h al) ∧ (¬ x = x → MW G ML_law (ZL b Ln xs (gB G)) nx L [] h al)
  exact ⟨fun _ => k, fun n => absurd rfl n⟩
end LAW
