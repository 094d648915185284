/-! loops -/
section LPS
variable {G : mG} {M : mI} {d mc ms : Nat} {post : Option Value → mH → Prop}
/-- one step whatever the stops, then as MW.run -/
theorem MW.run1 (hg : mGood M) (stops : List Nat) (n : Nat) {pc : Nat} {L : mL} {st : List Value} {h : mH} {al : mAl} (hw : w_o (mft M pc) fun e => wpI G d (mRm d mc ms) (mEnd mc ms post) (wpN G M (mz G d mc ms post) d (mEnd mc ms post) stops n) e L st h al) : MW G M (mz G d mc ms post) pc L st h al := by
  obtain ⟨e, he, hw⟩ := w_o_inv hw
  exact MW.step (Z := mz G d mc ms post) ⟨Nat.le_refl _, Nat.le_refl _⟩ mz_ret hg.1 he (fun pc L st h al => wpN_ok ⟨Nat.le_refl _, Nat.le_refl _⟩ mz_ret hg.1 n pc L st h al) hw
theorem MW.upto {Z : mZ} {pc : Nat} {al : mAl} (e : Nat) (I : Nat → mL → mH → Prop) (hs : ∀ (i : Nat) (L : mL) (h : mH), i < e → I i L h → (∀ (L' : mL) (h' : mH), I (i + 1) L' h' → MW G M Z pc L' [] h' al) → MW G M Z pc L [] h al) (hx : ∀ (L : mL) (h : mH), I e L h → MW G M Z pc L [] h al) : ∀ (i : Nat) (L : mL) (h : mH), i ≤ e → I i L h → MW G M Z pc L [] h al := by
  have key : ∀ (n i : Nat) (L : mL) (h : mH), e - i = n → i ≤ e → I i L h → MW G M Z pc L [] h al := by
    intro n
    induction n with
    | zero =>
      intro i L h hn hi hI
      have : i = e := by omega
      subst this
      exact hx L h hI
    | succ n ih =>
      intro i L h hn hi hI
      exact hs i L h (by omega) hI (fun L' h' hI' => ih (i + 1) L' h' (by omega) (by omega) hI')
  exact fun i L h hi hI => key (e - i) i L h rfl hi hI
theorem MW.rept {Z : mZ} {pc : Nat} {al : mAl} (I : Nat → mL → mH → Prop) (hs : ∀ (n : Nat) (L : mL) (h : mH), I n L h → (∀ (m : Nat) (L' : mL) (h' : mH), m < n → I m L' h' → MW G M Z pc L' [] h' al) → MW G M Z pc L [] h al) : ∀ (n : Nat) (L : mL) (h : mH), I n L h → MW G M Z pc L [] h al := by
  intro n
  induction n using Nat.strongRecOn with
  | _ n ih => exact fun L h hI => hs n L h hI (fun m L' h' hm hI' => ih m hm L' h' hI')
end LPS
