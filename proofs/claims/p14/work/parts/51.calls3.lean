/-! each call of the reference that changes no points, letters, start, ends: what it answers -/
def aeEl (w : Int32) : Sx → Int32 → Prop := fun (N, L, lm, _, _) z => (∃ j, j ≤ 3 ∧ w = nI j ∧ LR N L lm (fun M z => z = nI (elN N L lm j M)) z) ∨ (¬ (0 ≤ w ∧ w ≤ nI 3) ∧ z = -1)
theorem YM.im {σ : Hp} {a : Sx} {P Q : Int32 → Prop} {w : Option Value} {τ : Hp} (h : YM σ a P w τ) (k : ∀ z, P z → Q z) : YM σ a Q w τ := by
  obtain ⟨⟨z, h1, h2⟩, h3⟩ := h
  exact ⟨⟨z, h1, k z h2⟩, h3⟩
theorem MS.no {σ : Hp} {a : Sx} {P : Int32 → Prop} {z : Int32} (h : MS σ a) (hz : P z) : ∀ w τ, Rt (.int z) (Th σ) w τ → YM σ a P w τ := by
  obtain ⟨N, L, lm, s, e⟩ := a
  rintro w τ ⟨rfl, rfl⟩
  exact ⟨⟨_, rfl, hz⟩, h.th⟩
theorem m_elements (w : Int32) {σ : Hp} {a : Sx} (h : MS σ a) : Ct m_M_elements [.ref 56, .int w] σ (YM σ a (aeEl w a)) := by
  obtain ⟨N, L, lm, s, e⟩ := a
  by_cases hw : 0 ≤ w ∧ w ≤ nI 3
  · obtain ⟨j, hj, rfl⟩ := wi_nI (by decide) hw
    exact (c_M_elements hj σ h.1 h.2.1 h.2.2.2.2).im (fun w τ hr => (hr.ym h).im (fun z hz => Or.inl ⟨j, hj, rfl, hz⟩))
  · exact (c_M_elements_no w σ hw).im (h.no (Or.inr ⟨hw, rfl⟩))
def aeEm (e w : Int32) : Sx → Int32 → Prop := fun (N, L, lm, _, _) z => (∃ j, j ≤ 7 ∧ w = nI j ∧ LR N L lm (fun M z => Ar M e (fun x => nI (eoN N L lm j x)) z) z) ∨ (¬ (0 ≤ w ∧ w ≤ nI 7) ∧ z = -1)
theorem m_element (x w : Int32) {σ : Hp} {a : Sx} (h : MS σ a) : Ct m_M_element [.ref 56, .int x, .int w] σ (YM σ a (aeEm x w a)) := by
  obtain ⟨N, L, lm, s, e⟩ := a
  by_cases hw : 0 ≤ w ∧ w ≤ nI 7
  · obtain ⟨j, hj, rfl⟩ := wi_nI (by decide) hw
    exact (c_M_element x hj σ h.1 h.2.1 h.2.2.2.2).im (fun w τ hr => (hr.ym h).im (fun z hz => Or.inl ⟨j, hj, rfl, hz⟩))
  · exact (c_M_element_no x w σ hw).im (h.no (Or.inr ⟨hw, rfl⟩))
def aeWo (e i : Int32) : Sx → Int32 → Prop := fun (N, L, lm, _, _) z => LR N L lm (fun M z => Wr N L lm M e i z) z
theorem m_word (x i : Int32) {σ : Hp} {a : Sx} (h : MS σ a) : Ct m_M_word [.ref 56, .int x, .int i] σ (YM σ a (aeWo x i a)) := by
  obtain ⟨N, L, lm, s, e⟩ := a
  exact (c_M_word x i σ h.1 h.2.1 h.2.2.2.2).im (fun w τ hr => hr.ym h)
def aeFi (m : Int32) : Sx → Int32 → Prop := fun (N, L, lm, _, _) z => (∃ k, k < N ^ N ∧ m = nI k ∧ LR N L lm (fun _ z => (hasB (EQ N L lm) k = true ∧ z = nI (psN (EQ N L lm) k)) ∨ (hasB (EQ N L lm) k = false ∧ z = -9)) z) ∨ (¬ (0 ≤ m ∧ m ≤ nI (N ^ N - 1)) ∧ z = -1)
theorem m_find (m : Int32) {σ : Hp} {a : Sx} (h : MS σ a) : Ct m_M_find [.ref 56, .int m] σ (YM σ a (aeFi m a)) := by
  obtain ⟨N, L, lm, s, e⟩ := a
  have hp := pow_lt h.1.2.2
  have hp0 := pow_pos' h.1.2.1
  by_cases hw : 0 ≤ m ∧ m ≤ nI (N ^ N - 1)
  · obtain ⟨k, hk, rfl⟩ := wi_nI (by omega) hw
    have hk2 : k < N ^ N := by omega
    exact (c_M_find hk2 σ h.1 h.2.1 h.2.2.2.2).im (fun w τ hr => (hr.ym h).im (fun z hz => Or.inl ⟨k, hk2, rfl, hz⟩))
  · exact (c_M_find_no m σ h.1 hw).im (h.no (Or.inr ⟨hw, rfl⟩))
def aeDo (x y : Int32) : Sx → Int32 → Prop := fun (N, L, lm, _, _) z => LR N L lm (fun M z => Ar2 M x y (fun x y => nI (psN (EQ N L lm) (bN N (itm (EQ N L lm) x) (itm (EQ N L lm) y)))) z) z
theorem m_done (x y : Int32) {σ : Hp} {a : Sx} (h : MS σ a) : Ct m_M_done [.ref 56, .int x, .int y] σ (YM σ a (aeDo x y a)) := by
  obtain ⟨N, L, lm, s, e⟩ := a
  exact (c_M_done x y σ h.1 h.2.1 h.2.2.2.2).im (fun w τ hr => hr.ym h)
theorem m_boxes (w : Int32) {σ : Hp} {a : Sx} (h : MS σ a) : Ct m_M_boxes [.ref 56, .int w] σ (YM σ a (fun _ => True)) := by
  obtain ⟨N, L, lm, s, e⟩ := a
  by_cases hw : 0 ≤ w ∧ w ≤ nI 7
  · obtain ⟨j, hj, rfl⟩ := wi_nI (by decide) hw
    exact (c_M_boxes hj σ h.1 h.2.1 h.2.2.2.2).im (fun w τ hr => hr.ym h)
  · exact (c_M_boxes_no w σ hw).im (h.no trivial)
theorem m_box (x w : Int32) {σ : Hp} {a : Sx} (h : MS σ a) : Ct m_M_box [.ref 56, .int x, .int w] σ (YM σ a (fun _ => True)) := by
  obtain ⟨N, L, lm, s, e⟩ := a
  by_cases hw : 0 ≤ w ∧ w ≤ nI 3
  · obtain ⟨j, hj, rfl⟩ := wi_nI (by decide) hw
    exact (c_M_box x hj σ h.1 h.2.1 h.2.2.2.2).im (fun w τ hr => hr.ym h)
  · exact (c_M_box_no x w σ hw).im (h.no trivial)
theorem m_about (x w : Int32) {σ : Hp} {a : Sx} (h : MS σ a) : Ct m_M_about [.ref 56, .int x, .int w] σ (YM σ a (fun _ => True)) := by
  obtain ⟨N, L, lm, s, e⟩ := a
  by_cases hw : 0 ≤ w ∧ w ≤ nI 7
  · obtain ⟨j, hj, rfl⟩ := wi_nI (by decide) hw
    exact (c_M_about x hj σ h.1 h.2.1 h.2.2.2.2).im (fun w τ hr => hr.ym h)
  · exact (c_M_about_no x w σ hw).im (h.no trivial)
theorem m_below (i j : Int32) {σ : Hp} {a : Sx} (h : MS σ a) : Ct m_M_below [.ref 56, .int i, .int j] σ (YM σ a (fun _ => True)) := by
  obtain ⟨N, L, lm, s, e⟩ := a
  exact (c_M_below i j σ h.1 h.2.1 h.2.2.2.2).im (fun w τ hr => hr.ym h)
theorem m_ideal (x : Int32) {σ : Hp} {a : Sx} (h : MS σ a) : Ct m_M_ideal [.ref 56, .int x] σ (YM σ a (fun _ => True)) := by
  obtain ⟨N, L, lm, s, e⟩ := a
  exact (c_M_ideal x σ h.1 h.2.1 h.2.2.2.2).im (fun w τ hr => hr.ym h)
theorem m_sort (w : Int32) {σ : Hp} {a : Sx} (h : MS σ a) : Ct m_M_sort [.ref 56, .int w] σ (YM σ a (fun _ => True)) := by
  obtain ⟨N, L, lm, s, e⟩ := a
  by_cases hw : 0 ≤ w ∧ w ≤ nI 6
  · obtain ⟨j, hj, rfl⟩ := wi_nI (by decide) hw
    exact (c_M_sort hj σ h.1 h.2.1 h.2.2.2.2).im (fun w τ hr => hr.ym h)
  · exact (c_M_sort_no w σ hw).im (h.no trivial)
def aeSo (x y b w : Int32) : Sx → Int32 → Prop := fun (N, L, lm, _, _) z => (∃ v k, v ≤ 1 ∧ k ≤ 1 ∧ b = nI v ∧ w = nI k ∧ LR N L lm (fun M z => Ar2 M x y (fun x y => if k = 0 then nI (svC N L lm v x y M) else svL N L lm v x y M) z) z) ∨ (¬ ((0 ≤ b ∧ b ≤ 1) ∧ (0 ≤ w ∧ w ≤ 1)) ∧ z = -1)
theorem m_solve (x y b w : Int32) {σ : Hp} {a : Sx} (h : MS σ a) : Ct m_M_solve [.ref 56, .int x, .int y, .int b, .int w] σ (YM σ a (aeSo x y b w a)) := by
  obtain ⟨N, L, lm, s, e⟩ := a
  by_cases hw : (0 ≤ b ∧ b ≤ 1) ∧ (0 ≤ w ∧ w ≤ 1)
  · obtain ⟨v, hv, rfl⟩ := wi_nI (w := b) (m := 1) (by decide) hw.1
    obtain ⟨k, hk, rfl⟩ := wi_nI (w := w) (m := 1) (by decide) hw.2
    exact (c_M_solve x y hv hk σ h.1 h.2.1 h.2.2.2.2).im (fun w τ hr => (hr.ym h).im (fun z hz => Or.inl ⟨v, k, hv, hk, rfl, rfl, hz⟩))
  · exact (c_M_solve_no x y b w σ hw).im (h.no (Or.inr ⟨hw, rfl⟩))
def aeTo (t i : Int32) : Sx → Int32 → Prop := fun (N, L, lm, _, _) z => (∃ S, 0 < S ∧ S < 2 ^ N ∧ t = nI S ∧ -1 ≤ i ∧ z = fwF (QS N L lm S) (fun x => pcN x = 1) i) ∨ ((¬ (1 ≤ t ∧ t ≤ nI (2 ^ N - 1)) ∨ ¬ -1 ≤ i) ∧ z = -1)
theorem set_nI {N : Nat} {t : Int32} (hN : N ≤ 6) (h : 1 ≤ t ∧ t ≤ nI (2 ^ N - 1)) : ∃ S, 0 < S ∧ S < 2 ^ N ∧ t = nI S := by
  have h26 := pow2_le6 hN
  have h2p : 0 < 2 ^ N := Nat.pow_pos (by decide)
  obtain ⟨S, hS, rfl⟩ := wi_nI (w := t) (m := 2 ^ N - 1) (by omega) ⟨Int32.le_trans (by decide) h.1, h.2⟩
  refine ⟨S, ?_, by omega, rfl⟩
  rcases Nat.eq_zero_or_pos S with rfl | q
  · exact absurd h.1 (by decide)
  · exact q
theorem m_together (t i : Int32) {σ : Hp} {a : Sx} (h : MS σ a) : Ct m_M_together [.ref 56, .int t, .int i] σ (YM σ a (aeTo t i a)) := by
  obtain ⟨N, L, lm, s, e⟩ := a
  by_cases hw : (1 ≤ t ∧ t ≤ nI (2 ^ N - 1)) ∧ -1 ≤ i
  · obtain ⟨S, h0, hS, rfl⟩ := set_nI h.1.2.2 hw.1
    refine (c_M_together i σ h.1 h.2.1 h0 hS hw.2).im ?_
    rintro w τ ⟨rfl, hF⟩
    exact ⟨⟨_, rfl, Or.inl ⟨S, h0, hS, rfl, hw.2, rfl⟩⟩, h.fp hF (by decide) (by decide)⟩
  · have hw' := Decidable.not_and_iff_not_or_not.mp hw
    exact (c_M_together_no (L := L) (lm := lm) t i σ h.1 hw').im (h.no (Or.inr ⟨hw', rfl⟩))
theorem m_lowest (t : Int32) {σ : Hp} {a : Sx} (h : MS σ a) : Ct m_M_lowest [.ref 56, .int t] σ (YM σ a (fun _ => True)) := by
  obtain ⟨N, L, lm, s, e⟩ := a
  by_cases hw : 1 ≤ t ∧ t ≤ nI (2 ^ N - 1)
  · obtain ⟨S, h0, hS, rfl⟩ := set_nI h.1.2.2 hw
    refine (c_M_lowest σ h.1 h.2.1 h0 hS).im ?_
    rintro w τ ⟨rfl, hF⟩
    exact ⟨⟨_, rfl, trivial⟩, h.fp hF (by decide) (by decide)⟩
  · exact (c_M_lowest_no t σ h.1 hw).im (h.no trivial)
def aeAp : Sx → Int32 → Prop := fun (N, L, lm, _, _) z => z = nI (apN N L lm)
theorem m_apart {σ : Hp} {a : Sx} (h : MS σ a) : Ct m_M_apart [.ref 56] σ (YM σ a (aeAp a)) := by
  obtain ⟨N, L, lm, s, e⟩ := a
  refine (c_M_apart σ h.1 h.2.1).im ?_
  rintro w τ ⟨rfl, hF⟩
  exact ⟨⟨_, rfl, rfl⟩, h.fp hF (by decide) (by decide)⟩
def aeCu (x y : Int32) : Sx → Int32 → Prop := fun (N, L, lm, _, _) z => (∃ i j h, i < N ∧ j < N ∧ x = nI i ∧ y = nI j ∧ CtOf N L lm i j h ∧ z = nI (hzN N h)) ∨ ((¬ (0 ≤ x ∧ x ≤ nI (N - 1)) ∨ ¬ (0 ≤ y ∧ y ≤ nI (N - 1))) ∧ z = -1)
theorem pt_nI {N : Nat} {t : Int32} (h0 : 1 ≤ N) (hN : N ≤ 6) (h : 0 ≤ t ∧ t ≤ nI (N - 1)) : ∃ i, i < N ∧ t = nI i := by
  obtain ⟨i, hi, rfl⟩ := wi_nI (w := t) (m := N - 1) (by omega) h
  exact ⟨i, by omega, rfl⟩
theorem m_cut (x y : Int32) {σ : Hp} {a : Sx} (h : MS σ a) : Ct m_M_cut [.ref 56, .int x, .int y] σ (YM σ a (aeCu x y a)) := by
  obtain ⟨N, L, lm, s, e⟩ := a
  by_cases hw : (0 ≤ x ∧ x ≤ nI (N - 1)) ∧ (0 ≤ y ∧ y ≤ nI (N - 1))
  · obtain ⟨i, hi, rfl⟩ := pt_nI h.1.2.1 h.1.2.2 hw.1
    obtain ⟨j, hj, rfl⟩ := pt_nI h.1.2.1 h.1.2.2 hw.2
    refine (c_M_cut σ h.1 h.2.1 hi hj).im ?_
    rintro w τ ⟨g, rfl, hF, hC⟩
    exact ⟨⟨_, rfl, Or.inl ⟨i, j, g, hi, hj, rfl, rfl, hC, rfl⟩⟩, h.fp hF (by decide) (by decide)⟩
  · have hw' := Decidable.not_and_iff_not_or_not.mp hw
    exact (c_M_cut_no x y σ h.1 hw').im (h.no (Or.inr ⟨hw', rfl⟩))
def aeCs : Sx → Int32 → Prop := fun (N, L, lm, _, _) z => z = nI (ctC N L lm (N ^ N))
theorem m_cuts {σ : Hp} {a : Sx} (h : MS σ a) : Ct m_M_cuts [.ref 56] σ (YM σ a (aeCs a)) := by
  obtain ⟨N, L, lm, s, e⟩ := a
  refine (c_M_cuts σ h.1 h.2.1).im ?_
  rintro w τ ⟨rfl, hF⟩
  exact ⟨⟨_, rfl, rfl⟩, h.fp hF (by decide) (by decide)⟩
def aeTw : Sx → Int32 → Prop := fun (N, L, lm, _, _) z => z = nI (twC N L lm (N ^ N))
theorem m_twists {σ : Hp} {a : Sx} (h : MS σ a) : Ct m_M_twists [.ref 56] σ (YM σ a (aeTw a)) := by
  obtain ⟨N, L, lm, s, e⟩ := a
  exact (c_M_twists σ h.1 h.2.1).im (h.no rfl)
def aeTk (t : Int32) : Sx → Int32 → Prop := fun (N, L, lm, s, e) z => (∃ k, k ≤ 40 ∧ t = nI k ∧ z = nI (tkN e (wayN N L lm s k) N % 1000000007)) ∨ (¬ (0 ≤ t ∧ t ≤ 40) ∧ z = -1)
theorem m_taken (t : Int32) {σ : Hp} {a : Sx} (h : MS σ a) : Ct m_M_taken [.ref 56, .int t] σ (YM σ a (aeTk t a)) := by
  obtain ⟨N, L, lm, s, e⟩ := a
  by_cases hw : 0 ≤ t ∧ t ≤ 40
  · obtain ⟨k, hk, rfl⟩ := wi_nI (w := t) (m := 40) (by decide) hw
    refine (c_M_taken hk σ h.1 h.2.1 h.2.2.1.1 h.2.2.1.2 h.2.2.2.1.1 h.2.2.2.1.2).im ?_
    rintro w τ ⟨rfl, hF⟩
    exact ⟨⟨_, rfl, Or.inl ⟨k, hk, rfl, rfl⟩⟩, h.fp hF (by decide) (by decide)⟩
  · exact (c_M_taken_no t σ hw).im (h.no (Or.inr ⟨hw, rfl⟩))
def aeLe : Sx → Int32 → Prop := fun (N, L, lm, s, e) z => ∃ S, RcOf N L lm s S ∧ z = nI (pcN (hsN N S (alH N L lm e (six N))))
theorem m_least {σ : Hp} {a : Sx} (h : MS σ a) : Ct m_M_least [.ref 56] σ (YM σ a (aeLe a)) := by
  obtain ⟨N, L, lm, s, e⟩ := a
  refine (c_M_least σ h.1 h.2.1 h.2.2.1.1 h.2.2.1.2 h.2.2.2.1.1 h.2.2.2.1.2).im ?_
  rintro w τ ⟨S, hS, rfl, hF⟩
  exact ⟨⟨_, rfl, S, hS, rfl⟩, h.fp hF (by decide) (by decide)⟩
def aePa (x y i : Int32) : Sx → Int32 → Prop := fun (N, L, lm, _, e) z => (∃ p q, p < N ∧ q < N ∧ x = nI p ∧ y = nI q ∧ -1 ≤ i ∧ z = fwF (QP N L lm (6 * p + q)) (fun x => ptB e x = true) i) ∨ ((¬ (0 ≤ x ∧ x ≤ nI (N - 1)) ∨ ¬ (0 ≤ y ∧ y ≤ nI (N - 1)) ∨ ¬ -1 ≤ i) ∧ z = -1)
theorem m_parting (x y i : Int32) {σ : Hp} {a : Sx} (h : MS σ a) : Ct m_M_parting [.ref 56, .int x, .int y, .int i] σ (YM σ a (aePa x y i a)) := by
  obtain ⟨N, L, lm, s, e⟩ := a
  by_cases hw : ¬ (0 ≤ x ∧ x ≤ nI (N - 1)) ∨ ¬ (0 ≤ y ∧ y ≤ nI (N - 1)) ∨ ¬ -1 ≤ i
  · exact (c_M_parting_no x y i σ h.1 hw).im (h.no (Or.inr ⟨hw, rfl⟩))
  · have h1 : 0 ≤ x ∧ x ≤ nI (N - 1) := Decidable.not_not.mp (fun q => hw (Or.inl q))
    have h2 : 0 ≤ y ∧ y ≤ nI (N - 1) := Decidable.not_not.mp (fun q => hw (Or.inr (Or.inl q)))
    have h3 : -1 ≤ i := Decidable.not_not.mp (fun q => hw (Or.inr (Or.inr q)))
    obtain ⟨p, hp, rfl⟩ := pt_nI h.1.2.1 h.1.2.2 h1
    obtain ⟨q, hq, rfl⟩ := pt_nI h.1.2.1 h.1.2.2 h2
    refine (c_M_parting i σ h.1 h.2.1 h.2.2.2.1.2 h.2.2.2.1.1 hp hq h3).im ?_
    rintro w τ ⟨rfl, hF⟩
    exact ⟨⟨_, rfl, Or.inl ⟨p, q, hp, hq, rfl, rfl, h3, rfl⟩⟩, h.fp hF (by decide) (by decide)⟩
def aeMe (w : Int32) : Sx → Int32 → Prop := fun (N, L, lm, s, e) z => (∃ j, j ≤ 1 ∧ w = nI j ∧ LR N L lm (fun M z => ∃ S, RcOf N L lm s S ∧ z = meF N L lm S e j M) z) ∨ (¬ (0 ≤ w ∧ w ≤ 1) ∧ z = -1)
theorem m_meanings (w : Int32) {σ : Hp} {a : Sx} (h : MS σ a) : Ct m_M_meanings [.ref 56, .int w] σ (YM σ a (aeMe w a)) := by
  obtain ⟨N, L, lm, s, e⟩ := a
  by_cases hw : 0 ≤ w ∧ w ≤ 1
  · obtain ⟨j, hj, rfl⟩ := wi_nI (w := w) (m := 1) (by decide) hw
    exact (c_M_meanings hj σ h.1 h.2.1 h.2.2.1.1 h.2.2.1.2 h.2.2.2.1.1 h.2.2.2.1.2 h.2.2.2.2).im (fun w τ hr => (hr.ym h).im (fun z hz => Or.inl ⟨j, hj, rfl, hz⟩))
  · exact (c_M_meanings_no w σ hw).im (h.no (Or.inr ⟨hw, rfl⟩))
