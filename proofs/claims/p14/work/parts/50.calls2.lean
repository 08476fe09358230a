/-! each call of the class that changes no points, letters, start, ends: it returns (what it answers is told elsewhere) -/
theorem x_elements (w : Int32) {σ : Hp} {a : Sx} (hX : XS σ a) : Ct m_P_elements [.ref 0, .int w] σ (YX σ a (fun _ => True)) := by
  obtain ⟨M, hM, -⟩ := hX.2.2.2.2
  exact (w_P_elements w σ hX.1 hM).im (fun w τ hr => hr.yx hX)
theorem x_element (e w : Int32) {σ : Hp} {a : Sx} (hX : XS σ a) : Ct m_P_element [.ref 0, .int e, .int w] σ (YX σ a (fun _ => True)) := by
  obtain ⟨M, hM, -⟩ := hX.2.2.2.2
  exact (w_P_element e w σ hX.1 hM).im (fun w τ hr => hr.yx hX)
theorem x_word (e i : Int32) {σ : Hp} {a : Sx} (hX : XS σ a) : Ct m_P_word [.ref 0, .int e, .int i] σ (YX σ a (fun _ => True)) := by
  obtain ⟨M, hM, -⟩ := hX.2.2.2.2
  exact (w_P_word e i σ hX.1 hM).im (fun w τ hr => hr.yx hX)
theorem x_find (m : Int32) {σ : Hp} {a : Sx} (hX : XS σ a) : Ct m_P_find [.ref 0, .int m] σ (YX σ a (fun _ => True)) := by
  obtain ⟨M, hM, -⟩ := hX.2.2.2.2
  exact (w_P_find m σ hX.1 hM).im (fun w τ hr => hr.yx hX)
theorem x_done (a1 b : Int32) {σ : Hp} {a : Sx} (hX : XS σ a) : Ct m_P_done [.ref 0, .int a1, .int b] σ (YX σ a (fun _ => True)) := by
  obtain ⟨M, hM, -⟩ := hX.2.2.2.2
  exact (w_P_done a1 b σ hX.1 hM).im (fun w τ hr => hr.yx hX)
theorem x_boxes (w : Int32) {σ : Hp} {a : Sx} (hX : XS σ a) : Ct m_P_boxes [.ref 0, .int w] σ (YX σ a (fun _ => True)) := by
  obtain ⟨M, hM, -⟩ := hX.2.2.2.2
  exact (w_P_boxes w σ hX.1 hM).im (fun w τ hr => hr.yx hX)
theorem x_box (e w : Int32) {σ : Hp} {a : Sx} (hX : XS σ a) : Ct m_P_box [.ref 0, .int e, .int w] σ (YX σ a (fun _ => True)) := by
  obtain ⟨M, hM, -⟩ := hX.2.2.2.2
  exact (w_P_box e w σ hX.1 hM).im (fun w τ hr => hr.yx hX)
theorem x_about (i w : Int32) {σ : Hp} {a : Sx} (hX : XS σ a) : Ct m_P_about [.ref 0, .int i, .int w] σ (YX σ a (fun _ => True)) := by
  obtain ⟨M, hM, -⟩ := hX.2.2.2.2
  exact (w_P_about i w σ hX.1 hM).im (fun w τ hr => hr.yx hX)
theorem x_below (i j : Int32) {σ : Hp} {a : Sx} (hX : XS σ a) : Ct m_P_below [.ref 0, .int i, .int j] σ (YX σ a (fun _ => True)) := by
  obtain ⟨M, hM, -⟩ := hX.2.2.2.2
  exact (w_P_below i j σ hX.1 hM).im (fun w τ hr => hr.yx hX)
theorem x_ideal (e : Int32) {σ : Hp} {a : Sx} (hX : XS σ a) : Ct m_P_ideal [.ref 0, .int e] σ (YX σ a (fun _ => True)) := by
  obtain ⟨M, hM, -⟩ := hX.2.2.2.2
  exact (w_P_ideal e σ hX.1 hM).im (fun w τ hr => hr.yx hX)
theorem x_sort (w : Int32) {σ : Hp} {a : Sx} (hX : XS σ a) : Ct m_P_sort [.ref 0, .int w] σ (YX σ a (fun _ => True)) := by
  obtain ⟨M, hM, -⟩ := hX.2.2.2.2
  exact (w_P_sort w σ hX.1 hM).im (fun w τ hr => hr.yx hX)
theorem x_solve (a1 b c w : Int32) {σ : Hp} {a : Sx} (hX : XS σ a) : Ct m_P_solve [.ref 0, .int a1, .int b, .int c, .int w] σ (YX σ a (fun _ => True)) := by
  obtain ⟨M, hM, -⟩ := hX.2.2.2.2
  exact (w_P_solve a1 b c w σ hX.1 hM).im (fun w τ hr => hr.yx hX)
theorem x_apart {σ : Hp} {a : Sx} (hX : XS σ a) : Ct m_P_apart [.ref 0] σ (YX σ a (fun _ => True)) := by
  obtain ⟨M, hM, -⟩ := hX.2.2.2.2
  exact (w_P_apart σ hX.1 hM).im (fun w τ hr => hr.yx hX)
theorem x_cut (a1 b : Int32) {σ : Hp} {a : Sx} (hX : XS σ a) : Ct m_P_cut [.ref 0, .int a1, .int b] σ (YX σ a (fun _ => True)) := by
  obtain ⟨M, hM, -⟩ := hX.2.2.2.2
  exact (w_P_cut a1 b σ hX.1 hM).im (fun w τ hr => hr.yx hX)
theorem x_cuts {σ : Hp} {a : Sx} (hX : XS σ a) : Ct m_P_cuts [.ref 0] σ (YX σ a (fun _ => True)) := by
  obtain ⟨M, hM, -⟩ := hX.2.2.2.2
  exact (w_P_cuts σ hX.1 hM).im (fun w τ hr => hr.yx hX)
theorem x_twists {σ : Hp} {a : Sx} (hX : XS σ a) : Ct m_P_twists [.ref 0] σ (YX σ a (fun _ => True)) := by
  obtain ⟨M, hM, -⟩ := hX.2.2.2.2
  exact (w_P_twists σ hX.1 hM).im (fun w τ hr => hr.yx hX)
theorem x_taken (n : Int32) {σ : Hp} {a : Sx} (hX : XS σ a) : Ct m_P_taken [.ref 0, .int n] σ (YX σ a (fun _ => True)) := by
  obtain ⟨M, hM, -⟩ := hX.2.2.2.2
  exact (w_P_taken n σ hX.1 hM).im (fun w τ hr => hr.yx hX)
theorem x_least {σ : Hp} {a : Sx} (hX : XS σ a) : Ct m_P_least [.ref 0] σ (YX σ a (fun _ => True)) := by
  obtain ⟨M, hM, -⟩ := hX.2.2.2.2
  exact (w_P_least σ hX.1 hM).im (fun w τ hr => hr.yx hX)
theorem x_meanings (w : Int32) {σ : Hp} {a : Sx} (hX : XS σ a) : Ct m_P_meanings [.ref 0, .int w] σ (YX σ a (fun _ => True)) := by
  obtain ⟨M, hM, -⟩ := hX.2.2.2.2
  exact (w_P_meanings w σ hX.1 hM).im (fun w τ hr => hr.yx hX)
