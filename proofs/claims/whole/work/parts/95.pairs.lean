/-! EACH NAME: the class's call, then the reference's -/
section PAIRS
variable {v v' : Option Value} {u u' : List va_E} {x : Int32} {S : Sx}
theorem sx_ans (h : ans v u x S) : ∃ a S1, v = some (.int a) ∧ u = wX S1 := ⟨_, _, h.1, h.2⟩
theorem sx_ansD (h : ansD v u x S) : ∃ a S1, v = some (.int a) ∧ u = wX S1 := by
  obtain ⟨h1, S', h2, -⟩ := h
  exact ⟨_, _, h1, h2⟩
theorem sx_ansE (h : ansE v u x S) : ∃ a S1, v = some (.int a) ∧ u = wX S1 := by
  obtain ⟨h1, S', h2, -⟩ := h
  exact ⟨_, _, h1, h2⟩
theorem sx_ansW {k : Nat} {f : Nat → Int32} (h : ansW v u x S k f) : ∃ a S1, v = some (.int a) ∧ u = wX S1 := by
  obtain ⟨h1, S', h2, -⟩ := h
  exact ⟨_, _, h1, h2⟩
theorem pc_end {a : Int32} {S1 : Sx} {K' : Int32 → Sx → Prop} (hv : v = some (.int a)) (hu : u = wX S1) (hb : both v u v' u') (hK : ∀ S2 M2, RelE S2 M2 → wX S2 = wX S1 → K' a M2) : ∃ b M1, v' = some (.int b) ∧ u' = wM M1 ∧ K' b M1 := by
  obtain ⟨c, S2, M2, e1, e2, e3, e4, hr⟩ := hb
  rw [hv] at e1
  cases e1
  exact ⟨_, M2, e3, e4, hK S2 M2 hr (e2.symm.trans hu)⟩
end PAIRS
set_option maxRecDepth 100000 in
theorem pc_row (g l t : Int32) : PC f_X6_row f_X7_row [.int g, .int l, .int t] := by
  rintro S M ⟨n, w, W, k, h⟩ K hK
  conv => whnf
  refine ⟨(g, l, t, n, S), rfl, rfl, ⟨h.1.1, h.1.2.1⟩, fun v u hx => ?_⟩
  obtain ⟨a9, S1, hv, hu⟩ : ∃ a S1, v = some (.int a) ∧ u = wX S1 := by
    rcases hx with ⟨-, h⟩ | ⟨-, -, h⟩ | ⟨-, -, h⟩
    · exact sx_ans h
    · exact sx_ans h
    · exact sx_ans h
  refine ⟨a9, S1, hv, hu, hK a9 S1 (fun K' hK' => ?_)⟩
  conv => whnf
  refine ⟨(g, l, t, n, M), rfl, rfl, ⟨h.1.1, h.1.2.2.1⟩, fun v' u' hm => ?_⟩
  exact pc_end hv hu (op_row h hx hm) hK'
theorem mx_row : MN f_X6_row := en_f_mn
theorem mm_row : MN f_X7_row := en_f_mn
set_option maxRecDepth 100000 in
theorem pc_column (r c : Int32) (y : Int64) : PC f_X6_column f_X7_column [.int r, .int c, .long y] := by
  rintro S M ⟨n, w, W, k, h⟩ K hK
  conv => whnf
  refine ⟨(r, c, y, n, S), rfl, rfl, ⟨h.1.1, h.1.2.1⟩, fun v u hx => ?_⟩
  obtain ⟨a9, S1, hv, hu⟩ : ∃ a S1, v = some (.int a) ∧ u = wX S1 := by
    rcases hx with ⟨-, h⟩ | ⟨-, h⟩
    · exact sx_ans h
    · exact sx_ans h
  refine ⟨a9, S1, hv, hu, hK a9 S1 (fun K' hK' => ?_)⟩
  conv => whnf
  refine ⟨(r, c, y, n, M), rfl, rfl, ⟨h.1.1, h.1.2.2.1⟩, fun v' u' hm => ?_⟩
  exact pc_end hv hu (op_column h hx hm) hK'
theorem mx_column : MN f_X6_column := en_f_mn
theorem mm_column : MN f_X7_column := en_f_mn
set_option maxRecDepth 100000 in
theorem pc_word (r c y : Int32) : PC f_X6_word f_X7_word [.int r, .int c, .int y] := by
  rintro S M ⟨n, w, W, k, h⟩ K hK
  conv => whnf
  refine ⟨(r, c, y, n, S), rfl, rfl, ⟨h.1.1, h.1.2.1⟩, fun v u hx => ?_⟩
  obtain ⟨a9, S1, hv, hu⟩ : ∃ a S1, v = some (.int a) ∧ u = wX S1 := by
    rcases hx with ⟨-, h⟩ | ⟨-, h⟩
    · exact sx_ans h
    · exact sx_ans h
  refine ⟨a9, S1, hv, hu, hK a9 S1 (fun K' hK' => ?_)⟩
  conv => whnf
  refine ⟨(r, c, y, n, M), rfl, rfl, ⟨h.1.1, h.1.2.2.1⟩, fun v' u' hm => ?_⟩
  exact pc_end hv hu (op_word h hx hm) hK'
theorem mx_word : MN f_X6_word := en_f_mn
theorem mm_word : MN f_X7_word := en_f_mn
set_option maxRecDepth 100000 in
theorem pc_parts (kk a b c d : Int32) : PC f_X6_parts f_X7_parts [.int kk, .int a, .int b, .int c, .int d] := by
  rintro S M ⟨n, w, W, k, h⟩ K hK
  conv => whnf
  refine ⟨(kk, a, b, c, d, S), rfl, rfl, trivial, fun v u hx => ?_⟩
  obtain ⟨a9, S1, hv, hu⟩ : ∃ a S1, v = some (.int a) ∧ u = wX S1 := by
    rcases hx with ⟨-, h⟩ | ⟨-, h⟩
    · exact sx_ans h
    · exact sx_ans h
  refine ⟨a9, S1, hv, hu, hK a9 S1 (fun K' hK' => ?_)⟩
  conv => whnf
  refine ⟨(kk, a, b, c, d, M), rfl, rfl, trivial, fun v' u' hm => ?_⟩
  exact pc_end hv hu (op_parts h hx hm) hK'
theorem mx_parts : MN f_X6_parts := en_f_mn
theorem mm_parts : MN f_X7_parts := en_f_mn
set_option maxRecDepth 100000 in
theorem pc_quota (p m : Int32) : PC f_X6_quota f_X7_quota [.int p, .int m] := by
  rintro S M ⟨n, w, W, k, h⟩ K hK
  conv => whnf
  refine ⟨(p, m, w, W, k, S), rfl, rfl, h.2.1.1, fun v u hx => ?_⟩
  obtain ⟨a9, S1, hv, hu⟩ : ∃ a S1, v = some (.int a) ∧ u = wX S1 := by
    rcases hx with ⟨-, h⟩ | ⟨-, h⟩
    · exact sx_ansE h
    · exact sx_ansE h
  refine ⟨a9, S1, hv, hu, hK a9 S1 (fun K' hK' => ?_)⟩
  conv => whnf
  refine ⟨(p, m, w, W, k, M), rfl, rfl, h.2.1.2, fun v' u' hm => ?_⟩
  exact pc_end hv hu (op_quota h hx hm) hK'
theorem mx_quota : MN f_X6_quota := en_f_mn
theorem mm_quota : MN f_X7_quota := en_f_mn
set_option maxRecDepth 100000 in
theorem pc_split (kd : Int32) (z : Int64) (g : Int32) : PC f_X6_split f_X7_split [.int kd, .long z, .int g] := by
  rintro S M ⟨n, w, W, k, h⟩ K hK
  conv => whnf
  refine ⟨(kd, z, g, n, w, W, k, S), rfl, rfl, ⟨h.1.1, h.1.2.1, h.2.1.1⟩, fun v u hx => ?_⟩
  obtain ⟨a9, S1, hv, hu⟩ : ∃ a S1, v = some (.int a) ∧ u = wX S1 := by
    rcases hx with ⟨-, h⟩ | ⟨-, h⟩
    · exact sx_ansD h
    · exact sx_ansD h
  refine ⟨a9, S1, hv, hu, hK a9 S1 (fun K' hK' => ?_)⟩
  conv => whnf
  refine ⟨(kd, z, g, n, w, W, k, M), rfl, rfl, ⟨h.1.1, h.1.2.2.1, h.2.1.2⟩, fun v' u' hm => ?_⟩
  exact pc_end hv hu (op_split h hx hm) hK'
theorem mx_split : MN f_X6_split := en_f_mn
theorem mm_split : MN f_X7_split := en_f_mn
set_option maxRecDepth 100000 in
theorem pc_folds (kk : Int32) (z : Int64) : PC f_X6_folds f_X7_folds [.int kk, .long z] := by
  rintro S M ⟨n, w, W, k, h⟩ K hK
  conv => whnf
  refine ⟨(kk, z, n, S), rfl, rfl, ⟨h.1.1, h.1.2.1⟩, fun v u hx => ?_⟩
  obtain ⟨a9, S1, hv, hu⟩ : ∃ a S1, v = some (.int a) ∧ u = wX S1 := by
    rcases hx with ⟨-, h⟩ | ⟨-, h⟩
    · exact sx_ansD h
    · exact sx_ansW h
  refine ⟨a9, S1, hv, hu, hK a9 S1 (fun K' hK' => ?_)⟩
  conv => whnf
  refine ⟨(kk, z, n, M), rfl, rfl, ⟨h.1.1, h.1.2.2.1⟩, fun v' u' hm => ?_⟩
  exact pc_end hv hu (op_folds h hx hm) hK'
theorem mx_folds : MN f_X6_folds := en_f_mn
theorem mm_folds : MN f_X7_folds := en_f_mn
set_option maxRecDepth 100000 in
theorem pc_nested (o kk : Int32) (z : Int64) : PC f_X6_nested f_X7_nested [.int o, .int kk, .long z] := by
  rintro S M ⟨n, w, W, k, h⟩ K hK
  conv => whnf
  refine ⟨(o, kk, z, n, S), rfl, rfl, ⟨h.1.1, h.1.2.1⟩, fun v u hx => ?_⟩
  obtain ⟨a9, S1, hv, hu⟩ : ∃ a S1, v = some (.int a) ∧ u = wX S1 := by
    rcases hx with ⟨-, h⟩ | ⟨-, -, h⟩ | ⟨-, -, h⟩
    · exact sx_ansD h
    · exact sx_ansD h
    · exact sx_ansW h
  refine ⟨a9, S1, hv, hu, hK a9 S1 (fun K' hK' => ?_)⟩
  conv => whnf
  refine ⟨(o, kk, z, n, M), rfl, rfl, ⟨h.1.1, h.1.2.2.1⟩, fun v' u' hm => ?_⟩
  exact pc_end hv hu (op_nested h hx hm) hK'
theorem mx_nested : MN f_X6_nested := en_f_mn
theorem mm_nested : MN f_X7_nested := en_f_mn
set_option maxRecDepth 100000 in
theorem pc_of (r : Int32) : PC f_X6_of f_X7_of [.int r] := by
  rintro S M ⟨n, w, W, k, h⟩ K hK
  conv => whnf
  refine ⟨(r, n, S), rfl, rfl, ⟨h.1.1, h.1.2.1⟩, fun v u hx => ?_⟩
  obtain ⟨a9, S1, hv, hu⟩ := sx_ans hx
  refine ⟨a9, S1, hv, hu, hK a9 S1 (fun K' hK' => ?_)⟩
  conv => whnf
  refine ⟨(r, n, M), rfl, rfl, ⟨h.1.1, h.1.2.2.1⟩, fun v' u' hm => ?_⟩
  exact pc_end hv hu (op_of h hx hm) hK'
theorem mx_of : MN f_X6_of := en_f_mn
theorem mm_of : MN f_X7_of := en_f_mn
set_option maxRecDepth 100000 in
theorem pc_many (p l : Int32) : PC f_X6_many f_X7_many [.int p, .int l] := by
  rintro S M ⟨n, w, W, k, h⟩ K hK
  conv => whnf
  refine ⟨(p, l, n, S), rfl, rfl, ⟨h.1.1, h.1.2.1⟩, fun v u hx => ?_⟩
  obtain ⟨a9, S1, hv, hu⟩ := sx_ans hx
  refine ⟨a9, S1, hv, hu, hK a9 S1 (fun K' hK' => ?_)⟩
  conv => whnf
  refine ⟨(p, l, n, M), rfl, rfl, ⟨h.1.1, h.1.2.2.1⟩, fun v' u' hm => ?_⟩
  exact pc_end hv hu (op_many h hx hm) hK'
theorem mx_many : MN f_X6_many := en_f_mn
theorem mm_many : MN f_X7_many := en_f_mn
set_option maxRecDepth 100000 in
theorem pc_over (g : Int32) : PC f_X6_over f_X7_over [.int g] := by
  rintro S M ⟨n, w, W, k, h⟩ K hK
  conv => whnf
  refine ⟨(g, n, w, W, k, S), rfl, rfl, ⟨h.1.1, h.1.2.1, h.2.1.1⟩, fun v u hx => ?_⟩
  obtain ⟨a9, S1, hv, hu⟩ := sx_ansE hx
  refine ⟨a9, S1, hv, hu, hK a9 S1 (fun K' hK' => ?_)⟩
  conv => whnf
  refine ⟨(g, n, w, W, k, M), rfl, rfl, ⟨h.1.1, h.1.2.2.1, h.2.1.2, (by rw [← h.2.2.1.2.2.2.1]; exact h.2.2.2.2.2.1)⟩, fun v' u' hm => ?_⟩
  exact pc_end hv hu (op_over h hx hm) hK'
theorem mx_over : MN f_X6_over := en_f_mn
theorem mm_over : MN f_X7_over := en_f_mn
set_option maxRecDepth 100000 in
theorem pc_near (p : Int32) : PC f_X6_near f_X7_near [.int p] := by
  rintro S M ⟨n, w, W, k, h⟩ K hK
  conv => whnf
  refine ⟨(p, S), rfl, rfl, trivial, fun v u hx => ?_⟩
  obtain ⟨a9, S1, hv, hu⟩ : ∃ a S1, v = some (.int a) ∧ u = wX S1 := by
    rcases hx with ⟨-, h⟩ | ⟨-, h⟩
    · exact sx_ans h
    · exact sx_ans h
  refine ⟨a9, S1, hv, hu, hK a9 S1 (fun K' hK' => ?_)⟩
  conv => whnf
  refine ⟨(p, M), rfl, rfl, trivial, fun v' u' hm => ?_⟩
  exact pc_end hv hu (op_near h hx hm) hK'
theorem mx_near : MN f_X6_near := en_f_mn
theorem mm_near : MN f_X7_near := en_f_mn
set_option maxRecDepth 100000 in
theorem pc_fit (s r : Int32) : PC f_X6_fit f_X7_fit [.int s, .int r] := by
  rintro S M ⟨n, w, W, k, h⟩ K hK
  conv => whnf
  refine ⟨(s, r, n, S), rfl, rfl, ⟨h.1.1, h.1.2.1, h.2.2.2.1⟩, fun v u hx => ?_⟩
  obtain ⟨a9, S1, hv, hu⟩ : ∃ a S1, v = some (.int a) ∧ u = wX S1 := by
    rcases hx with ⟨-, h⟩ | ⟨-, -, h⟩ | ⟨-, -, h⟩
    · exact sx_ans h
    · exact sx_ans h
    · exact sx_ans h
  refine ⟨a9, S1, hv, hu, hK a9 S1 (fun K' hK' => ?_)⟩
  conv => whnf
  refine ⟨(s, r, n, M), rfl, rfl, ⟨h.1.1, h.1.2.2.1⟩, fun v' u' hm => ?_⟩
  exact pc_end hv hu (op_fit h hx hm) hK'
theorem mx_fit : MN f_X6_fit := en_f_mn
theorem mm_fit : MN f_X7_fit := en_f_mn
set_option maxRecDepth 100000 in
theorem pc_base (s b : Int32) : PC f_X6_base f_X7_base [.int s, .int b] := by
  rintro S M ⟨n, w, W, k, h⟩ K hK
  conv => whnf
  refine ⟨(s, b, S), rfl, rfl, trivial, fun v u hx => ?_⟩
  obtain ⟨a9, S1, hv, hu⟩ : ∃ a S1, v = some (.int a) ∧ u = wX S1 := by
    rcases hx with ⟨-, h⟩ | ⟨-, h⟩
    · exact sx_ans h
    · exact sx_ans h
  refine ⟨a9, S1, hv, hu, hK a9 S1 (fun K' hK' => ?_)⟩
  conv => whnf
  refine ⟨(s, b, M), rfl, rfl, trivial, fun v' u' hm => ?_⟩
  exact pc_end hv hu (op_base h hx hm) hK'
theorem mx_base : MN f_X6_base := en_f_mn
theorem mm_base : MN f_X7_base := en_f_mn
set_option maxRecDepth 100000 in
theorem pc_leaks (kd : Int32) : PC f_X6_leaks f_X7_leaks [.int kd] := by
  rintro S M ⟨n, w, W, k, h⟩ K hK
  conv => whnf
  refine ⟨(kd, n, S), rfl, rfl, ⟨h.1.1, h.1.2.1, h.2.2.2.1, h.2.2.2.2.1⟩, fun v u hx => ?_⟩
  obtain ⟨a9, S1, hv, hu⟩ := sx_ansD hx
  refine ⟨a9, S1, hv, hu, hK a9 S1 (fun K' hK' => ?_)⟩
  conv => whnf
  refine ⟨(kd, n, M), rfl, rfl, ⟨h.1.1, h.1.2.2.1, (by rw [← h.2.2.1.2.2.2.2.2.1]; exact h.2.2.2.2.1)⟩, fun v' u' hm => ?_⟩
  exact pc_end hv hu (op_leaks h hx hm) hK'
theorem mx_leaks : MN f_X6_leaks := en_f_mn
theorem mm_leaks : MN f_X7_leaks := en_f_mn
set_option maxRecDepth 100000 in
theorem pc_leak (kd i wh : Int32) : PC f_X6_leak f_X7_leak [.int kd, .int i, .int wh] := by
  rintro S M ⟨n, w, W, k, h⟩ K hK
  conv => whnf
  refine ⟨(kd, i, wh, n, S), rfl, rfl, ⟨h.1.1, h.1.2.1, h.2.2.2.1, h.2.2.2.2.1⟩, fun v u hx => ?_⟩
  obtain ⟨a9, S1, hv, hu⟩ := sx_ansD hx
  refine ⟨a9, S1, hv, hu, hK a9 S1 (fun K' hK' => ?_)⟩
  conv => whnf
  refine ⟨(kd, i, wh, n, M), rfl, rfl, ⟨h.1.1, h.1.2.2.1, (by rw [← h.2.2.1.2.2.2.2.2.1]; exact h.2.2.2.2.1)⟩, fun v' u' hm => ?_⟩
  exact pc_end hv hu (op_leak h hx hm) hK'
theorem mx_leak : MN f_X6_leak := en_f_mn
theorem mm_leak : MN f_X7_leak := en_f_mn
set_option maxRecDepth 100000 in
theorem pc_meets  : PC f_X6_meets f_X7_meets [] := by
  rintro S M ⟨n, w, W, k, h⟩ K hK
  conv => whnf
  refine ⟨(n, S), rfl, rfl, ⟨h.1.1, h.1.2.1⟩, fun v u hx => ?_⟩
  obtain ⟨a9, S1, hv, hu⟩ := sx_ansD hx
  refine ⟨a9, S1, hv, hu, hK a9 S1 (fun K' hK' => ?_)⟩
  conv => whnf
  refine ⟨(n, M), rfl, rfl, ⟨h.1.1, h.1.2.2.1⟩, fun v' u' hm => ?_⟩
  exact pc_end hv hu (op_meets h hx hm) hK'
theorem mx_meets : MN f_X6_meets := en_f_mn
theorem mm_meets : MN f_X7_meets := en_f_mn
set_option maxRecDepth 100000 in
theorem pc_same (kd : Int32) (z : Int64) (g : Int32) : PC f_X6_same f_X7_same [.int kd, .long z, .int g] := by
  rintro S M ⟨n, w, W, k, h⟩ K hK
  conv => whnf
  refine ⟨(kd, z, g, n, w, W, k, S), rfl, rfl, ⟨h.1.1, h.1.2.1, h.2.1.1⟩, fun v u hx => ?_⟩
  obtain ⟨a9, S1, hv, hu⟩ : ∃ a S1, v = some (.int a) ∧ u = wX S1 := by
    rcases hx with ⟨-, h⟩ | ⟨-, h⟩
    · exact sx_ansD h
    · exact sx_ansD h
  refine ⟨a9, S1, hv, hu, hK a9 S1 (fun K' hK' => ?_)⟩
  conv => whnf
  refine ⟨(kd, z, g, n, w, W, k, M), rfl, rfl, ⟨h.1.1, h.1.2.2.1, h.2.1.2⟩, fun v' u' hm => ?_⟩
  exact pc_end hv hu (op_same h hx hm) hK'
theorem mx_same : MN f_X6_same := en_f_mn
theorem mm_same : MN f_X7_same := en_f_mn
set_option maxRecDepth 100000 in
theorem pc_told (x : Int32) : PC f_X6_told f_X7_told [.int x] := by
  rintro S M ⟨n, w, W, k, h⟩ K hK
  conv => whnf
  refine ⟨(x, n, S), rfl, rfl, ⟨h.1.1, h.1.2.1⟩, fun v u hx => ?_⟩
  obtain ⟨a9, S1, hv, hu⟩ := sx_ans hx
  refine ⟨a9, S1, hv, hu, hK a9 S1 (fun K' hK' => ?_)⟩
  conv => whnf
  refine ⟨(x, n, M), rfl, rfl, ⟨h.1.1, h.1.2.2.1⟩, fun v' u' hm => ?_⟩
  exact pc_end hv hu (op_told h hx hm) hK'
theorem mx_told : MN f_X6_told := en_f_mn
theorem mm_told : MN f_X7_told := en_f_mn
