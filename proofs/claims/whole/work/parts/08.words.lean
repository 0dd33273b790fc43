/-! THE WORDS of the tables, of the kinds that are used: WD U says that all hold in U; they hold in every state that the machine comes to -/
def en_kind : Jvm.Cond → Bool
  | .initialized _ | .code _ _ _ _ | .methodLink _ _ _ | .methodLinkNest _ _ _ _ | .static _ | .instanceMethod _ | .selects _ _ _ | .fieldLink _ _ _ _ _ | .lays _ _ _ _ | .laysFinal _ _ _ _ | .instantiable _ _ | .classLink _ _ _ | .constant _ _ _ | .constantLong _ _ _ | .arrayClass _ => true
  | _ => false
def en_WD (U : State) : Prop := ∀ w ∈ lw_tbl, en_kind w = true → w.before #[] U = true
theorem en_kind_ac {ty : FieldType} {A A' : Array Value} {u U : State} (hv : u.vm = U.vm) (hb : (Jvm.Cond.arrayClass ty).before A u = true) : (Jvm.Cond.arrayClass ty).before A' U = true := by
  have h2 : (Jvm.Cond.arrayClass ty).before A (u.setVm u.vm) = true := hb
  rw [hv] at h2
  exact h2
theorem en_kind_on {w : Jvm.Cond} (h : en_kind w = true) {A A' : Array Value} {u U : State} (hv : u.vm = U.vm) (hb : w.before A u = true) : w.before A' U = true := by
  cases w <;> first | exact va_tabs rfl hv hb | exact en_kind_ac hv hb | (simp [en_kind] at h; done)
theorem en_kind_warm {w : Jvm.Cond} (h : en_kind w = true) {s U : State} (hW : s.WarmedH U.vm) (hb : w.before #[] s = true) : w.before #[] U = true := by
  cases w <;> first | (simp [en_kind] at h; done) | exact va_Nw.warmM hW hb | exact word_at hW (Or.inr ⟨_, rfl⟩) hb | exact word_at hW (Or.inl rfl) hb
theorem en_WD1 : ∀ u U : State, u.vm = U.vm → en_WD u → en_WD U := fun _ _ h hw w hm hk => en_kind_on hk h (hw w hm hk)
theorem en_WD2 : ∀ u U : State, u.WarmedH U.vm → en_WD u → en_WD U := fun _ _ h hw w hm hk => en_kind_warm hk h (hw w hm hk)
theorem en_wd {U : State} (h : en_WD U) (i : Nat) {w : Jvm.Cond} (hi : lw_tbl[i]? = some w) (hk : en_kind w = true) (args : Array Value) : w.before args U = true := en_kind_on hk rfl (h w (List.mem_of_getElem? hi) hk)
theorem en_lay {U : State} (h : en_WD U) {C : String} {T : u_T} {N : Nat} (hm : ∀ w ∈ u_ws C T N, w ∈ lw_tbl) (args : Array Value) : ∀ w ∈ u_ws C T N, w.before args U = true := fun w hw => by
  have hk : en_kind w = true := by
    obtain ⟨k, -, rfl⟩ := List.mem_map.mp hw
    unfold u_lay
    split <;> rfl
  exact en_kind_on hk rfl (h w (hm w hw) hk)
theorem la_X0 : ∀ w ∈ u_ws RX0 TX0 1, w ∈ lw_tbl := by decide +kernel
theorem la_X1 : ∀ w ∈ u_ws RX1 TX1 6, w ∈ lw_tbl := by decide +kernel
theorem la_X2 : ∀ w ∈ u_ws RX2 TX2 8, w ∈ lw_tbl := by decide +kernel
theorem la_X3 : ∀ w ∈ u_ws RX3 TX3 8, w ∈ lw_tbl := by decide +kernel
theorem la_X4 : ∀ w ∈ u_ws RX4 TX4 3, w ∈ lw_tbl := by decide +kernel
theorem la_X5 : ∀ w ∈ u_ws RX5 TX5 5, w ∈ lw_tbl := by decide +kernel
theorem la_X6 : ∀ w ∈ u_ws RX6 TX6 6, w ∈ lw_tbl := by decide +kernel
theorem la_X7 : ∀ w ∈ u_ws RX7 TX7 24, w ∈ lw_tbl := by decide +kernel
