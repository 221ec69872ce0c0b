/-! constructors: the world grows; what holds at the start of each -/
theorem gn_RA {U : State} {cA : ClassId} {ty : FieldType} (h : va_RA U cA ty) : U.vm.findClass ("[" ++ ty.toString) = some cA := by
  cases ty with
  | object C =>
    obtain ⟨kA, comp, h1, h2, h3, h4⟩ := h
    exact h4
  | _ => exact h
theorem gn_cls {D : va_G} {cl : List vw_C} {tys : List (ClassId × FieldType)} {s : State} {cA c1 : ClassId} {ty : FieldType} (hK : va_K D cl (tys ++ [(cA, ty)]) s) (k : Nat) (hk : tys[k]? = some (c1, ty)) : cA = c1 := by
  have h1 := gn_RA (hK.2 tys.length (cA, ty) (by simp)).2
  have h2 := gn_RA (hK.2 k (c1, ty) (by rw [List.getElem?_append_left (List.getElem?_eq_some_iff.mp hk).1]; exact hk)).2
  rw [h1] at h2
  exact Option.some.inj h2
/-- the static array FIRST_RULES, its cell in full -/
def gn_FR (cx : gw_Cx) (H : Heap) : Prop := ∃ cell : Cell, H[cx.2.2.1 1004]? = some cell ∧ cell.cls = cx.2.1 1 ∧ (∀ k, cell.vm ≠ .statics k) ∧ cell.vm ≠ .unknown ∧ cell.slots.size = 5 ∧ (∀ j : Nat, j < 5 → cell.slots[j]? = some (.int (Int32.ofInt ((gw_sv 4).getD j 0)))) ∧ ¬ gw_A cx (cx.2.2.1 1004)
theorem gn_FR.kept {cx : gw_Cx} {H H1 : Heap} (h : gn_FR cx H) (hq : ∀ a : Nat, a < H.size → ¬ gw_A cx a → H1[a]? = H[a]?) : gn_FR cx H1 := by
  obtain ⟨cell, h1, h2, h3, h4, h5, h6, h7⟩ := h
  exact ⟨cell, by rw [hq _ (Array.getElem?_eq_some_iff.mp h1).1 h7]; exact h1, h2, h3, h4, h5, h6, h7⟩
def gn_St (cx : gw_Cx) (U : State) (H : Heap) : Prop := gw_Stat cx U H ∧ gn_FR cx H ∧ va_Nw (.castable "[I" "java/lang/Cloneable") U ∧ va_AO "FlagWalk$Sheet" U ∧ va_Nw (.arrayOver (.array .int)) U
theorem gn_St.kept {cx : gw_Cx} {U : State} {H H1 : Heap} (h : gn_St cx U H) (hq : ∀ a : Nat, a < H.size → ¬ gw_A cx a → H1[a]? = H[a]?) : gn_St cx U H1 := ⟨h.1.kept hq, h.2.1.kept hq, h.2.2⟩
theorem gn_Nw_same {w : Cond} {u U : State} (hw : w.onTables = true) (hv : U.vm = u.vm) (h : va_Nw w u) : va_Nw w U := va_tabs hw hv.symm h
theorem gn_St.warm {cx : gw_Cx} {s U : State} {H : Heap} (hW : s.WarmedH U.vm) (h : gn_St cx s H) : gn_St cx U H :=
  ⟨h.1.warm hW, h.2.1, h.2.2.1.warmC hW, h.2.2.2.1.moved hW.alike, Jvm.Stand.arrayOver_alikeB hW.alike h.2.2.2.2⟩
theorem gn_St.same {cx : gw_Cx} {u U : State} {H : Heap} (hv : U.vm = u.vm) (h : gn_St cx u H) : gn_St cx U H :=
  have ha : u.vm.Alike U.vm := by rw [hv]; exact Vm.Alike.refl u.vm
  ⟨h.1.same hv, h.2.1, gn_Nw_same rfl hv h.2.2.1, h.2.2.2.1.moved ha, Jvm.Stand.arrayOver_alikeB ha h.2.2.2.2⟩
