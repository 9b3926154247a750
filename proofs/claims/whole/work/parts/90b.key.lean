theorem cd_assS (vm : Vm) (c : ClassId) : vm.assignable c c = true := by
  show vm.assignableAux (255 + 1) c c = true
  rw [Vm.assignableAux, beq_self_eq_true, Bool.true_or]
theorem cs_4_Key {X : cd_E} : cd_CA X 4 "CertificateDesk$Key" := by
  intro s args hts hG comp hcomp
  obtain ⟨-, hfc, hkc⟩ := hG.1.1 4 _ rfl
  cases hcomp.symm.trans hfc
  exact ⟨cd_assS _ _, hkc⟩
