theorem hm_le.ret {α : Type} {v r : α} {h h' : hm_T} (hf : some (v, h) = some (r, h')) : hm_le h h' := by cases hf; exact hm_le.rf
theorem hm_le.retv {h h' : hm_T} (hf : some h = some h') : hm_le h h' := by cases hf; exact hm_le.rf
