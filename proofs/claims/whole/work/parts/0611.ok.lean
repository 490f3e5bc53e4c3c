theorem am_k10 : (List.range 17).all (fun k => am_okM (129 + k)) = true := by decide +kernel
