theorem am_k26 : (List.range 3).all (fun k => am_okM (258 + k)) = true := by decide +kernel
