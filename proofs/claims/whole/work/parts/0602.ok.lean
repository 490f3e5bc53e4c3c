theorem am_k1 : (List.range 16).all (fun k => am_okM (10 + k)) = true := by decide +kernel
