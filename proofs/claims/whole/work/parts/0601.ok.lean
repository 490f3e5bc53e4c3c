theorem am_k0 : (List.range 10).all (fun k => am_okM (0 + k)) = true := by decide +kernel
