theorem am_k17 : (List.range 10).all (fun k => am_okM (200 + k)) = true := by decide +kernel
