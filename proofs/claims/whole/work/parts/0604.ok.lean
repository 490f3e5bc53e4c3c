theorem am_k3 : (List.range 18).all (fun k => am_okM (32 + k)) = true := by decide +kernel
