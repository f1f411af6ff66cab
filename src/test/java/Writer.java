import java.util.ArrayList;
import java.util.List;
import java.util.Random;

/** Writes random programs, with more brackets, signs and semicolons than they need. */
final class Writer {
    private final Random random;
    private final int budget;
    private final List<Integer> text = new ArrayList<>();
    private final int[] counts = {-1, -1, -1, -1};
    private int names = 3;

    Writer(Random random, int budget) {
        this.random = random;
        this.budget = budget;
    }

    List<Integer> program() {
        boolean faulty = random.nextInt(8) == 0;
        int procs = random.nextInt(3);
        for (int p = 0; p < procs; p++) {
            counts[p] = random.nextInt(3);
        }
        names = 2 + random.nextInt(6);
        for (int p = 0; p < procs; p++) {
            int name = faulty && random.nextInt(3) == 0 ? random.nextInt(4) : p;
            proc(name, counts[p], faulty);
        }
        if (faulty && random.nextBoolean()) {
            counts[random.nextInt(4)] = random.nextInt(3);
        }
        write(171);
        statements(3);
        write(163);
        return text;
    }

    private void proc(int p, int count, boolean faulty) {
        write(170, 110 + p, 122);
        int first = random.nextInt(4);
        for (int k = 0; k < count; k++) {
            if (k > 0) {
                write(124);
            }
            write(100 + first + (faulty && random.nextInt(4) == 0 ? 0 : k));
        }
        write(123);
        if (random.nextInt(3) == 0) {
            write(172, 100 + first + (faulty ? 0 : count));
            if (random.nextBoolean()) {
                write(124, 100 + first + count + 1);
            }
        }
        write(171);
        statements(2);
        write(163);
    }

    private void write(int... tokens) {
        for (int token : tokens) {
            text.add(token);
        }
    }

    private boolean roomy() {
        return text.size() < budget;
    }

    private void statements(int depth) {
        int count = random.nextInt(4) + (depth == 3 ? 1 : 0);
        for (int k = 0; k < count; k++) {
            if (k > 0 || random.nextInt(6) == 0) {
                write(121);
            }
            while (random.nextInt(7) == 0) {
                write(121);
            }
            if (roomy()) {
                statement(depth);
            }
        }
        if (random.nextInt(6) == 0) {
            write(121);
        }
    }

    private void statement(int depth) {
        int sort = random.nextInt(depth > 0 ? 12 : 7);
        switch (sort) {
            case 0, 1 -> {
                write(100 + random.nextInt(names), 120);
                expression(3);
            }
            case 2 -> {
                write(108, 125);
                expression(1);
                write(126, 120);
                expression(2);
            }
            case 3, 4 -> {
                write(169);
                expression(3);
            }
            case 5 -> {
                if (someProc() < 0 || random.nextInt(3) == 0) {
                    write(168);
                    expression(2);
                } else {
                    call(2);
                }
            }
            case 6 -> counting();
            case 7, 8 -> {
                write(164);
                expression(2);
                write(165);
                statements(depth - 1);
                write(163);
            }
            case 9 -> {
                write(166);
                statements(depth - 1);
                write(167);
                expression(2);
            }
            default -> choice(depth);
        }
    }

    private void counting() {
        int name = 100 + random.nextInt(names);
        write(name, 120, name, 130 + random.nextInt(2), random.nextInt(4));
    }

    private void choice(int depth) {
        write(160);
        expression(2);
        write(161);
        statements(depth - 1);
        while (roomy() && random.nextInt(3) == 0) {
            write(173);
            expression(2);
            write(161);
            statements(depth - 1);
        }
        if (random.nextBoolean()) {
            write(162);
            statements(depth - 1);
        }
        write(163);
    }

    private int someProc() {
        int p = random.nextInt(4);
        for (int k = 0; k < 4; k++) {
            if (counts[(p + k) % 4] >= 0) {
                return (p + k) % 4;
            }
        }
        return -1;
    }

    private void call(int depth) {
        int p = someProc();
        write(110 + p, 122);
        for (int k = 0; k < counts[p]; k++) {
            if (k > 0) {
                write(124);
            }
            expression(depth - 1);
        }
        write(123);
    }

    private void expression(int depth) {
        simple(depth);
        if (random.nextInt(4) == 0) {
            write(140 + random.nextInt(6));
            simple(depth);
        }
    }

    private void simple(int depth) {
        int sign = random.nextInt(6);
        if (sign < 2) {
            write(130 + sign);
        }
        term(depth);
        while (roomy() && random.nextInt(3) == 0) {
            int operator = random.nextInt(3);
            write(operator == 2 ? 151 : 130 + operator);
            term(depth);
        }
    }

    private void term(int depth) {
        factor(depth);
        while (roomy() && random.nextInt(4) == 0) {
            int operator = random.nextInt(6);
            write(operator >= 4 ? 150 : operator == 3 ? 132 : 132 + operator);
            factor(depth);
        }
    }

    private void factor(int depth) {
        int sort = random.nextInt(depth > 0 && roomy() ? 12 : 5);
        if (sort < 2) {
            write(random.nextInt(4) == 0 ? random.nextInt(100) : random.nextInt(4));
        } else if (sort < 5) {
            write(100 + random.nextInt(names));
        } else if (sort < 6) {
            write(108, 125);
            expression(depth - 1);
            write(126);
        } else if (sort < 7) {
            write(152);
            factor(depth);
        } else if (sort < 9 && someProc() >= 0) {
            call(depth);
        } else {
            write(122);
            expression(depth - 1);
            write(123);
        }
    }
}
