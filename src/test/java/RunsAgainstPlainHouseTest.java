import java.util.ArrayList;
import java.util.List;
import java.util.function.IntSupplier;

/** Long runs of calls, drawn by a fixed rule: the program and the plain house must answer alike, call by call. */
public final class RunsAgainstPlainHouseTest {
    private static final int RUNS = 600;
    private static final int CALLS = 512;
    private static final int LOOK_ROUND_EVERY = 64;

    private final Due due;
    private final StringBuilder told = new StringBuilder();
    private final TwinLinks program = new TwinLinks();
    private final PlainHouse plain = new PlainHouse();
    private final List<Integer> from = new ArrayList<>();
    private final List<Integer> to = new ArrayList<>();
    private final int kinds;
    private final int crowd;
    private final int ownsOften;
    private long drawn;

    private RunsAgainstPlainHouseTest(Due due, int run) {
        this.due = due;
        drawn = run * 7919L + 17;
        kinds = 1 + draw(2) * draw(3);
        crowd = 6 + draw(4) * draw(32);
        ownsOften = draw(3);
    }

    public static void main(String[] args) {
        Due due = new Due("RunsAgainstPlainHouseTest");
        for (int run = 0; run < RUNS && !due.anyWrong(); run++) {
            new RunsAgainstPlainHouseTest(due, run).run();
        }
        due.close();
    }

    private int draw(int bound) {
        drawn = drawn * 6364136223846793005L + 1442695040888963407L;
        return (int) ((drawn >>> 33) % bound);
    }

    private void run() {
        int links = 1 + draw(6);
        for (int n = 0; n < links; n++) {
            tell();
        }
        for (int n = links; n < CALLS && !due.anyWrong(); n++) {
            step();
            if (n % LOOK_ROUND_EVERY == 0) {
                lookRound();
            }
        }
        lookRound();
        if (due.anyWrong()) {
            System.out.println(told);
        }
    }

    private void tell() {
        int a = seldomOut(draw(kinds));
        int b = seldomOut(draw(kinds));
        int form = seldomOut(Math.min(2, draw(4)));
        int rule = seldomOut(draw(3) < ownsOften ? 1 : draw(3));
        if (both("link(" + a + ", " + b + ", " + form + ", " + rule + ")",
                () -> plain.link(a, b, form, rule), () -> program.link(a, b, form, rule))) {
            from.add(a);
            to.add(b);
        }
    }

    private int seldomOut(int value) {
        return draw(50) > 0 ? value : draw(2) == 0 ? -1 : 10;
    }

    private void step() {
        int chance = draw(100);
        int l = draw(50) == 0 ? draw(13) - 1 : draw(Math.max(1, from.size()));
        int x = object(l < 0 || l >= from.size() ? 0 : from.get(l));
        int y = object(l < 0 || l >= to.size() ? 0 : to.get(l));
        if (plain.there().size() < crowd ? chance < 20 : chance < 2) {
            int kind = draw(60) == 0 ? draw(14) - 2 : draw(kinds);
            both("make(" + kind + ")", () -> plain.make(kind), () -> program.make(kind));
        } else if (chance < 62) {
            int i = draw(4) == 0 ? draw(draw(2) == 0 ? 3 : 15) - draw(3) : -1;
            both("set(" + l + ", " + x + ", " + y + ", " + i + ")",
                () -> plain.set(l, x, y, i), () -> program.set(l, x, y, i));
        } else if (chance < 66) {
            both("cut(" + l + ", " + x + ", " + y + ")", () -> plain.cut(l, x, y), () -> program.cut(l, x, y));
        } else if (chance < 69) {
            both("drop(" + x + ")", () -> plain.drop(x), () -> program.drop(x));
        } else if (chance < 72) {
            both("copy(" + x + ")", () -> plain.copy(x), () -> program.copy(x));
        } else if (chance < 76) {
            both("begin()", plain::begin, program::begin);
        } else if (chance < 79) {
            boolean kept = draw(2) == 0;
            both("end(" + kept + ")", () -> plain.end(kept), () -> program.end(kept));
        } else if (chance < 80 && draw(8) == 0) {
            tell();
        } else {
            question(l, x, y);
        }
    }

    private void question(int l, int x, int y) {
        int i = draw(8) - 2;
        switch (draw(8)) {
            case 0 -> both("alike(" + x + ", " + y + ")", () -> plain.alike(x, y), () -> program.alike(x, y) ? 1 : 0);
            case 1 -> both("at(" + l + ", " + x + ", " + i + ")", () -> plain.at(l, x, i), () -> program.at(l, x, i));
            case 2 -> both("back(" + l + ", " + y + ", " + i + ")",
                () -> plain.back(l, y, i), () -> program.back(l, y, i));
            case 3 -> both("ask(" + x + ", " + i + ")", () -> plain.ask(x, i), () -> program.ask(x, i));
            case 4 -> both("size(" + l + ", " + x + ", " + i + ")",
                () -> plain.size(l, x, i), () -> program.size(l, x, i));
            case 5 -> both("way(" + x + ", " + y + ")", () -> plain.way(x, y), () -> program.way(x, y));
            case 6 -> both("path(" + i + ")", () -> plain.path(i), () -> program.path(i));
            default -> both("count(" + i + ")", () -> plain.count(i), () -> program.count(i));
        }
    }

    /** Mostly one that is there and of the KIND, and often one of the first: so rows fill, and rings come about. */
    private int object(int kind) {
        List<Integer> there = draw(30) > 0 ? plain.thereOfKind(kind) : plain.there();
        if (there.isEmpty() || draw(50) == 0) {
            return draw(plain.count(2) + 4) - 2;
        }
        return there.get(draw(draw(2) == 0 ? Math.min(8, there.size()) : there.size()));
    }

    private void lookRound() {
        for (int what = 0; what < 6; what++) {
            int each = what;
            both("count(" + each + ")", () -> plain.count(each), () -> program.count(each));
        }
        for (int i = 0; i <= plain.count(4); i++) {
            int place = i;
            both("path(" + place + ")", () -> plain.path(place), () -> program.path(place));
        }
        for (int x : plain.there()) {
            for (int what = 0; what < 6; what++) {
                int each = what;
                both("ask(" + x + ", " + each + ")", () -> plain.ask(x, each), () -> program.ask(x, each));
            }
            for (int l = 0; l < plain.count(0); l++) {
                lookAtRows(l, x);
            }
        }
    }

    private void lookAtRows(int l, int x) {
        for (int i = 0; i <= 12; i++) {
            int place = i;
            if (!both("at(" + l + ", " + x + ", " + i + ")",
                    () -> plain.at(l, x, place), () -> program.at(l, x, place))) {
                break;
            }
        }
        for (int i = 0; i <= 12; i++) {
            int place = i;
            if (!both("back(" + l + ", " + x + ", " + i + ")",
                    () -> plain.back(l, x, place), () -> program.back(l, x, place))) {
                break;
            }
        }
    }

    /** Whether the call that was due to answer did not throw. */
    private boolean both(String call, IntSupplier wanted, IntSupplier made) {
        String want = Due.outcome(wanted);
        told.append(call).append(" -> ").append(want).append('\n');
        due.same(call, want, Due.outcome(made));
        return !want.endsWith("Exception");
    }
}
