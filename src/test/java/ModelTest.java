import java.util.Random;

/** Many runs of calls with drawn arguments: the class must answer as the model does. The seeds are fixed. */
public final class ModelTest {
    private static final Check CHECK = new Check();
    private static final String[] GOES = {"pace", "steps", "far", "with", "met", "day"};
    private static final String[] FADES = {"ink", "place", "deed", "with", "day"};

    private static final int MOST_CALLS = 512;

    private final Random random;
    private final MarginWays real = new MarginWays();
    private final Model model = new Model();
    private final int run;
    private int calls = 0;

    private ModelTest(int run) {
        this.run = run;
        this.random = new Random(run);
    }

    public static void main(String[] args) {
        int runs = args.length > 0 ? Integer.parseInt(args[0]) : 500;
        for (int run = 0; run < runs; run++) {
            new ModelTest(run).play();
        }
        CHECK.end("ModelTest");
    }

    private int draw(int n) {
        return random.nextInt(n);
    }

    private boolean chance(int ofTen) {
        return draw(10) < ofTen;
    }

    // ---- texts

    private String expr(String[] values, int deep) {
        StringBuilder all = new StringBuilder();
        int parts = 1 + draw(3);
        for (int i = 0; i < parts; i++) {
            String[] joints = {"+", "-", "*", "/", "<", "=", " and ", " or "};
            if (i > 0) {
                String joint = joints[draw(8)];
                all.append(joint);
                if (joint.length() > 1 && chance(3)) {
                    all.append("not ");
                }
            }
            if (deep < 4 && chance(3)) {
                all.append("(").append(expr(values, deep + 1)).append(")");
            } else if (chance(6)) {
                all.append(values[draw(values.length)]);
            } else {
                all.append(draw(chance(8) ? 6 : 10000));
            }
        }
        return all.toString();
    }

    private String text() {
        StringBuilder all = new StringBuilder();
        int deeds = 1 + draw(6);
        int[] sizes = new int[deeds];
        int inked = draw(6);
        for (int d = 0; d < deeds; d++) {
            sizes[d] = 1 + draw(8);
            all.append("deed");
            for (int p = 0; p < sizes[d]; p++) {
                all.append(' ').append(chance(inked) ? draw(10) : 0);
            }
            all.append(chance(9) ? ";" : " ;\n");
        }
        int dense = draw(10);
        for (int d = 0; d + 1 < deeds; d++) {
            for (int p = 0; p < Math.min(sizes[d], sizes[d + 1]); p++) {
                if (chance(dense) && all.length() < 420) {
                    all.append("stile ").append(d).append(' ').append(p).append(';');
                }
            }
        }
        int people = draw(7);
        for (int i = 0; i < people; i++) {
            int d = draw(deeds);
            all.append("person ").append(d).append(' ').append(draw(sizes[d])).append(' ').append(draw(chance(5) ? 3 : 10));
            if (chance(8)) {
                d = draw(deeds);
                all.append(" to ").append(d).append(' ').append(draw(sizes[d]));
            }
            all.append(';');
        }
        if (chance(5)) {
            all.append("goes ").append(expr(GOES, 0)).append(';');
        }
        if (chance(5)) {
            all.append("fades ").append(expr(FADES, 0)).append(';');
        }
        return all.length() <= 700 ? all.toString() : "deed 0 0 0;";
    }

    private String spoilt(String text) {
        String[] bits = {"not ", "(", ")", ";", "7", " 12345 ", "x", "deed ", "deed 0;", "person 0 0 1;", "stile 0 0;", "goes 1;",
            "fades ink;", " to 0 0", "<", "=", "+", "ink", "or", " and ", "\n", "A", "" + (char) 255, "((((((", "not not not not ",
            "9", " 8 "};
        String now = text;
        int times = 1 + draw(2);
        for (int i = 0; i < times; i++) {
            int at = draw(now.length() + 1);
            int to = Math.min(now.length(), at + draw(4));
            now = chance(3) ? now.substring(0, at) + now.substring(to)
                : now.substring(0, at) + bits[draw(bits.length)] + (chance(5) ? now.substring(at) : now.substring(to));
        }
        return now.length() <= 700 ? now : now.substring(0, 700);
    }

    private void tell(String text) {
        for (int from = 0; from < text.length(); from += 20) {
            int[] n = new int[5];
            for (int i = 0; i < 20; i++) {
                n[i / 4] = n[i / 4] << 8 | (from + i < text.length() ? text.charAt(from + i) : ' ');
            }
            same("feed", () -> real.feed(n[0], n[1], n[2], n[3], n[4]), () -> model.feed(n));
        }
        int many = chance(9) ? text.length() : draw(760) - 20;
        same("cellar(" + many + ") of: " + text, () -> real.cellar(many), () -> model.cellar(many));
        same("fault of: " + text, real::fault, model::fault);
        for (int what = -1; what <= 14; what++) {
            int w = what;
            same("count(" + what + ")", () -> real.count(w), () -> model.count(w));
        }
    }

    // ---- calls

    /** What is called behind an object's 512th call is free: so neither is called then. */
    private void same(String what, Check.Call call, Check.Call dueCall) {
        if (calls < MOST_CALLS) {
            calls++;
            CHECK.same("run " + run + ": " + what, answer(call), answer(dueCall));
        }
    }

    private static long nothing(Runnable call) {
        call.run();
        return 0;
    }

    private static long answer(Check.Call call) {
        try {
            return call.run();
        } catch (RuntimeException e) {
            if (Check.kindOf(e) == 3) {
                throw e;
            }
            return 1000000 + Check.kindOf(e);
        }
    }

    private int person() {
        return chance(9) ? draw(Math.max(1, model.count(1))) : draw(9) - 2;
    }

    private int deed() {
        return chance(9) ? draw(Math.max(1, model.count(0))) : draw(9) - 2;
    }

    private int place() {
        if (chance(9) && model.count(0) > 0) {
            int deed = draw(model.count(0));
            return 10 * deed + draw(model.deed(deed, 0));
        }
        return chance(5) ? draw(80) - 10 : random.nextInt();
    }

    private int what(int many) {
        return chance(9) ? draw(many) : draw(many + 4) - 2;
    }

    private int upTo(int most) {
        return chance(9) ? draw(most + 1) : draw(most + 8) - 4;
    }

    private void play() {
        same("count(10)", () -> real.count(10), () -> model.count(10));
        int texts = 1 + draw(3);
        for (int t = 0; t < texts; t++) {
            String text = text();
            if (chance(5)) {
                tell(spoilt(text));
            }
            tell(text);
            int calls = 60;
            for (int i = 0; i < calls; i++) {
                call(draw(34));
            }
        }
        int left = 45;
        for (int i = 0; i < left && chance(9); i++) {
            same("undo()", real::undo, model::undo);
        }
        wholeState();
    }

    private void wholeState() {
        for (int what = 0; what < 14; what++) {
            int w = what;
            same("count(" + w + ")", () -> real.count(w), () -> model.count(w));
        }
        for (int i = 0; i < model.count(1); i++) {
            for (int what = 0; what < 6; what++) {
                int p = i;
                int w = what;
                same("person(" + p + ", " + w + ")", () -> real.person(p, w), () -> model.person(p, w));
            }
        }
        for (int i = 0; i < model.count(0); i++) {
            for (int what = 0; what < 5; what++) {
                int d = i;
                int w = what;
                same("deed(" + d + ", " + w + ")", () -> real.deed(d, w), () -> model.deed(d, w));
            }
        }
        for (int i = 0; i < 58; i++) {
            int p = i;
            same("ink(" + p + ")", () -> real.ink(p), () -> model.ink(p));
        }
    }

    private void call(int which) {
        int p = person();
        int q = person();
        int d = deed();
        int a = place();
        int b = place();
        int days = upTo(60);
        int w;
        switch (which) {
            case 0, 1 -> {
                int many = chance(9) ? 1 + draw(6) : draw(24) - 2;
                same("days(" + many + ")", () -> real.days(many), () -> model.days(many));
            }
            case 2, 3 -> {
                int much = chance(5) ? 0 : upTo(9);
                same("type(" + a + ", " + much + ")", () -> real.type(a, much), () -> model.type(a, much));
            }
            case 4, 5 -> {
                boolean is = chance(7);
                same("stile(" + a + ", " + is + ")", () -> real.stile(a, is) ? 1 : 0, () -> model.stile(a, is) ? 1 : 0);
            }
            case 6, 7 -> {
                int to = chance(8) ? a : -1;
                same("send(" + p + ", " + to + ")", () -> real.send(p, to), () -> model.send(p, to));
            }
            case 8 -> same("let(" + p + ", " + a + ")", () -> real.let(p, a), () -> model.let(p, a));
            case 9 -> same("undo()", real::undo, model::undo);
            case 10 -> {
                w = what(4);
                same("then(" + p + ", " + days + ", " + w + ")", () -> real.then(p, days, w), () -> model.then(p, days, w));
            }
            case 11 -> same("comes(" + p + ")", () -> real.comes(p), () -> model.comes(p));
            case 12 -> same("meet(" + p + ", " + q + ")", () -> real.meet(p, q), () -> model.meet(p, q));
            case 13 -> {
                w = what(3);
                same("later(" + days + ", " + w + ")", () -> real.later(days, w), () -> model.later(days, w));
            }
            case 14 -> same("clear(" + a + ")", () -> real.clear(a), () -> model.clear(a));
            case 15, 16 -> {
                w = what(4);
                same("way(" + a + ", " + b + ", " + w + ")", () -> real.way(a, b, w), () -> model.way(a, b, w));
            }
            case 17 -> same("reached(" + a + ", " + d + ")", () -> real.reached(a, d), () -> model.reached(a, d));
            case 18 -> {
                w = what(2);
                same("farthest(" + a + ", " + w + ")", () -> real.farthest(a, w), () -> model.farthest(a, w));
            }
            case 19 -> {
                w = what(2);
                same("gather(" + w + ")", () -> real.gather(w), () -> model.gather(w));
            }
            case 20 -> {
                w = what(2);
                same("errands(" + w + ")", () -> real.errands(w), () -> model.errands(w));
            }
            case 21 -> same("errand(" + p + ")", () -> real.errand(p), () -> model.errand(p));
            case 22 -> {
                int many = upTo(chance(5) ? 4 : 20);
                same("see(" + p + ", " + d + ", " + many + ")", () -> real.see(p, d, many), () -> model.see(p, d, many));
            }
            default -> callMore(which, p, q, a, b, days);
        }
    }

    private void callMore(int which, int p, int q, int a, int b, int days) {
        int w;
        switch (which) {
            case 23 -> {
                if (chance(4)) {
                    same("forget()", () -> nothing(real::forget), () -> nothing(model::forget));
                }
                same("count(9)", () -> real.count(9), () -> model.count(9));
            }
            case 24 -> {
                w = what(3);
                same("quick(" + w + ")", () -> real.quick(w), () -> model.quick(w));
            }
            case 25 -> {
                w = what(2);
                same("look(" + w + ")", () -> real.look(w), () -> model.look(w));
            }
            case 26 -> {
                int many = chance(9) ? 1 + draw(5) : draw(9) - 1;
                int tenths = upTo(10);
                same("candles(" + p + ", " + many + ", " + tenths + ")", () -> real.candles(p, many, tenths),
                    () -> model.candles(p, many, tenths));
            }
            case 27 -> {
                w = what(2);
                same("game(" + p + ", " + q + ", " + w + ")", () -> real.game(p, q, w), () -> model.game(p, q, w));
            }
            case 28 -> {
                w = what(3);
                int seed = random.nextInt();
                same("years(" + seed + ", " + days + ", " + w + ")", () -> real.years(seed, days, w),
                    () -> model.years(seed, days, w));
            }
            case 29 -> {
                w = what(2);
                same("ahead(" + days + ", " + w + ")", () -> real.ahead(days, w), () -> model.ahead(days, w));
            }
            case 30 -> same("ways(" + a + ", " + b + ")", () -> real.ways(a, b), () -> model.ways(a, b));
            case 31 -> same("near(" + p + ")", () -> real.near(p), () -> model.near(p));
            case 32 -> same("gone(" + p + ", " + days + ")", () -> real.gone(p, days), () -> model.gone(p, days));
            default -> {
                if (chance(4)) {
                    same("image()", () -> nothing(real::image), () -> nothing(model::image));
                } else {
                    same("restore()", () -> real.restore() ? 1 : 0, () -> model.restore() ? 1 : 0);
                }
                if (chance(3)) {
                    wholeState();
                }
            }
        }
    }
}
