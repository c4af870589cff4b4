import java.util.ArrayList;
import java.util.Arrays;
import java.util.List;

/**
 * Long runs of calls, told by a fixed seed, on HatterTunes and on a slow model that is written otherwise:
 * heads are objects of Java classes that stand under one another, a SHOP is a tree, a FAULT is
 * found by trying beginnings, an anthem by trying every row.
 */
public final class ModelTest {
    private static final int RUNS = 1500, CALLS = 500;
    private static long seed = 20261118;
    private static int wrong = 0;

    public static void main(String[] args) {
        long checked = 0;
        for (int run = 0; run < RUNS && wrong == 0; run++) {
            checked += runCalls(run);
        }
        System.out.println(wrong == 0 ? checked + " answers are as the model's" : "not as the model");
        if (wrong != 0) {
            System.exit(1);
        }
    }

    private static int below(int bound) {
        seed = seed * 6364136223846793005L + 1442695040888963407L;
        return (int) ((seed >>> 33) % bound);
    }

    /** Mostly within, at times just outside. */
    private static int about(int from, int to) {
        int chance = below(40);
        if (chance == 0) {
            return from - 1;
        }
        if (chance == 1) {
            return to + 1;
        }
        if (chance == 2) {
            int[] far = {Integer.MIN_VALUE, Integer.MAX_VALUE, -1, -1000, 1000};
            return far[below(far.length)];
        }
        return from + below(to - from + 1);
    }

    // ---- the model

    private static class Head {
        int number, v, age;
        int[] bumps = new int[6];
        int[] row = new int[4];

        int kind() { return 0; }
        int pitch(int sum, int bump, int year) { return sum; }
        int hums(int x) { ran(10); return x + number; }
        int plays(int x) { ran(11); return hums(x) - v; }
        int tells(int x) { ran(12); return plays(x) * 2; }

        Head copy() {
            Head other = make(kind(), number, v);
            other.age = age;
            other.bumps = bumps.clone();
            other.row = row.clone();
            return other;
        }
    }

    private static class Great extends Head {
        @Override int kind() { return 1; }
        @Override int pitch(int sum, int bump, int year) { return sum + v; }
        @Override int plays(int x) { ran(20); return super.plays(x) ^ 6; }
    }

    private static class Small extends Head {
        @Override int kind() { return 2; }
        @Override int pitch(int sum, int bump, int year) { return sum < 0 ? -(-sum >> 1) : sum >> 1; }
        @Override int hums(int x) { ran(30); return super.hums(x * 3); }
    }

    private static class Deaf extends Head {
        @Override int kind() { return 3; }
        @Override int pitch(int sum, int bump, int year) { return bump == v ? 0 : sum; }
        @Override int tells(int x) { ran(40); return super.tells(x) + plays(1); }
    }

    private static final class Lord extends Great {
        @Override int kind() { return 4; }
        @Override int pitch(int sum, int bump, int year) {
            return super.pitch(sum, bump, year) << (bump & 1);
        }
        @Override int hums(int x) { ran(50); return -super.hums(x); }
        @Override int plays(int x) { ran(51); return super.plays(x + 1); }
    }

    private static final class Boy extends Small {
        @Override int kind() { return 5; }
        @Override int pitch(int sum, int bump, int year) {
            return super.pitch(sum, bump, year) + (age > 9 ? 9 : age);
        }
        @Override int tells(int x) { ran(60); return super.tells(x - number); }
    }

    private static final class Told extends Deaf {
        @Override int kind() { return 6; }
        @Override int pitch(int sum, int bump, int year) {
            return super.pitch(sum, bump, year) + row[year & 3];
        }
        @Override int plays(int x) { ran(70); return super.plays(x) + super.hums(2); }
        @Override int hums(int x) { ran(71); return super.hums(x) ^ v; }
    }

    private static Head make(int kind, int number, int v) {
        Head[] fresh = {new Head(), new Great(), new Small(), new Deaf(), new Lord(), new Boy(), new Told()};
        Head head = fresh[kind];
        head.number = number;
        head.v = v;
        return head;
    }

    private static final List<Integer> bodies = new ArrayList<>();

    private static void ran(int body) {
        bodies.add(body);
    }

    /** Reads a beginning byte by byte, and tells what could come next: a machine without recursion. */
    private static final class Beginning {
        String state = "clause";
        String word = "";
        int clauses = 0;
        // Of each thing that is open: ( or ! ; a ! ends with its factor.
        StringBuilder open = new StringBuilder();

        boolean goesOn(char c) {
            switch (state) {
                case "clause": return word(c);
                case "n": return first(c, "nn");
                case "nn": return digit(c) ? to("nnn") : behindNumber(c);
                case "nnn": return behindNumber(c);
                case "factor": return factor(c);
                case "relation": return "<=>".indexOf(c) >= 0 && to("m");
                case "m": return first(c, "mm");
                case "mm": return digit(c) ? to("mmm") : behindTest(c);
                default: return behindTest(c);
            }
        }

        boolean to(String next) {
            state = next;
            return true;
        }

        boolean digit(char c) {
            return "0123456789".indexOf(c) >= 0;
        }

        boolean first(char c, String next) {
            return digit(c) && to(next);
        }

        boolean word(char c) {
            word += c;
            for (String whole : new String[] {"sharp ", "flat ", "grow "}) {
                if (whole.equals(word)) {
                    clauses++;
                    return to("n");
                }
                if (whole.startsWith(word)) {
                    return true;
                }
            }
            return false;
        }

        boolean behindNumber(char c) {
            if (word.equals("grow ")) {
                return nextClause(c);
            }
            return c == ' ' && to("factor");
        }

        boolean nextClause(char c) {
            word = "";
            return c == ';' && clauses < 10 && to("clause");
        }

        boolean factor(char c) {
            if (c == '!' || c == '(') {
                open.append(c);
                return open.length() <= 4;
            }
            return "pkviby".indexOf(c) >= 0 && to("relation");
        }

        void endDenials() {
            while (open.length() > 0 && open.charAt(open.length() - 1) == '!') {
                open.setLength(open.length() - 1);
            }
        }

        boolean behindTest(char c) {
            endDenials();
            if (c == '&' || c == '|') {
                return to("factor");
            }
            if (open.length() == 0) {
                return nextClause(c);
            }
            open.setLength(open.length() - 1);
            return c == ')' && to("closed");
        }

        boolean mayEnd() {
            if (state.equals("nn") || state.equals("nnn")) {
                return word.equals("grow ");
            }
            endDenials();
            boolean whole = state.equals("mm") || state.equals("mmm") || state.equals("closed");
            return whole && open.length() == 0;
        }
    }

    private static int faultOf(String text) {
        Beginning beginning = new Beginning();
        for (int k = 0; k < text.length(); k++) {
            if (!beginning.goesOn(text.charAt(k))) {
                return k;
            }
        }
        return beginning.mayEnd() ? -1 : text.length();
    }

    /** Splits at the sign where no ( is open; Java's texts do the rest. */
    private static List<String> split(String e, char sign) {
        List<String> parts = new ArrayList<>();
        int open = 0;
        int from = 0;
        for (int k = 0; k < e.length(); k++) {
            char c = e.charAt(k);
            open += c == '(' ? 1 : c == ')' ? -1 : 0;
            if (c == sign && open == 0) {
                parts.add(e.substring(from, k));
                from = k + 1;
            }
        }
        parts.add(e.substring(from));
        return parts;
    }

    private static boolean holds(String e, Head head, int bump, int year) {
        List<String> either = split(e, '|');
        if (either.size() > 1) {
            return either.stream().anyMatch(t -> holds(t, head, bump, year));
        }
        List<String> both = split(e, '&');
        if (both.size() > 1) {
            return both.stream().allMatch(f -> holds(f, head, bump, year));
        }
        if (e.charAt(0) == '!') {
            return !holds(e.substring(1), head, bump, year);
        }
        if (e.charAt(0) == '(') {
            return holds(e.substring(1, e.length() - 1), head, bump, year);
        }
        int[] facts = {head.number, head.kind(), head.v, bump, head.bumps[bump], year % 10};
        int order = Integer.compare(facts["pkviby".indexOf(e.charAt(0))], Integer.parseInt(e.substring(2)));
        return order == "<=>".indexOf(e.charAt(1)) - 1;
    }

    private static final class Model {
        List<Head> heads = new ArrayList<>();
        List<Integer> tune = new ArrayList<>();
        List<int[]> seen = new ArrayList<>(), plan = new ArrayList<>(), book = new ArrayList<>();
        String shop = "";
        int year = 0;

        Model copy() {
            Model other = new Model();
            heads.forEach(h -> other.heads.add(h.copy()));
            other.tune.addAll(tune);
            other.seen.addAll(seen);
            other.plan.addAll(plan);
            other.book.addAll(book);
            other.shop = shop;
            other.year = year;
            return other;
        }

        Model after(int n) {
            Model other = copy();
            for (int k = 0; k < n; k++) {
                other.age();
            }
            return other;
        }

        int growth() {
            int growth = 0;
            for (String clause : shop.split(";")) {
                if (clause.startsWith("grow")) {
                    growth = Integer.parseInt(clause.substring(5));
                }
            }
            return growth;
        }

        void age() {
            int growth = growth();
            for (Head head : heads) {
                if (growth > 0 && year % growth == 0) {
                    int b = (year + head.number) % 6;
                    head.bumps[b] = head.bumps[b] == 9 ? 0 : head.bumps[b] + 1;
                }
                head.age++;
            }
            year++;
        }

        int pitch(int h, int b) {
            Head head = heads.get(h);
            int sum = head.bumps[b];
            for (String clause : shop.split(";")) {
                String[] parts = clause.split(" ");
                if (parts.length == 3 && holds(parts[2], head, b, year)) {
                    sum += Integer.parseInt(parts[1]) * (parts[0].equals("sharp") ? 1 : -1);
                }
            }
            return head.pitch(sum, b, year);
        }

        int note(int h, int b) {
            int pitch = pitch(h, b);
            return (pitch % 10 + 10) % 10;
        }

        String sound(int h) {
            StringBuilder sound = new StringBuilder();
            for (int b = 0; b < 6; b++) {
                sound.append(note(h, b));
            }
            return sound.toString();
        }

        int heard(int h) {
            StringBuilder wanted = new StringBuilder();
            tune.forEach(wanted::append);
            int place = sound(h).indexOf(wanted.toString());
            return place < 0 ? -5 : place;
        }

        int heardBits() {
            int bits = 0;
            for (int h = 0; h < heads.size(); h++) {
                bits += heard(h) < 0 ? 0 : 1 << h;
            }
            return bits;
        }

        int notes() {
            int sum = 0;
            for (int h = 0; h < heads.size(); h++) {
                sum += sound(h).chars().map(c -> c - '0').sum();
            }
            return sum;
        }

        boolean so(int h) {
            return seen.stream().allMatch(r -> r[0] != h || after(r[2]).note(h, r[1]) == r[3]);
        }

        Model pressed(int h, int b, int n) {
            Model other = copy();
            other.heads.get(h).bumps[b] = n;
            return other;
        }

        int[] presses(int h) {
            int count = 0;
            int least = -5;
            for (int k = 59; k >= 0; k--) {
                if (pressed(h, k / 10, k % 10).heard(h) >= 0) {
                    count++;
                    least = k;
                }
            }
            return new int[] {count, least};
        }

        int when(int h) {
            Model other = copy();
            for (int n = 0; n <= 60; n++) {
                if (other.heard(h) >= 0) {
                    return n;
                }
                other.age();
            }
            return -5;
        }

        int possible(int h, int b) {
            int bits = 0;
            for (int n = 0; n < 10; n++) {
                bits += pressed(h, b, n).so(h) ? 1 << n : 0;
            }
            return bits;
        }

        int[] can(int h) {
            int many = 0;
            int least = -5;
            for (int v = 9; v >= 0; v--) {
                Model other = copy();
                other.heads.get(h).v = v;
                if (other.so(h)) {
                    many++;
                    least = v;
                }
            }
            return new int[] {many, least};
        }

        int shared(int one, int other) {
            int most = 0;
            for (int n = 1; n <= 6; n++) {
                if (sound(one).endsWith(sound(other).substring(0, n))) {
                    most = n;
                }
            }
            return most;
        }

        int[] anthem(int bits) {
            int size = Integer.bitCount(bits);
            int[][] shares = new int[6][6];
            for (int one = 0; one < heads.size(); one++) {
                for (int other = 0; other < heads.size(); other++) {
                    shares[one][other] = shared(one, other);
                }
            }
            int[] best = null;
            int rows = (int) Math.pow(6, size);
            for (int code = 0; code < rows; code++) {
                int[] row = new int[7];
                int used = 0;
                int rest = code;
                for (int k = size - 1; k >= 0; k--) {
                    row[k] = rest % 6;
                    used |= 1 << row[k];
                    rest /= 6;
                }
                if (used != bits) {
                    continue;
                }
                row[6] = 6 * size;
                for (int k = 1; k < size; k++) {
                    row[6] -= shares[row[k - 1]][row[k]];
                }
                if (best == null || row[6] < best[6]) {
                    best = row;
                }
            }
            return best;
        }

        Model ended() {
            Model other = copy();
            for (int[] r : plan) {
                Head head = r[0] == 0 ? null : other.heads.get(r[1]);
                if (r[0] == 0) {
                    other.age();
                } else if (r[0] == 1) {
                    Arrays.fill(head.bumps, 0);
                } else if (r[0] == 2) {
                    head.age = 0;
                } else {
                    Arrays.setAll(head.bumps, b -> (head.bumps[b] + 1) % 10);
                }
            }
            return other;
        }

        int looked() {
            for (int k = 0; k < book.size(); k++) {
                if (heads.get(book.get(k)[0]).age != book.get(k)[1]) {
                    return k;
                }
            }
            return -5;
        }
    }

    // ---- calls

    private static Model now;
    private static Model kept;
    private static StringBuilder text;
    private static int shops;
    private static List<String> log;

    private static void same(String call, long got, long want) {
        log.add(call + " = " + got);
        if (got != want && wrong == 0) {
            wrong++;
            log.forEach(System.out::println);
            System.out.println("the last answered " + got + ", the model " + want);
        }
    }

    private static int runCalls(int run) {
        HatterTunes x = new HatterTunes();
        now = new Model();
        kept = null;
        text = new StringBuilder();
        shops = 0;
        bodies.clear();
        log = new ArrayList<>();
        int start = below(7);
        for (int k = 0; k < start; k++) {
            callHead(x, below(7), below(10));
        }
        while (log.size() < CALLS && wrong == 0) {
            switch (below(6)) {
                case 0: change(x); break;
                case 1: tell(x); break;
                case 2: writeShop(x); break;
                case 3: remember(x); break;
                default: ask(x); break;
            }
        }
        return log.size();
    }

    private static boolean has(int head) {
        return head >= 0 && head < now.heads.size();
    }

    private static boolean in(int n, int from, int to) {
        return n >= from && n <= to;
    }

    private static void callHead(HatterTunes x, int kind, int v) {
        int want = !in(kind, 0, 6) ? -1 : !in(v, 0, 9) ? -2 : now.heads.size() == 6 ? -4 : now.heads.size();
        if (want >= 0) {
            now.heads.add(make(kind, want, v));
        }
        same("head(" + kind + ", " + v + ")", x.head(kind, v), want);
    }

    private static void change(HatterTunes x) {
        int h = about(0, Math.max(0, now.heads.size() - 1));
        int n = about(0, 9);
        int b = about(0, 5);
        int want;
        switch (below(4)) {
            case 0:
                callHead(x, about(0, 6), n);
                break;
            case 1:
                want = !has(h) || !in(b, 0, 5) ? -1 : !in(n, 0, 9) ? -2 : now.heads.get(h).bumps[b];
                if (want >= 0) {
                    now.heads.get(h).bumps[b] = n;
                }
                same("press(" + h + ", " + b + ", " + n + ")", x.press(h, b, n), want);
                break;
            case 2:
                b = about(0, 3);
                want = !has(h) || !in(b, 0, 3) ? -1 : !in(n, 0, 9) ? -2
                    : now.heads.get(h).kind() != 6 ? -3 : now.heads.get(h).row[b];
                if (want >= 0) {
                    now.heads.get(h).row[b] = n;
                }
                same("row(" + h + ", " + b + ", " + n + ")", x.row(h, b, n), want);
                break;
            default:
                n = below(4) == 0 ? about(0, 60) : below(4);
                want = !in(n, 0, 60) ? -2 : now.year + n > 9999 ? -3 : now.year + n;
                if (want >= 0) {
                    now = now.after(n);
                }
                same("pass(" + n + ")", x.pass(n), want);
                break;
        }
    }

    private static void tell(HatterTunes x) {
        int h = about(-1, Math.max(0, now.heads.size() - 1));
        int b = about(0, 5);
        int n = about(0, 9);
        int years = about(0, 12);
        switch (below(4)) {
            case 0:
                n = below(5) == 0 ? -1 : n;
                add("note(" + n + ")", x.note(n), n == -1, !in(n, 0, 9) ? -2 : 0, now.tune.size(), 8);
                if (n == -1) {
                    now.tune.clear();
                } else if (in(n, 0, 9) && now.tune.size() < 8) {
                    now.tune.add(n);
                }
                break;
            case 1:
                int refused = !has(h) || !in(b, 0, 5) ? -1 : !in(years, 0, 12) || !in(n, 0, 9) ? -2 : 0;
                if (refused == 0 && below(3) > 0) {
                    n = now.after(years).note(h, b);
                }
                add("see(" + h + ", " + b + ", " + years + ", " + n + ")", x.see(h, b, years, n),
                    h == -1, refused, now.seen.size(), 5);
                list(now.seen, h == -1, refused, 5, h, b, years, n);
                break;
            case 2:
                int what = about(-1, 3);
                refused = !in(what, 0, 3) || (what > 0 && !has(h)) ? -1 : 0;
                add("plan(" + what + ", " + h + ")", x.plan(what, h), what == -1, refused, now.plan.size(), 10);
                list(now.plan, what == -1, refused, 10, what, h);
                break;
            default:
                int age = has(h) && below(3) > 0 ? now.heads.get(h).age : about(0, 9999);
                refused = !has(h) ? -1 : !in(age, 0, 9999) ? -2 : 0;
                add("book(" + h + ", " + age + ")", x.book(h, age), h == -1, refused, now.book.size(), 8);
                list(now.book, h == -1, refused, 8, h, age);
                break;
        }
    }

    private static void add(String call, int got, boolean emptied, int refused, int size, int limit) {
        same(call, got, emptied ? 0 : refused != 0 ? refused : size == limit ? -4 : size + 1);
    }

    private static void list(List<int[]> rows, boolean emptied, int refused, int limit, int... row) {
        if (emptied) {
            rows.clear();
        } else if (refused == 0 && rows.size() < limit) {
            rows.add(row);
        }
    }

    private static String randomE(int depth) {
        int choice = below(10);
        if (depth < 5 && choice == 0) {
            return "!" + randomE(depth + 1);
        }
        if (depth < 5 && choice == 1) {
            return "(" + randomE(depth + 1) + ")";
        }
        if (depth < 5 && choice < 5) {
            return randomE(depth + 1) + "&|".charAt(below(2)) + randomE(depth + 1);
        }
        return "" + "pkviby".charAt(below(6)) + "<=>".charAt(below(3)) + below(below(5) == 0 ? 100 : 7);
    }

    private static String randomShop() {
        StringBuilder made = new StringBuilder();
        int clauses = 1 + below(below(4) == 0 ? 12 : 4);
        for (int c = 0; c < clauses; c++) {
            made.append(c == 0 ? "" : ";");
            int choice = below(4);
            if (choice == 0 || clauses > 6) {
                made.append("grow ").append(below(below(3) == 0 ? 100 : 4));
            } else {
                made.append(choice == 1 ? "flat " : "sharp ").append(below(30)).append(' ').append(randomE(1));
            }
        }
        for (int spoiled = below(8); spoiled == 0; spoiled = below(3)) {
            String signs = "sharpflatgow 0123456789!()&|<=>;pkviby";
            int at = below(made.length());
            if (below(2) == 0) {
                made.setCharAt(at, signs.charAt(below(signs.length())));
            } else {
                made.insert(at, signs.charAt(below(signs.length())));
            }
        }
        return made.toString();
    }

    private static void writeShop(HatterTunes x) {
        if (log.size() > CALLS - 110 || below(4) > 0) {
            return;
        }
        String made = randomShop();
        for (int k = 0; k < made.length(); k++) {
            feed(x, made.charAt(k));
        }
        if (below(9) == 0) {
            feed(x, about(0, 127));
        }
        int want;
        if (shops == 6) {
            want = -4;
        } else {
            String whole = text.toString();
            int fault = faultOf(whole);
            text.setLength(0);
            want = fault < 0 ? shops++ : -10 - fault;
            now.shop = fault < 0 ? whole : now.shop;
        }
        same("shop()", x.shop(), want);
    }

    private static void feed(HatterTunes x, int sign) {
        int want = !in(sign, 0, 127) ? -2 : text.length() == 100 ? -4 : text.length() + 1;
        if (want > 0) {
            text.append((char) sign);
        }
        same("feed(" + sign + ")", x.feed(sign), want);
    }

    private static void remember(HatterTunes x) {
        switch (below(8)) {
            case 0:
                kept = now.copy();
                same("image()", x.image(), now.heads.size());
                break;
            case 1:
                now = kept == null ? now : kept.copy();
                same("undo()", x.undo(), kept == null ? -3 : now.heads.size());
                break;
            default:
                act(x, about(0, Math.max(0, now.heads.size() - 1)), about(0, 2), about(-99, 99));
                break;
        }
    }

    private static void act(HatterTunes x, int h, int act, int n) {
        bodies.clear();
        int want = 0;
        if (has(h) && in(act, 0, 2)) {
            Head head = now.heads.get(h);
            want = act == 0 ? head.hums(n) : act == 1 ? head.plays(n) : head.tells(n);
        }
        same("act(" + h + ", " + act + ", " + n + ")", x.act(h, act, n), want);
        same("count(6)", x.count(6), bodies.size());
        int i = below(14);
        same("trace(" + i + ")", x.trace(i), i < bodies.size() ? bodies.get(i) : -1);
    }

    private static void ask(HatterTunes x) {
        int h = about(0, Math.max(0, now.heads.size() - 1));
        switch (below(10)) {
            case 0: askOf(x, h); break;
            case 1: askOf(x, h); break;
            case 2: askTold(x); break;
            case 3: askOn(x, h); break;
            case 4: askRows(x, h); break;
            case 5: askCan(x, h); break;
            case 6: askOdds(x, h); break;
            case 7: askMean(x); break;
            case 8: askEnds(x); break;
            default: askCount(x, h); break;
        }
    }

    private static void askOf(HatterTunes x, int h) {
        int what = below(2) == 0 ? below(7) : 10 * about(1, 4) + about(0, 5);
        int want = -10001;
        if (has(h)) {
            Head head = now.heads.get(h);
            int b = what % 10;
            int group = what / 10;
            boolean bump = in(b, 0, 5);
            want = what == 0 ? head.kind() : what == 1 ? head.v : what == 2 ? head.age
                : what == 3 ? Integer.parseInt(now.sound(h)) : what == 4 ? now.heard(h)
                : what == 5 ? now.when(h) : what == 6 ? now.presses(h)[1]
                : bump && group == 1 ? head.bumps[b] : bump && group == 2 ? now.note(h, b)
                : bump && group == 3 ? now.pitch(h, b) : bump && group == 4 ? now.possible(h, b) : -10001;
        }
        same("of(" + h + ", " + what + ")", x.of(h, what), want);
    }

    private static void askTold(HatterTunes x) {
        int what = below(2) == 0 ? about(0, 3) : about(10, 17);
        int want = what == 0 ? now.year : what == 1 ? now.growth() : what == 2 ? now.heardBits()
            : what == 3 ? now.notes() : in(what, 10, 9 + now.tune.size()) ? now.tune.get(what - 10) : -1;
        same("told(" + what + ")", x.told(what), want);
    }

    private static void askOn(HatterTunes x, int h) {
        int n = about(0, 60);
        int what = below(3) == 0 ? 20 : 10 * below(2) + about(0, 5);
        int want;
        if (!has(h) || !(in(what, 0, 5) || in(what, 10, 15) || what == 20)) {
            want = -1;
        } else if (!in(n, 0, 60)) {
            want = -2;
        } else {
            Model then = now.after(n);
            want = what == 20 ? Integer.parseInt(then.sound(h))
                : what >= 10 ? then.heads.get(h).bumps[what - 10] : then.note(h, what);
        }
        same("on(" + n + ", " + h + ", " + what + ")", x.on(n, h, what), want);
    }

    private static void askRows(HatterTunes x, int h) {
        int other = about(0, Math.max(0, now.heads.size() - 1));
        same("shared(" + h + ", " + other + ")", x.shared(h, other),
            has(h) && has(other) ? now.shared(h, other) : -1);
        if (below(4) == 0) {
            int bits = about(0, (1 << now.heads.size()) - 1);
            int k = about(-1, 5);
            int want = !in(k, -1, 5) ? -1 : !in(bits, 0, (1 << now.heads.size()) - 1) ? -2
                : k == -1 ? now.anthem(bits)[6] : k < Integer.bitCount(bits) ? now.anthem(bits)[k] : -5;
            same("anthem(" + bits + ", " + k + ")", x.anthem(bits, k), want);
        }
    }

    private static void askCan(HatterTunes x, int h) {
        int what = about(0, 1);
        int want = !has(h) || !in(what, 0, 1) ? -1 : now.can(h)[what];
        same("can(" + h + ", " + what + ")", x.can(h, what), want);
    }

    private static long lowest(int above, int below, int part) {
        for (int d = below; d > 1; d--) {
            if (above % d == 0 && below % d == 0) {
                return (part == 0 ? above : below) / d;
            }
        }
        return part == 0 ? above : below;
    }

    private static void askOdds(HatterTunes x, int h) {
        int part = about(0, 1);
        long want = !has(h) || !in(part, 0, 1) ? Long.MIN_VALUE : lowest(now.presses(h)[0], 60, part);
        same("odds(" + h + ", " + part + ")", x.odds(h, part), want);
    }

    private static void askMean(HatterTunes x) {
        int n = about(0, 60);
        int part = about(0, 1);
        long want = !in(n, 0, 60) || !in(part, 0, 1) || now.heads.isEmpty() ? Long.MIN_VALUE
            : lowest(now.after(n).notes(), 6 * now.heads.size(), part);
        same("mean(" + n + ", " + part + ")", x.mean(n, part), want);
    }

    private static void askEnds(HatterTunes x) {
        int what = about(0, 1);
        int want = what == 0 ? now.ended().notes() : what == 1 ? now.ended().heardBits() : -1;
        same("ends(" + what + ")", x.ends(what), want);
        same("looked()", x.looked(), now.looked());
    }

    private static void askCount(HatterTunes x, int h) {
        int what = about(0, 7);
        int[] counts = {now.heads.size(), shops, now.seen.size(), now.plan.size(), now.book.size(),
            text.length(), bodies.size(), now.tune.size()};
        same("count(" + what + ")", x.count(what), in(what, 0, 7) ? counts[what] : -2);
        int k = about(0, 6);
        Class<?>[] kinds = {Head.class, Great.class, Small.class, Deaf.class, Lord.class, Boy.class, Told.class};
        int want = !in(k, 0, 6) ? -2 : !has(h) ? -11 : kinds[k].isInstance(now.heads.get(h)) ? now.heads.get(h).kind() : -12;
        same("taken(" + h + ", " + k + ")", x.taken(h, k), want);
    }
}
