import java.util.ArrayList;
import java.util.Arrays;
import java.util.Comparator;
import java.util.List;
import java.util.NoSuchElementException;
import java.util.TreeSet;

/** The document once more, in the plainest words, with the Java library: what ModelTest compares the class with. */
final class Model {
    static final class Caveat {
        int kind;
        int a;
        int b;
    }

    static final class Tok {
        int number;
        int object;
        Tok parent;
        int uses;
        int revoker = -1;
        String text;
        List<Caveat> caveats = new ArrayList<>();
        TreeSet<Integer> holders = new TreeSet<>();

        List<Tok> chain() {
            List<Tok> chain = parent == null ? new ArrayList<>() : parent.chain();
            chain.add(this);
            return chain;
        }
    }

    static final class Box {
        int pair;
        int token;
        TreeSet<Integer> holders = new TreeSet<>();
    }

    List<Tok> tokens = new ArrayList<>();
    List<TreeSet<Integer>> sealers = new ArrayList<>();
    List<TreeSet<Integer>> unsealers = new ArrayList<>();
    List<Box> boxes = new ArrayList<>();
    List<int[]> requests = new ArrayList<>();
    int[] content = new int[12];
    int[] calls = new int[12];
    int time;
    List<Integer> expired = new ArrayList<>();
    String buffer = "";
    int errorPosition = -1;
    List<int[]> report = new ArrayList<>();
    Model saved;

    // ---- what is wrong with a call ----

    private static void index(boolean fine) {
        if (!fine) {
            throw new IndexOutOfBoundsException();
        }
    }

    private static void argument(boolean fine) {
        if (!fine) {
            throw new IllegalArgumentException();
        }
    }

    private static void state(boolean fine) {
        if (!fine) {
            throw new IllegalStateException();
        }
    }

    private static void element(boolean fine) {
        if (!fine) {
            throw new NoSuchElementException();
        }
    }

    private void denied(int... codesAndDetails) {
        report = new ArrayList<>();
        for (int i = 0; i < codesAndDetails.length; i += 2) {
            report.add(new int[] {codesAndDetails[i], codesAndDetails[i + 1]});
        }
        throw new UnsupportedOperationException();
    }

    private static boolean in(int number, int bound) {
        return 0 <= number && number < bound;
    }

    private Tok tok(int token) {
        index(in(token, tokens.size()));
        return tokens.get(token);
    }

    private static int set(Iterable<Integer> numbers) {
        int set = 0;
        for (int n : numbers) {
            set += 1 << n;
        }
        return set;
    }

    // ---- tokens ----

    int mint(int subject, int object, int rights) {
        index(in(subject, 6) && in(object, 12));
        argument(in(rights, 16));
        state(tokens.size() < 28);
        Tok made = new Tok();
        Caveat caveat = new Caveat();
        caveat.a = rights;
        caveat.b = -1;
        made.caveats.add(caveat);
        made.text = "r" + rights;
        made.object = object;
        return keep(made, subject);
    }

    private int keep(Tok made, int subject) {
        made.number = tokens.size();
        made.holders.add(subject);
        tokens.add(made);
        return made.number;
    }

    int append(int packed) {
        String signs = "";
        for (byte b : java.nio.ByteBuffer.allocate(4).putInt(packed).array()) {
            if (b != 0) {
                argument(b >= 33 && b <= 126);
                signs += (char) b;
            }
        }
        state(buffer.length() + signs.length() <= 40);
        buffer += signs;
        return buffer.length();
    }

    int derive(int subject, int token) {
        index(in(subject, 6));
        Tok parent = tok(token);
        String text = buffer;
        buffer = "";
        if (!parent.holders.contains(subject)) {
            denied(1, token);
        }
        List<Caveat> caveats = new ArrayList<>();
        errorPosition = read(text, caveats);
        argument(errorPosition == -1);
        state(tokens.size() < 28 && parent.chain().size() < 7);
        Tok made = new Tok();
        made.parent = parent;
        made.object = parent.object;
        made.caveats = caveats;
        made.text = text;
        return keep(made, subject);
    }

    /** The position of the first error, or -1; the states of a machine that takes a sign at a time. */
    static int read(String text, List<Caveat> caveats) {
        int state = 0; // 0 a letter is due, 1 a number begins, 2 in a number, 3 after a number
        Caveat now = null;
        boolean second = false;
        int start = 0;
        String digits = "";
        for (int i = 0; i <= text.length(); i++) {
            char sign = i < text.length() ? text.charAt(i) : 0;
            if (state == 2) {
                boolean more = sign >= '0' && sign <= '9' && digits.length() < 3 && !digits.equals("0");
                if (more) {
                    digits += sign;
                    continue;
                }
                int number = Integer.parseInt(digits);
                if (second) {
                    now.b = number;
                    if (now.b < now.a) {
                        return start;
                    }
                } else {
                    now.a = number;
                    if (now.kind == 0 && number > 15 || now.kind == 2 && number > 5) {
                        return start;
                    }
                }
                if (now.kind == 4 && !second) {
                    if (sign != '-') {
                        return i;
                    }
                    second = true;
                    state = 1;
                    continue;
                }
                state = 3;
            }
            if (state == 3) {
                caveats.add(now);
                if (i == text.length()) {
                    return -1;
                }
                if (sign != ';' || caveats.size() == 4) {
                    return i;
                }
                state = 0;
            } else if (state == 0) {
                int kind = sign == 0 ? -1 : "rtsna".indexOf(sign);
                if (kind < 0) {
                    return i;
                }
                now = new Caveat();
                now.kind = kind;
                now.b = -1;
                second = false;
                state = 1;
            } else {
                if (sign < '0' || sign > '9') {
                    return i;
                }
                digits = "" + sign;
                start = i;
                state = 2;
            }
        }
        return -1;
    }

    int errorPosition() {
        return errorPosition;
    }

    int give(int from, int to, int token) {
        index(in(from, 6) && in(to, 6));
        Tok t = tok(token);
        ask(from, t, 4, 0);
        t.holders.add(to);
        return t.holders.size();
    }

    int drop(int subject, int token) {
        index(in(subject, 6));
        Tok t = tok(token);
        element(t.holders.remove(subject));
        return t.holders.size();
    }

    int revoke(int subject, int token) {
        index(in(subject, 6));
        Tok t = tok(token);
        if (t.chain().stream().noneMatch(c -> c.holders.contains(subject))) {
            denied(1, token);
        }
        if (t.revoker >= 0) {
            return 0;
        }
        t.revoker = subject;
        int number = 0;
        for (Tok other : tokens) {
            List<Tok> chain = other.chain();
            if (chain.contains(t) && chain.stream().allMatch(c -> c == t || c.revoker < 0)) {
                number++;
            }
        }
        return number;
    }

    private static boolean ended(Tok t) {
        return t.chain().stream().anyMatch(c -> c.revoker >= 0);
    }

    int token(int token, int what) {
        Tok t = tok(token);
        argument(in(what, 7));
        int derived = (int) tokens.stream().filter(o -> o.parent == t).count();
        int parent = t.parent == null ? -1 : t.parent.number;
        return new int[] {t.object, parent, t.caveats.size(), t.uses, t.chain().size(), ended(t) ? 1 : 0, derived}[what];
    }

    int caveat(int token, int caveat, int what) {
        Tok t = tok(token);
        index(in(caveat, t.caveats.size()));
        argument(in(what, 3));
        Caveat c = t.caveats.get(caveat);
        return new int[] {c.kind, c.a, c.b}[what];
    }

    int describe(int token, int index) {
        String text = tok(token).text;
        index(index == -1 || in(index, text.length()));
        return index == -1 ? text.length() : text.charAt(index);
    }

    int left(int token, int what) {
        Tok t = tok(token);
        argument(in(what, 6));
        int rights = 15;
        int subjects = 63;
        List<Integer> times = new ArrayList<>();
        List<Integer> uses = new ArrayList<>();
        TreeSet<Integer> arguments = new TreeSet<>();
        for (int a = 0; a <= 999; a++) {
            arguments.add(a);
        }
        for (Tok link : t.chain()) {
            for (Caveat c : link.caveats) {
                if (c.kind == 0) {
                    rights &= c.a;
                } else if (c.kind == 1) {
                    times.add(c.a);
                } else if (c.kind == 2) {
                    subjects &= 1 << c.a;
                } else if (c.kind == 3) {
                    uses.add(Math.max(0, c.a - link.uses));
                } else {
                    arguments.removeIf(a -> a < c.a || a > c.b);
                }
            }
        }
        switch (what) {
            case 0: return rights;
            case 1: return times.stream().min(Comparator.naturalOrder()).orElse(-1);
            case 2: return subjects;
            case 3: return uses.stream().min(Comparator.naturalOrder()).orElse(-1);
            case 4: return arguments.isEmpty() ? -1 : arguments.first();
            default: return arguments.isEmpty() ? -1 : arguments.last();
        }
    }

    int holders(int token) {
        return set(tok(token).holders);
    }

    int held(int subject) {
        index(in(subject, 6));
        int set = 0;
        for (Tok t : tokens) {
            set |= t.holders.contains(subject) ? 1 << t.number : 0;
        }
        return set;
    }

    int below(int token) {
        Tok t = tok(token);
        int set = 0;
        for (Tok other : tokens) {
            set |= other.chain().contains(t) ? 1 << other.number : 0;
        }
        return set;
    }

    int ranked(int rank) {
        element(in(rank, tokens.size()));
        List<Tok> sorted = new ArrayList<>(tokens);
        sorted.sort(Comparator.comparingInt((Tok t) -> t.object).thenComparingInt(t -> -t.chain().size())
                .thenComparingInt(t -> t.number));
        return sorted.get(rank).number;
    }

    // ---- requests and time ----

    /** Denies with a report, or comes back. */
    private void ask(int subject, Tok t, int right, int argument) {
        if (!t.holders.contains(subject)) {
            denied(1, t.number);
        }
        int[] reason = reason(subject, t, right, argument);
        if (reason != null) {
            denied(reason);
        }
    }

    /** Why the chain denies this, as the codes and details of a report, or null. */
    private int[] reason(int subject, Tok t, int right, int argument) {
        for (Tok link : t.chain()) {
            if (link.revoker >= 0) {
                return new int[] {2, link.number, 3, link.revoker};
            }
            for (int n = 0; n < link.caveats.size(); n++) {
                Caveat c = link.caveats.get(n);
                if (c.kind == 0 && (c.a & right) == 0) {
                    return new int[] {4, link.number, 10, n, 20, right};
                } else if (c.kind == 1 && time >= c.a) {
                    return new int[] {4, link.number, 11, n, 20, time};
                } else if (c.kind == 2 && subject != c.a) {
                    return new int[] {4, link.number, 12, n, 20, subject};
                } else if (c.kind == 3 && link.uses >= c.a) {
                    return new int[] {4, link.number, 13, n, 20, link.uses};
                } else if (c.kind == 4 && (argument < c.a || argument > c.b)) {
                    return new int[] {4, link.number, 14, n, 20, argument};
                }
            }
        }
        return null;
    }

    int request(int subject, int token, int right, int argument) {
        index(in(subject, 6));
        Tok t = tok(token);
        argument(right == 1 || right == 2 || right == 8);
        try {
            ask(subject, t, right, argument);
        } catch (UnsupportedOperationException e) {
            requests.add(new int[] {subject, token, 0});
            throw e;
        }
        requests.add(new int[] {subject, token, 1});
        t.chain().forEach(c -> c.uses++);
        if (right == 8) {
            return ++calls[t.object];
        }
        int before = content[t.object];
        content[t.object] = right == 2 ? argument : before;
        return before;
    }

    int object(int object, int what) {
        index(in(object, 12));
        argument(in(what, 3));
        int number = (int) tokens.stream().filter(t -> t.object == object).count();
        return new int[] {content[object], calls[object], number}[what];
    }

    int pass(int units) {
        argument(units >= 1 && units <= 100);
        expired = new ArrayList<>();
        for (int u = 0; u < units; u++) {
            boolean[] before = new boolean[tokens.size()];
            for (Tok t : tokens) {
                before[t.number] = inTime(t);
            }
            time++;
            for (Tok t : tokens) {
                if (before[t.number] && !inTime(t)) {
                    expired.add(t.number);
                }
            }
        }
        return expired.size();
    }

    private boolean inTime(Tok t) {
        return t.chain().stream().allMatch(l -> l.caveats.stream().allMatch(c -> c.kind != 1 || time < c.a));
    }

    int expired(int index) {
        element(in(index, expired.size()));
        return expired.get(index);
    }

    private int logSize() {
        return Math.min(20, requests.size());
    }

    int log(int index) {
        element(in(index, logSize()));
        int[] r = requests.get(requests.size() - 1 - index);
        return 1000 * r[0] + 10 * r[1] + r[2];
    }

    int logged(int subject, boolean allowed) {
        index(in(subject, 6));
        return (int) requests.subList(requests.size() - logSize(), requests.size()).stream()
                .filter(r -> r[0] == subject && r[2] == (allowed ? 1 : 0)).count();
    }

    int levels() {
        return report.size();
    }

    int report(int level, int what) {
        element(in(level, report.size()));
        argument(in(what, 2));
        return report.get(level)[what];
    }

    // ---- boxes ----

    int makePair(int subject) {
        index(in(subject, 6));
        state(sealers.size() < 4);
        sealers.add(new TreeSet<>(List.of(subject)));
        unsealers.add(new TreeSet<>(List.of(subject)));
        return sealers.size() - 1;
    }

    int givePair(int from, int to, int pair, boolean unsealer) {
        index(in(from, 6) && in(to, 6) && in(pair, sealers.size()));
        TreeSet<Integer> part = (unsealer ? unsealers : sealers).get(pair);
        if (!part.contains(from)) {
            denied(5, pair);
        }
        part.add(to);
        return set(part);
    }

    int seal(int subject, int pair, int token) {
        index(in(subject, 6) && in(pair, sealers.size()) && in(token, tokens.size()));
        if (!sealers.get(pair).contains(subject)) {
            denied(5, pair);
        }
        if (!tok(token).holders.contains(subject)) {
            denied(1, token);
        }
        state(boxes.size() < 12);
        Box made = new Box();
        made.pair = pair;
        made.token = token;
        made.holders.add(subject);
        boxes.add(made);
        return boxes.size() - 1;
    }

    int giveBox(int from, int to, int box) {
        index(in(from, 6) && in(to, 6) && in(box, boxes.size()));
        if (!boxes.get(box).holders.contains(from)) {
            denied(6, box);
        }
        boxes.get(box).holders.add(to);
        return set(boxes.get(box).holders);
    }

    int unseal(int subject, int box) {
        index(in(subject, 6) && in(box, boxes.size()));
        Box b = boxes.get(box);
        if (!b.holders.contains(subject)) {
            denied(6, box);
        }
        if (!unsealers.get(b.pair).contains(subject)) {
            denied(5, b.pair);
        }
        tok(b.token).holders.add(subject);
        return b.token;
    }

    int pairOf(int box) {
        index(in(box, boxes.size()));
        return boxes.get(box).pair;
    }

    // ---- reachability ----

    private boolean open(int subject, Tok t, int right) {
        // The least argument that fits is 0 or where a range begins, so the other ones need no look.
        TreeSet<Integer> arguments = new TreeSet<>(List.of(0));
        t.chain().forEach(l -> l.caveats.stream().filter(c -> c.kind == 4).forEach(c -> arguments.add(c.a)));
        return arguments.stream().anyMatch(argument -> reason(subject, t, right, argument) == null);
    }

    int rights(int subject, int token) {
        index(in(subject, 6));
        Tok t = tok(token);
        int set = 0;
        for (int right = 1; right <= 8; right *= 2) {
            set += open(subject, t, right) ? right : 0;
        }
        return set;
    }

    /** The round in which each token could come to each subject, or -1. */
    private int[][] rounds() {
        int[][] rounds = new int[6][tokens.size()];
        int[][] rights = new int[6][tokens.size()];
        for (int s = 0; s < 6; s++) {
            for (Tok t : tokens) {
                rights[s][t.number] = rights(s, t.number);
                rounds[s][t.number] = t.holders.contains(s) ? 0 : -1;
            }
            for (Box b : boxes) {
                if (b.holders.contains(s) && unsealers.get(b.pair).contains(s)) {
                    rounds[s][b.token] = 0;
                }
            }
        }
        boolean added = true;
        for (int round = 1; added; round++) {
            added = false;
            for (int s = 0; s < 6; s++) {
                for (Tok way : tokens) {
                    int w = rounds[s][way.number];
                    if (w < 0 || w >= round || (rights[s][way.number] & 2) == 0 || way.object >= 6) {
                        continue;
                    }
                    for (Tok t : tokens) {
                        int c = rounds[s][t.number];
                        boolean goes = c >= 0 && c < round && (rights[s][t.number] & 4) != 0;
                        if (goes && rounds[way.object][t.number] < 0) {
                            rounds[way.object][t.number] = round;
                            added = true;
                        }
                    }
                }
            }
        }
        return rounds;
    }

    int coming(int subject) {
        index(in(subject, 6));
        int[] row = rounds()[subject];
        int set = 0;
        for (int t = 0; t < row.length; t++) {
            set |= row[t] >= 0 ? 1 << t : 0;
        }
        return set;
    }

    int round(int subject, int token) {
        index(in(subject, 6));
        tok(token);
        int round = rounds()[subject][token];
        element(round >= 0);
        return round;
    }

    int reached(int subject) {
        int coming = coming(subject);
        int set = 0;
        for (Tok t : tokens) {
            if ((coming >> t.number & 1) == 1 && rights(subject, t.number) != 0) {
                set |= 1 << t.object;
            }
        }
        return set;
    }

    boolean isConfined(int subject, int objects) {
        index(in(subject, 6));
        argument(objects >= 0 && objects < 4096);
        return (reached(subject) | objects) == objects;
    }

    // ---- counts and snapshots ----

    int count(int what) {
        argument(in(what, 9));
        int allowed = (int) requests.stream().filter(r -> r[2] == 1).count();
        int living = (int) tokens.stream().filter(t -> !ended(t)).count();
        return new int[] {tokens.size(), time, sealers.size(), boxes.size(), allowed, requests.size() - allowed,
            logSize(), buffer.length(), living}[what];
    }

    int save() {
        saved = new Model();
        copy(this, saved);
        return tokens.size();
    }

    int restore() {
        state(saved != null);
        copy(saved, this);
        return tokens.size();
    }

    private static void copy(Model from, Model to) {
        to.tokens = new ArrayList<>();
        for (Tok t : from.tokens) {
            Tok c = new Tok();
            c.number = t.number;
            c.object = t.object;
            c.parent = t.parent == null ? null : to.tokens.get(t.parent.number);
            c.uses = t.uses;
            c.revoker = t.revoker;
            c.text = t.text;
            c.caveats = t.caveats;
            c.holders = new TreeSet<>(t.holders);
            to.tokens.add(c);
        }
        to.sealers = copySets(from.sealers);
        to.unsealers = copySets(from.unsealers);
        to.boxes = new ArrayList<>();
        for (Box b : from.boxes) {
            Box c = new Box();
            c.pair = b.pair;
            c.token = b.token;
            c.holders = new TreeSet<>(b.holders);
            to.boxes.add(c);
        }
        to.requests = new ArrayList<>(from.requests);
        to.content = Arrays.copyOf(from.content, 12);
        to.calls = Arrays.copyOf(from.calls, 12);
        to.time = from.time;
        to.expired = new ArrayList<>(from.expired);
    }

    private static List<TreeSet<Integer>> copySets(List<TreeSet<Integer>> from) {
        List<TreeSet<Integer>> sets = new ArrayList<>();
        for (TreeSet<Integer> set : from) {
            sets.add(new TreeSet<>(set));
        }
        return sets;
    }
}
