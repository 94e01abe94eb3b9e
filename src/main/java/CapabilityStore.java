import java.util.NoSuchElementException;

/** A capability store; ../shared/DOC.md says what it does, promise by promise. */
public final class CapabilityStore {
    private static final int SUBJECTS = 6;
    private static final int OBJECTS = 12;
    private static final int TOKENS = 28;
    private static final int CHAIN = 7;
    private static final int CAVEATS = 4;
    private static final int PAIRS = 4;
    private static final int BOXES = 12;
    private static final int LOG = 20;
    private static final int BUFFER = 40;
    private static final int LEVELS = 3;
    private static final int GREATEST_ARGUMENT = 999;
    private static final int GREATEST_PASS = 100;

    private static final int READ = 1;
    private static final int WRITE = 2;
    private static final int GRANT = 4;
    private static final int CALL = 8;
    private static final int ALL_RIGHTS = 15;
    private static final int ALL_SUBJECTS = (1 << SUBJECTS) - 1;
    private static final int ALL_OBJECTS = (1 << OBJECTS) - 1;

    private static final int KINDS = 5;
    private static final int KIND_RIGHTS = 0;
    private static final int KIND_TIME = 1;
    private static final int KIND_SUBJECT = 2;
    private static final int KIND_USES = 3;
    private static final int KIND_RANGE = 4;
    private static final String LETTERS = "rtsna";
    private static final int[] GREATEST_NUMBER = {15, 999, 5, 999, 999};

    private static final int CODE_TOKEN_NOT_HELD = 1;
    private static final int CODE_REVOKED = 2;
    private static final int CODE_REVOKER = 3;
    private static final int CODE_CAVEAT = 4;
    private static final int CODE_PAIR_NOT_HELD = 5;
    private static final int CODE_BOX_NOT_HELD = 6;
    private static final int CODE_KIND = 10;
    private static final int CODE_SEEN = 20;

    private static final int NONE = -1;

    private final State now;
    private final State kept;
    private boolean hasKept;
    private final Report denial;
    private final CaveatText text;
    private final Reach reach;
    /** What a caveat of each kind looks at; filled anew for each asking. */
    private final int[] seen;
    /** The text of a token's caveats; kept, so that describe makes no object. */
    private final StringBuilder spelled;

    public CapabilityStore() {
        now = new State();
        kept = new State();
        hasKept = false;
        denial = new Report();
        text = new CaveatText();
        reach = new Reach();
        seen = new int[KINDS];
        spelled = new StringBuilder();
    }

    // ---- Tokens ----

    public int mint(int subject, int object, int rights)
            throws IndexOutOfBoundsException, IllegalArgumentException, IllegalStateException {
        needSubject(subject);
        needObject(object);
        needArgument(rights >= 0 && rights <= ALL_RIGHTS);
        needState(now.tokens.count < TOKENS);
        int token = now.tokens.makeRoot(subject, object);
        now.tokens.addCaveat(token, KIND_RIGHTS, rights, NONE);
        return token;
    }

    public int append(int packed) throws IllegalArgumentException, IllegalStateException {
        int signs = 0;
        for (int shift = 24; shift >= 0; shift -= 8) {
            int sign = (packed >>> shift) & 255;
            needArgument(sign == 0 || isTextSign(sign));
            if (sign != 0) {
                signs++;
            }
        }
        needState(text.length + signs <= BUFFER);
        for (int shift = 24; shift >= 0; shift -= 8) {
            text.addSign((packed >>> shift) & 255);
        }
        return text.length;
    }

    public int derive(int subject, int token)
            throws IndexOutOfBoundsException, UnsupportedOperationException, IllegalArgumentException,
            IllegalStateException {
        needSubject(subject);
        needToken(token);
        boolean holds = holdsToken(subject, token);
        if (holds) {
            text.readAll();
        }
        text.clear();
        needPermission(holds);
        needArgument(text.error == NONE);
        needState(now.tokens.count < TOKENS && now.tokens.length[token] < CHAIN);
        int derived = now.tokens.makeDerived(subject, token);
        for (int c = 0; c < text.caveats; c++) {
            now.tokens.addCaveat(derived, text.kind[c], text.first[c], text.second[c]);
        }
        return derived;
    }

    public int errorPosition() {
        return text.error;
    }

    public int give(int from, int to, int token) throws IndexOutOfBoundsException, UnsupportedOperationException {
        needSubject(from);
        needSubject(to);
        needToken(token);
        needPermission(isAllowed(from, token, GRANT, 0));
        now.tokens.holders[token] |= 1 << to;
        return Integer.bitCount(now.tokens.holders[token]);
    }

    public int drop(int subject, int token) throws IndexOutOfBoundsException, NoSuchElementException {
        needSubject(subject);
        needToken(token);
        needElement(hasBit(now.tokens.holders[token], subject));
        now.tokens.holders[token] &= ~(1 << subject);
        return Integer.bitCount(now.tokens.holders[token]);
    }

    public int revoke(int subject, int token) throws IndexOutOfBoundsException, UnsupportedOperationException {
        needSubject(subject);
        needToken(token);
        boolean may = now.tokens.holdsOfChain(subject, token);
        if (!may) {
            denial.begin(CODE_TOKEN_NOT_HELD, token);
        }
        needPermission(may);
        if (now.tokens.revoker[token] != NONE) {
            return 0;
        }
        // Counting first and marking then leaves just those with no other revoked one.
        int ended = Integer.bitCount(now.tokens.setBelow(token) & now.tokens.setOfLiving());
        now.tokens.revoker[token] = subject;
        return ended;
    }

    public int token(int token, int what) throws IndexOutOfBoundsException, IllegalArgumentException {
        needToken(token);
        needArgument(what >= 0 && what <= 6);
        Tokens tokens = now.tokens;
        switch (what) {
            case 0:
                return tokens.object[token];
            case 1:
                return tokens.parentOf(token);
            case 2:
                return tokens.caveats[token];
            case 3:
                return tokens.uses[token];
            case 4:
                return tokens.length[token];
            case 5:
                return tokens.isEnded(token) ? 1 : 0;
            default:
                return tokens.derivedFrom(token);
        }
    }

    public int caveat(int token, int caveat, int what) throws IndexOutOfBoundsException, IllegalArgumentException {
        needToken(token);
        needIndex(caveat >= 0 && caveat < now.tokens.caveats[token]);
        needArgument(what >= 0 && what <= 2);
        int place = token * CAVEATS + caveat;
        switch (what) {
            case 0:
                return now.tokens.kind[place];
            case 1:
                return now.tokens.first[place];
            default:
                return now.tokens.second[place];
        }
    }

    public int describe(int token, int index) throws IndexOutOfBoundsException {
        needToken(token);
        spell(token);
        needIndex(index >= -1 && index < spelled.length());
        return index == -1 ? spelled.length() : spelled.charAt(index);
    }

    public int left(int token, int what) throws IndexOutOfBoundsException, IllegalArgumentException {
        needToken(token);
        needArgument(what >= 0 && what <= 5);
        Limits limits = now.tokens.limitsOf(token);
        switch (what) {
            case 0:
                return limits.rights;
            case 1:
                return limits.time;
            case 2:
                return limits.subjects;
            case 3:
                return limits.uses;
            case 4:
                return limits.hasArgument() ? limits.least : NONE;
            default:
                return limits.hasArgument() ? limits.greatest : NONE;
        }
    }

    public int holders(int token) throws IndexOutOfBoundsException {
        needToken(token);
        return now.tokens.holders[token];
    }

    public int held(int subject) throws IndexOutOfBoundsException {
        needSubject(subject);
        return now.tokens.setHeldBy(subject);
    }

    public int below(int token) throws IndexOutOfBoundsException {
        needToken(token);
        return now.tokens.setBelow(token);
    }

    public int ranked(int rank) throws NoSuchElementException {
        int found = now.tokens.withRank(rank);
        needElement(found != NONE);
        return found;
    }

    // ---- Requests and time ----

    public int request(int subject, int token, int right, int argument)
            throws IndexOutOfBoundsException, IllegalArgumentException, UnsupportedOperationException {
        needSubject(subject);
        needToken(token);
        needArgument(right == READ || right == WRITE || right == CALL);
        boolean allowed = isAllowed(subject, token, right, argument);
        now.journal.enter(subject, token, allowed);
        needPermission(allowed);
        now.tokens.useChain(token);
        return now.act(now.tokens.object[token], right, argument);
    }

    public int object(int object, int what) throws IndexOutOfBoundsException, IllegalArgumentException {
        needObject(object);
        needArgument(what >= 0 && what <= 2);
        switch (what) {
            case 0:
                return now.content[object];
            case 1:
                return now.calls[object];
            default:
                return now.tokens.numberFor(object);
        }
    }

    public int pass(int units) throws IllegalArgumentException {
        needArgument(units >= 1 && units <= GREATEST_PASS);
        now.clearExpired();
        for (int unit = 0; unit < units; unit++) {
            now.time++;
            now.expireAtPresent();
        }
        return now.expiredCount;
    }

    public int expired(int index) throws NoSuchElementException {
        needElement(index >= 0 && index < now.expiredCount);
        return now.expiredTokens[index];
    }

    public int log(int index) throws NoSuchElementException {
        needElement(index >= 0 && index < now.journal.entries);
        return now.journal.entry[index];
    }

    public int logged(int subject, boolean allowed) throws IndexOutOfBoundsException {
        needSubject(subject);
        return now.journal.numberOf(subject, allowed);
    }

    public int levels() {
        return denial.depth;
    }

    public int report(int level, int what) throws NoSuchElementException, IllegalArgumentException {
        needElement(level >= 0 && level < denial.depth);
        needArgument(what == 0 || what == 1);
        return what == 0 ? denial.code[level] : denial.detail[level];
    }

    // ---- Boxes ----

    public int makePair(int subject) throws IndexOutOfBoundsException, IllegalStateException {
        needSubject(subject);
        needState(now.boxes.pairs < PAIRS);
        return now.boxes.addPair(subject);
    }

    public int givePair(int from, int to, int pair, boolean unsealer)
            throws IndexOutOfBoundsException, UnsupportedOperationException {
        needSubject(from);
        needSubject(to);
        needPair(pair);
        needPermission(holdsPart(from, pair, unsealer));
        int[] part = now.boxes.holdersOfPart(unsealer);
        part[pair] |= 1 << to;
        return part[pair];
    }

    public int seal(int subject, int pair, int token)
            throws IndexOutOfBoundsException, UnsupportedOperationException, IllegalStateException {
        needSubject(subject);
        needPair(pair);
        needToken(token);
        needPermission(holdsPart(subject, pair, false) && holdsToken(subject, token));
        needState(now.boxes.boxes < BOXES);
        return now.boxes.addBox(subject, pair, token);
    }

    public int giveBox(int from, int to, int box) throws IndexOutOfBoundsException, UnsupportedOperationException {
        needSubject(from);
        needSubject(to);
        needBox(box);
        needPermission(holdsBox(from, box));
        now.boxes.boxHolders[box] |= 1 << to;
        return now.boxes.boxHolders[box];
    }

    public int unseal(int subject, int box) throws IndexOutOfBoundsException, UnsupportedOperationException {
        needSubject(subject);
        needBox(box);
        needPermission(holdsBox(subject, box) && holdsPart(subject, now.boxes.boxPair[box], true));
        int token = now.boxes.boxToken[box];
        now.tokens.holders[token] |= 1 << subject;
        return token;
    }

    public int pairOf(int box) throws IndexOutOfBoundsException {
        needBox(box);
        return now.boxes.boxPair[box];
    }

    // ---- Reachability ----

    public int rights(int subject, int token) throws IndexOutOfBoundsException {
        needSubject(subject);
        needToken(token);
        return now.tokens.openRights(subject, token, now.time);
    }

    public int coming(int subject) throws IndexOutOfBoundsException {
        needSubject(subject);
        reach.find(now);
        return reach.came[subject];
    }

    public int round(int subject, int token) throws IndexOutOfBoundsException, NoSuchElementException {
        needSubject(subject);
        needToken(token);
        reach.find(now);
        needElement(hasBit(reach.came[subject], token));
        return reach.firstRound[subject * TOKENS + token];
    }

    public int reached(int subject) throws IndexOutOfBoundsException {
        needSubject(subject);
        reach.find(now);
        return reach.objectsOf(now.tokens, subject);
    }

    public boolean isConfined(int subject, int objects) throws IndexOutOfBoundsException, IllegalArgumentException {
        needSubject(subject);
        needArgument((objects & ~ALL_OBJECTS) == 0);
        reach.find(now);
        return (reach.objectsOf(now.tokens, subject) & ~objects) == 0;
    }

    // ---- Counts and snapshots ----

    public int count(int what) throws IllegalArgumentException {
        needArgument(what >= 0 && what <= 8);
        switch (what) {
            case 0:
                return now.tokens.count;
            case 1:
                return now.time;
            case 2:
                return now.boxes.pairs;
            case 3:
                return now.boxes.boxes;
            case 4:
                return now.journal.allowed;
            case 5:
                return now.journal.denied;
            case 6:
                return now.journal.entries;
            case 7:
                return text.length;
            default:
                return Integer.bitCount(now.tokens.setOfLiving());
        }
    }

    public int save() {
        kept.copyFrom(now);
        hasKept = true;
        return now.tokens.count;
    }

    public int restore() throws IllegalStateException {
        needState(hasKept);
        now.copyFrom(kept);
        return now.tokens.count;
    }

    // ---- What a call needs; the exceptions that the document names are thrown here alone ----

    private static void needIndex(boolean there) {
        if (!there) {
            throw new IndexOutOfBoundsException("there is no such one");
        }
    }

    private static void needArgument(boolean fit) {
        if (!fit) {
            throw new IllegalArgumentException("the argument is not allowed");
        }
    }

    private static void needState(boolean fit) {
        if (!fit) {
            throw new IllegalStateException("the state does not allow this");
        }
    }

    private static void needPermission(boolean allowed) {
        if (!allowed) {
            throw new UnsupportedOperationException("denied, as the report says");
        }
    }

    private static void needElement(boolean there) {
        if (!there) {
            throw new NoSuchElementException("there is no such element");
        }
    }

    private static void needSubject(int subject) {
        needIndex(subject >= 0 && subject < SUBJECTS);
    }

    private static void needObject(int object) {
        needIndex(object >= 0 && object < OBJECTS);
    }

    private void needToken(int token) {
        needIndex(token >= 0 && token < now.tokens.count);
    }

    private void needPair(int pair) {
        needIndex(pair >= 0 && pair < now.boxes.pairs);
    }

    private void needBox(int box) {
        needIndex(box >= 0 && box < now.boxes.boxes);
    }

    // ---- Asking; each of these leaves a report if it answers false ----

    private boolean holdsToken(int subject, int token) {
        boolean holds = hasBit(now.tokens.holders[token], subject);
        if (!holds) {
            denial.begin(CODE_TOKEN_NOT_HELD, token);
        }
        return holds;
    }

    private boolean holdsPart(int subject, int pair, boolean unsealer) {
        boolean holds = hasBit(now.boxes.holdersOfPart(unsealer)[pair], subject);
        if (!holds) {
            denial.begin(CODE_PAIR_NOT_HELD, pair);
        }
        return holds;
    }

    private boolean holdsBox(int subject, int box) {
        boolean holds = hasBit(now.boxes.boxHolders[box], subject);
        if (!holds) {
            denial.begin(CODE_BOX_NOT_HELD, box);
        }
        return holds;
    }

    private boolean isAllowed(int subject, int token, int right, int argument) {
        if (!holdsToken(subject, token)) {
            return false;
        }
        seen[KIND_RIGHTS] = right;
        seen[KIND_TIME] = now.time;
        seen[KIND_SUBJECT] = subject;
        seen[KIND_RANGE] = argument;
        for (int place = 0; place < now.tokens.length[token]; place++) {
            if (!linkAllows(now.tokens.chain[token * CHAIN + place])) {
                return false;
            }
        }
        return true;
    }

    /** Looks at one token of a chain, by what stands in seen. */
    private boolean linkAllows(int link) {
        Tokens tokens = now.tokens;
        if (tokens.revoker[link] != NONE) {
            denial.begin(CODE_REVOKED, link);
            denial.addCause(CODE_REVOKER, tokens.revoker[link]);
            return false;
        }
        seen[KIND_USES] = tokens.uses[link];
        for (int c = 0; c < tokens.caveats[link]; c++) {
            int place = link * CAVEATS + c;
            int kind = tokens.kind[place];
            if (!caveatHolds(kind, tokens.first[place], tokens.second[place], seen[kind])) {
                denial.begin(CODE_CAVEAT, link);
                denial.addCause(CODE_KIND + kind, c);
                denial.addCause(CODE_SEEN, seen[kind]);
                return false;
            }
        }
        return true;
    }

    private static boolean caveatHolds(int kind, int first, int second, int looked) {
        switch (kind) {
            case KIND_RIGHTS:
                return (first & looked) != 0;
            case KIND_SUBJECT:
                return looked == first;
            case KIND_RANGE:
                return looked >= first && looked <= second;
            default:
                return looked < first;
        }
    }

    // ---- Small helps ----

    private static boolean hasBit(int set, int bit) {
        return ((set >>> bit) & 1) != 0;
    }

    private static boolean isTextSign(int sign) {
        return sign >= 33 && sign <= 126;
    }

    private void spell(int token) {
        spelled.setLength(0);
        for (int c = 0; c < now.tokens.caveats[token]; c++) {
            int place = token * CAVEATS + c;
            if (c > 0) {
                spelled.append(';');
            }
            spelled.append(LETTERS.charAt(now.tokens.kind[place]));
            spelled.append(now.tokens.first[place]);
            if (now.tokens.kind[place] == KIND_RANGE) {
                spelled.append('-');
                spelled.append(now.tokens.second[place]);
            }
        }
    }

    /** All that save keeps. */
    private static final class State {
        final Tokens tokens = new Tokens();
        final Boxes boxes = new Boxes();
        final Journal journal = new Journal();
        final int[] content = new int[OBJECTS];
        final int[] calls = new int[OBJECTS];
        int time;
        final int[] expiredTokens = new int[TOKENS];
        int expiredCount;

        void copyFrom(State other) {
            tokens.copyFrom(other.tokens);
            boxes.copyFrom(other.boxes);
            journal.copyFrom(other.journal);
            copyRow(other.content, content);
            copyRow(other.calls, calls);
            time = other.time;
            copyRow(other.expiredTokens, expiredTokens);
            expiredCount = other.expiredCount;
        }

        /** Does what an allowed right says to an object. */
        int act(int object, int right, int argument) {
            int before = content[object];
            if (right == CALL) {
                calls[object]++;
                return calls[object];
            }
            if (right == WRITE) {
                content[object] = argument;
            }
            return before;
        }

        void clearExpired() {
            expiredCount = 0;
        }

        /** A token has one least time, so it is put into the row at most once: the row is never too short. */
        void expireAtPresent() {
            for (int t = 0; t < tokens.count; t++) {
                if (tokens.limitsOf(t).time == time && expiredCount < TOKENS) {
                    expiredTokens[expiredCount] = t;
                    expiredCount++;
                }
            }
        }
    }

    private static void copyRow(int[] from, int[] to) {
        if (from.length == to.length) {
            System.arraycopy(from, 0, to, 0, from.length);
        }
    }

    /** The tokens: a row for each property, with a place for each token or for each of its parts. */
    private static final class Tokens {
        int count;
        final int[] object = new int[TOKENS];
        final int[] length = new int[TOKENS];
        /** CHAIN places for each token: the chain from its root to itself. */
        final int[] chain = new int[TOKENS * CHAIN];
        final int[] holders = new int[TOKENS];
        final int[] uses = new int[TOKENS];
        /** The subject that revoked the token, or NONE. */
        final int[] revoker = new int[TOKENS];
        final int[] caveats = new int[TOKENS];
        /** CAVEATS places for each token, in this row and the next two. */
        final int[] kind = new int[TOKENS * CAVEATS];
        final int[] first = new int[TOKENS * CAVEATS];
        final int[] second = new int[TOKENS * CAVEATS];
        final Limits limits = new Limits();

        void copyFrom(Tokens other) {
            count = other.count;
            copyRow(other.object, object);
            copyRow(other.length, length);
            copyRow(other.chain, chain);
            copyRow(other.holders, holders);
            copyRow(other.uses, uses);
            copyRow(other.revoker, revoker);
            copyRow(other.caveats, caveats);
            copyRow(other.kind, kind);
            copyRow(other.first, first);
            copyRow(other.second, second);
        }

        /** The caller has seen that there is room for a token. */
        int makeRoot(int subject, int forObject) {
            int made = count;
            object[made] = forObject;
            length[made] = 1;
            chain[made * CHAIN] = made;
            startToken(made, subject);
            return made;
        }

        /** The caller has seen that there is room for a token and for one more in the chain. */
        int makeDerived(int subject, int parent) {
            int made = count;
            object[made] = object[parent];
            length[made] = length[parent] + 1;
            System.arraycopy(chain, parent * CHAIN, chain, made * CHAIN, length[parent]);
            chain[made * CHAIN + length[parent]] = made;
            startToken(made, subject);
            return made;
        }

        /** All of a token but its object and chain. */
        private void startToken(int made, int subject) {
            holders[made] = 1 << subject;
            uses[made] = 0;
            revoker[made] = NONE;
            caveats[made] = 0;
            count++;
        }

        void addCaveat(int token, int itsKind, int itsFirst, int itsSecond) {
            if (caveats[token] < CAVEATS) {
                int place = token * CAVEATS + caveats[token];
                kind[place] = itsKind;
                first[place] = itsFirst;
                second[place] = itsSecond;
                caveats[token]++;
            }
        }

        int parentOf(int token) {
            return length[token] > 1 ? chain[token * CHAIN + length[token] - 2] : NONE;
        }

        boolean isBelow(int lower, int upper) {
            // Chains tell depth, so the upper one can stand at one place alone.
            return length[lower] >= length[upper] && chain[lower * CHAIN + length[upper] - 1] == upper;
        }

        int setBelow(int token) {
            int set = 0;
            for (int t = 0; t < count; t++) {
                if (isBelow(t, token)) {
                    set |= 1 << t;
                }
            }
            return set;
        }

        int setHeldBy(int subject) {
            int set = 0;
            for (int t = 0; t < count; t++) {
                if (hasBit(holders[t], subject)) {
                    set |= 1 << t;
                }
            }
            return set;
        }

        /** The tokens without a revoked one in their chains. */
        int setOfLiving() {
            int set = 0;
            for (int t = 0; t < count; t++) {
                if (!isEnded(t)) {
                    set |= 1 << t;
                }
            }
            return set;
        }

        boolean isEnded(int token) {
            for (int place = 0; place < length[token]; place++) {
                if (revoker[chain[token * CHAIN + place]] != NONE) {
                    return true;
                }
            }
            return false;
        }

        boolean holdsOfChain(int subject, int token) {
            for (int place = 0; place < length[token]; place++) {
                if (hasBit(holders[chain[token * CHAIN + place]], subject)) {
                    return true;
                }
            }
            return false;
        }

        int derivedFrom(int token) {
            int number = 0;
            for (int t = 0; t < count; t++) {
                if (parentOf(t) == token) {
                    number++;
                }
            }
            return number;
        }

        int numberFor(int itsObject) {
            int number = 0;
            for (int t = 0; t < count; t++) {
                if (object[t] == itsObject) {
                    number++;
                }
            }
            return number;
        }

        void useChain(int token) {
            for (int place = 0; place < length[token]; place++) {
                uses[chain[token * CHAIN + place]]++;
            }
        }

        /** The token with just so many tokens before it, or NONE. */
        int withRank(int rank) {
            for (int t = 0; t < count; t++) {
                if (numberBefore(t) == rank) {
                    return t;
                }
            }
            return NONE;
        }

        private int numberBefore(int token) {
            int number = 0;
            for (int t = 0; t < count; t++) {
                if (comesBefore(t, token)) {
                    number++;
                }
            }
            return number;
        }

        private boolean comesBefore(int one, int other) {
            if (object[one] != object[other]) {
                return object[one] < object[other];
            }
            if (length[one] != length[other]) {
                return length[one] > length[other];
            }
            return one < other;
        }

        /** What the chain of a token leaves; the answer is good until the next call. */
        Limits limitsOf(int token) {
            limits.openAll();
            for (int place = 0; place < length[token]; place++) {
                int link = chain[token * CHAIN + place];
                for (int c = 0; c < caveats[link]; c++) {
                    int at = link * CAVEATS + c;
                    limits.narrow(kind[at], first[at], second[at], uses[link]);
                }
            }
            return limits;
        }

        int openRights(int subject, int token, int time) {
            if (isEnded(token)) {
                return 0;
            }
            Limits leaves = limitsOf(token);
            boolean inTime = leaves.time == NONE || time < leaves.time;
            boolean open = inTime && hasBit(leaves.subjects, subject) && leaves.uses != 0 && leaves.hasArgument();
            return open ? leaves.rights : 0;
        }
    }

    /** What the caveats of a chain leave. */
    private static final class Limits {
        int rights;
        int time;
        int subjects;
        int uses;
        int least;
        int greatest;

        void openAll() {
            rights = ALL_RIGHTS;
            time = NONE;
            subjects = ALL_SUBJECTS;
            uses = NONE;
            least = 0;
            greatest = GREATEST_ARGUMENT;
        }

        void narrow(int kind, int first, int second, int used) {
            switch (kind) {
                case KIND_RIGHTS:
                    rights &= first;
                    break;
                case KIND_TIME:
                    time = lesser(time, first);
                    break;
                case KIND_SUBJECT:
                    subjects &= 1 << first;
                    break;
                case KIND_USES:
                    uses = lesser(uses, Math.max(0, first - used));
                    break;
                default:
                    least = Math.max(least, first);
                    greatest = Math.min(greatest, second);
                    break;
            }
        }

        boolean hasArgument() {
            return least <= greatest;
        }

        private static int lesser(int limit, int number) {
            return limit == NONE || number < limit ? number : limit;
        }
    }

    /** The pairs and boxes, with the sets of those who hold them. */
    private static final class Boxes {
        int pairs;
        final int[] sealerHolders = new int[PAIRS];
        final int[] unsealerHolders = new int[PAIRS];
        int boxes;
        final int[] boxPair = new int[BOXES];
        final int[] boxToken = new int[BOXES];
        final int[] boxHolders = new int[BOXES];

        void copyFrom(Boxes other) {
            pairs = other.pairs;
            copyRow(other.sealerHolders, sealerHolders);
            copyRow(other.unsealerHolders, unsealerHolders);
            boxes = other.boxes;
            copyRow(other.boxPair, boxPair);
            copyRow(other.boxToken, boxToken);
            copyRow(other.boxHolders, boxHolders);
        }

        int[] holdersOfPart(boolean unsealer) {
            return unsealer ? unsealerHolders : sealerHolders;
        }

        /** The caller has seen that there is room for a pair. */
        int addPair(int subject) {
            int made = pairs;
            sealerHolders[made] = 1 << subject;
            unsealerHolders[made] = 1 << subject;
            pairs++;
            return made;
        }

        /** The caller has seen that there is room for a box. */
        int addBox(int subject, int pair, int token) {
            int made = boxes;
            boxPair[made] = pair;
            boxToken[made] = token;
            boxHolders[made] = 1 << subject;
            boxes++;
            return made;
        }

        /** Whether a subject holds a box and can open it. */
        boolean canOpen(int subject, int box) {
            return hasBit(boxHolders[box], subject) && hasBit(unsealerHolders[boxPair[box]], subject);
        }
    }

    /** The log of requests, the latest entry first, and their counts. */
    private static final class Journal {
        final int[] entry = new int[LOG];
        int entries;
        int allowed;
        int denied;

        void copyFrom(Journal other) {
            copyRow(other.entry, entry);
            entries = other.entries;
            allowed = other.allowed;
            denied = other.denied;
        }

        void enter(int subject, int token, boolean wasAllowed) {
            System.arraycopy(entry, 0, entry, 1, LOG - 1);
            entry[0] = 1000 * subject + 10 * token + (wasAllowed ? 1 : 0);
            entries = Math.min(entries + 1, LOG);
            if (wasAllowed) {
                allowed++;
            } else {
                denied++;
            }
        }

        int numberOf(int subject, boolean wasAllowed) {
            int number = 0;
            for (int e = 0; e < entries; e++) {
                boolean itsAllowed = entry[e] % 10 == 1;
                if (entry[e] / 1000 == subject && itsAllowed == wasAllowed) {
                    number++;
                }
            }
            return number;
        }
    }

    /** Why the latest denial was: its levels, each the cause of the one before it. */
    private static final class Report {
        final int[] code = new int[LEVELS];
        final int[] detail = new int[LEVELS];
        int depth;

        void begin(int itsCode, int itsDetail) {
            depth = 0;
            addCause(itsCode, itsDetail);
        }

        void addCause(int itsCode, int itsDetail) {
            if (depth < LEVELS) {
                code[depth] = itsCode;
                detail[depth] = itsDetail;
                depth++;
            }
        }
    }

    /** The buffer, and the caveats and the error that the latest reading found. */
    private static final class CaveatText {
        final char[] buffer = new char[BUFFER];
        int length;
        int error = NONE;
        int caveats;
        final int[] kind = new int[CAVEATS];
        final int[] first = new int[CAVEATS];
        final int[] second = new int[CAVEATS];
        /** How far the reading has come. */
        private int at;

        void clear() {
            length = 0;
        }

        /** A sign 0 is no sign. */
        void addSign(int sign) {
            if (sign != 0 && length < BUFFER) {
                buffer[length] = (char) sign;
                length++;
            }
        }

        void readAll() {
            at = 0;
            caveats = 0;
            error = NONE;
            boolean more = true;
            for (int c = 0; c < CAVEATS && more; c++) {
                readCaveat(c);
                more = error == NONE && c + 1 < CAVEATS && isNext(';');
                if (more) {
                    at++;
                }
            }
            if (error == NONE && at < length) {
                error = at;
            }
        }

        private void readCaveat(int c) {
            int itsKind = at < length ? LETTERS.indexOf(buffer[at]) : NONE;
            if (itsKind < 0) {
                error = at;
                return;
            }
            at++;
            int start = at;
            int number = readNumber();
            if (error == NONE && number > GREATEST_NUMBER[itsKind]) {
                error = start;
            }
            kind[c] = itsKind;
            first[c] = number;
            second[c] = NONE;
            if (error == NONE && itsKind == KIND_RANGE) {
                readEnd(c);
            }
            caveats = c + 1;
        }

        /** The rest of a range after its first number. */
        private void readEnd(int c) {
            if (!isNext('-')) {
                error = at;
                return;
            }
            at++;
            int start = at;
            second[c] = readNumber();
            if (error == NONE && second[c] < first[c]) {
                error = start;
            }
        }

        private int readNumber() {
            if (!isDigitNext()) {
                error = at;
                return 0;
            }
            if (isNext('0')) {
                at++;
                return 0;
            }
            int number = 0;
            for (int digit = 0; digit < 3 && isDigitNext(); digit++) {
                number = 10 * number + buffer[at] - '0';
                at++;
            }
            return number;
        }

        private boolean isNext(char sign) {
            return at < length && buffer[at] == sign;
        }

        private boolean isDigitNext() {
            return at < length && buffer[at] >= '0' && buffer[at] <= '9';
        }
    }

    /** Which tokens could come to which subjects, found anew for each call that asks. */
    private static final class Reach {
        /** The set of the tokens that could come, for each subject. */
        final int[] came = new int[SUBJECTS];
        private final int[] next = new int[SUBJECTS];
        /** TOKENS places for each subject, in this row and the next. */
        final int[] firstRound = new int[SUBJECTS * TOKENS];
        private final int[] open = new int[SUBJECTS * TOKENS];

        void find(State state) {
            findOpen(state);
            findFirst(state);
            boolean more = true;
            // A round that counts brings a token to a subject, so there are no more than these.
            for (int round = 0; round <= SUBJECTS * TOKENS && more; round++) {
                more = settle(state.tokens.count, round);
                sendThroughMailboxes(state.tokens);
            }
        }

        private void findOpen(State state) {
            for (int s = 0; s < SUBJECTS; s++) {
                for (int t = 0; t < state.tokens.count; t++) {
                    open[s * TOKENS + t] = state.tokens.openRights(s, t, state.time);
                }
            }
        }

        /** What comes in round 0. */
        private void findFirst(State state) {
            for (int s = 0; s < SUBJECTS; s++) {
                came[s] = 0;
                next[s] = state.tokens.setHeldBy(s);
                for (int b = 0; b < state.boxes.boxes; b++) {
                    if (state.boxes.canOpen(s, b)) {
                        next[s] |= 1 << state.boxes.boxToken[b];
                    }
                }
            }
        }

        /** Lets what is coming have come in a round; answers whether there was anything new. */
        private boolean settle(int tokens, int round) {
            boolean added = round == 0;
            for (int s = 0; s < SUBJECTS; s++) {
                int fresh = next[s] & ~came[s];
                for (int t = 0; t < tokens; t++) {
                    if (hasBit(fresh, t)) {
                        firstRound[s * TOKENS + t] = round;
                        added = true;
                    }
                }
                came[s] |= fresh;
            }
            return added;
        }

        private void sendThroughMailboxes(Tokens tokens) {
            for (int s = 0; s < SUBJECTS; s++) {
                int grants = comeWithRight(tokens, s, GRANT);
                int writes = comeWithRight(tokens, s, WRITE);
                for (int t = 0; t < tokens.count; t++) {
                    int mailbox = tokens.object[t];
                    if (hasBit(writes, t) && mailbox < SUBJECTS) {
                        next[mailbox] |= grants;
                    }
                }
            }
        }

        /** Those of the tokens that came to a subject with which a right is open to it. */
        private int comeWithRight(Tokens tokens, int subject, int right) {
            int set = 0;
            for (int t = 0; t < tokens.count; t++) {
                if (hasBit(came[subject], t) && (open[subject * TOKENS + t] & right) != 0) {
                    set |= 1 << t;
                }
            }
            return set;
        }

        int objectsOf(Tokens tokens, int subject) {
            int reachedObjects = 0;
            int usable = comeWithRight(tokens, subject, ALL_RIGHTS);
            for (int t = 0; t < tokens.count; t++) {
                if (hasBit(usable, t)) {
                    reachedObjects |= 1 << tokens.object[t];
                }
            }
            return reachedObjects;
        }
    }
}
