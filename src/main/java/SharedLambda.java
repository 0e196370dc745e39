/** Terms of functions alone, brought to their normal form by graphs in which all that can be shared is shared. */
public final class SharedLambda {
    public static final int NONE = -1;

    private static final int TAPE_BYTES = 600;
    private static final int MAX_FUEL = 100000;
    private static final int MAX_NODES = 3000;
    private static final int MAX_INDEX = 63;
    private static final int MAX_STEPS = 4000;
    private static final int MAX_LETTERS = 4000;
    private static final int MAX_OPEN = 40;
    private static final int MAX_NAMES = 80;
    private static final int NAME_BYTES = 4;

    /** Far above what the erasing behind one meeting can need. */
    private static final int MANY_TURNS = 1000000;

    // The kinds of nodes, numbered as nodes(kind) wants them.
    private static final int LAMBDA = 0;
    private static final int APPLICATION = 1;
    private static final int FAN = 2;
    private static final int CROISSANT = 3;
    private static final int BRACKET = 4;
    private static final int ERASER = 5;
    private static final int ROOT = 6;
    private static final int KINDS = 7;

    // What run(fuel) answers; from MEETING on they are for the walk alone.
    private static final int DONE = 0;
    private static final int NO_FUEL = 1;
    private static final int NO_ROOM = 2;
    private static final int TOO_LONG = 3;
    private static final int WRONG = 4;
    private static final int MEETING = 5;
    private static final int GOES_ON = 6;
    private static final int TERM_READ = 7;

    private final int[] tape = new int[TAPE_BYTES];
    private int tapeLength;
    private int faultKind;
    private int resultLetters;
    private final TermReader reader = new TermReader();
    private final Graph graph = new Graph();
    private final Builder builder = new Builder(graph);
    private final Meetings meetings = new Meetings(graph);
    private final Walk walk = new Walk(graph);

    public SharedLambda() {
        tape[0] = '\\';
        tape[1] = 'x';
        tape[2] = '.';
        tape[3] = 'x';
        reader.scan(tape, 4);
        takeTerm();
    }

    public int type(long bytes, int n) throws IllegalArgumentException, UnsupportedOperationException {
        if (n < 1 || n > 8) {
            throw new IllegalArgumentException("1 to 8 bytes");
        }
        if (tapeLength + n > TAPE_BYTES) {
            throw new UnsupportedOperationException("the tape is full");
        }
        for (int k = n - 1; k >= 0; k--) {
            tape[tapeLength] = (int) (bytes >> (8 * k)) & 255;
            tapeLength++;
        }
        return tapeLength;
    }

    public void keep(int n) throws IllegalArgumentException {
        if (n < 0 || n > tapeLength) {
            throw new IllegalArgumentException("the tape has not so many bytes");
        }
        tapeLength = n;
    }

    public int read() {
        faultKind = reader.scan(tape, tapeLength);
        tapeLength = 0;
        if (faultKind != 0) {
            return -1 - reader.place();
        }
        takeTerm();
        return graph.size();
    }

    public int run(int fuel) throws IllegalArgumentException {
        if (fuel < 0 || fuel > MAX_FUEL) {
            throw new IllegalArgumentException("fuel is 0 to 100000");
        }
        int outcome = reduce(fuel);
        resultLetters = outcome == DONE ? walk.told() : 0;
        return outcome;
    }

    public int count(int what) throws IndexOutOfBoundsException {
        switch (what) {
            case 0:
                return faultKind;
            case 1:
                return meetings.betas();
            case 2:
                return meetings.annihilations();
            case 3:
                return meetings.passings();
            case 4:
                return graph.erasedNodes();
            case 5:
                return graph.size();
            case 6:
                return resultLetters;
            case 7:
                return tapeLength;
            default:
                throw new IndexOutOfBoundsException("no such what");
        }
    }

    public int letter(int i) throws IndexOutOfBoundsException {
        if (i < 0 || i >= resultLetters) {
            throw new IndexOutOfBoundsException("no such letter");
        }
        return walk.letterAt(i);
    }

    public int nodes(int kind) throws IndexOutOfBoundsException {
        if (kind < LAMBDA || kind > ERASER) {
            throw new IndexOutOfBoundsException("no such kind");
        }
        return graph.population(kind);
    }

    private void takeTerm() {
        graph.clear();
        meetings.clear();
        builder.build(reader);
        graph.eraseAll();
        resultLetters = 0;
    }

    /**
     * A walk done anew would come back to the step before the meeting in the same way, so it goes on from there:
     * no meeting and no erasing touches a node that was walked through before, nor a wire between two of them.
     */
    private int reduce(int fuel) {
        walk.begin();
        for (int fuelLeft = fuel; fuelLeft >= 0; fuelLeft--) {
            int outcome = walk.advance();
            if (outcome != MEETING) {
                return outcome;
            }
            if (fuelLeft == 0) {
                return NO_FUEL;
            }
            int left = walk.nodeLeft();
            int next = walk.nodeAhead();
            int refusal = meetings.refusal(left, next);
            if (refusal != MEETING) {
                return refusal;
            }
            walk.stepBack();
            meetings.act(left, next);
            graph.eraseAll();
        }
        return NO_FUEL;
    }

    private static boolean isControl(int kind) {
        return kind == FAN || kind == CROISSANT || kind == BRACKET;
    }

    private static int otherPorts(int kind) {
        switch (kind) {
            case LAMBDA:
            case APPLICATION:
            case FAN:
                return 2;
            case CROISSANT:
            case BRACKET:
                return 1;
            default:
                return 0;
        }
    }

    /** Ports are numbered through all nodes, four for each, of which the last is never used. */
    private static int portOf(int node, int which) {
        return node * 4 + which;
    }

    private static int nodeAt(int port) {
        return port >> 2;
    }

    private static int whichAt(int port) {
        return port & 3;
    }

    /** Reads a text from the left; what it means is kept as words, each behind those that it is about. */
    private static final class TermReader {
        private static final int WORDS = 2 * MAX_NAMES + 2;
        private static final int NAME_WORD = 0;
        private static final int LAMBDA_WORD = 1;
        private static final int APPLY_WORD = 2;

        private static final int BAD_BYTE = 1;
        private static final int UNBOUND = 2;
        private static final int TOO_DEEP = 3;
        private static final int TOO_MANY = 4;

        private final int[] wordKinds = new int[WORDS];
        private final int[] wordIndexes = new int[WORDS];
        private final int[] wordSlots = new int[WORDS];
        private int words;

        // What is open, outermost first: a lambda with its name, or a parenthesis, whose name is 0.
        private final int[] openNames = new int[MAX_OPEN];
        private final int[] outerIndexes = new int[MAX_OPEN];
        private final int[] outerParts = new int[MAX_OPEN];
        private int open;

        private int[] text = new int[0];
        private int length;
        private int at;
        private int names;
        private int index;
        private int parts;
        private int fault;

        /** The fault's kind, or 0. */
        int scan(int[] bytes, int count) {
            begin(bytes, count);
            for (int turn = 0; turn < length && at < length && fault == 0; turn++) {
                takeNext();
            }
            if (fault == 0) {
                endText();
            }
            return fault;
        }

        int place() {
            return at;
        }

        int wordCount() {
            return words;
        }

        int wordKind(int word) {
            return word >= 0 && word < words ? wordKinds[word] : NONE;
        }

        int wordIndex(int word) {
            return word >= 0 && word < words ? wordIndexes[word] : 0;
        }

        int wordSlot(int word) {
            return word >= 0 && word < words ? wordSlots[word] : NONE;
        }

        private void begin(int[] bytes, int count) {
            text = bytes;
            length = count <= bytes.length ? count : bytes.length;
            at = 0;
            words = 0;
            open = 0;
            names = 0;
            index = 0;
            parts = 0;
            fault = 0;
        }

        private void takeNext() {
            int next = byteAt(at);
            if (isBlank(next)) {
                at++;
            } else if (next == '\\') {
                openLambda();
            } else if (next == '(') {
                openParenthesis();
            } else if (next == ')') {
                closeParenthesis();
            } else if (isLetter(next)) {
                takeVariable();
            } else {
                fault = BAD_BYTE;
            }
        }

        private void openLambda() {
            if (parts > 0) {
                fault = BAD_BYTE;
                return;
            }
            if (open >= MAX_OPEN) {
                fault = TOO_DEEP;
                return;
            }
            at++;
            skipBlanks();
            int size = nameSize();
            fault = size == 0 || size > NAME_BYTES ? BAD_BYTE : countName();
            if (fault != 0) {
                return;
            }
            int name = nameOf(size);
            at += size;
            skipBlanks();
            if (byteAt(at) != '.') {
                fault = BAD_BYTE;
                return;
            }
            at++;
            push(name);
        }

        private void openParenthesis() {
            if (open >= MAX_OPEN) {
                fault = TOO_DEEP;
                return;
            }
            at++;
            push(0);
            index = partIndex();
            parts = 0;
        }

        private void closeParenthesis() {
            if (parts == 0) {
                fault = BAD_BYTE;
                return;
            }
            closeLambdas();
            if (open == 0) {
                fault = BAD_BYTE;
                return;
            }
            at++;
            open--;
            index = outerIndexes[open];
            parts = outerParts[open];
            endPart();
        }

        private void takeVariable() {
            int size = nameSize();
            if (size > NAME_BYTES) {
                fault = BAD_BYTE;
                return;
            }
            int slot = slotOf(nameOf(size));
            if (slot == NONE) {
                fault = UNBOUND;
                return;
            }
            fault = countName();
            if (fault != 0) {
                return;
            }
            at += size;
            addWord(NAME_WORD, partIndex(), slot);
            endPart();
        }

        private void endText() {
            if (parts == 0) {
                fault = BAD_BYTE;
                return;
            }
            closeLambdas();
            if (open > 0) {
                fault = BAD_BYTE;
            }
        }

        private void closeLambdas() {
            while (open > 0 && openNames[open - 1] != 0) {
                open--;
                addWord(LAMBDA_WORD, index, open);
            }
        }

        private void endPart() {
            parts++;
            if (parts > 1) {
                addWord(APPLY_WORD, index, NONE);
            }
        }

        /** An argument stands one index higher than what it is given to. */
        private int partIndex() {
            return parts == 0 ? index : index + 1;
        }

        private void push(int name) {
            if (open < MAX_OPEN) {
                openNames[open] = name;
                outerIndexes[open] = index;
                outerParts[open] = parts;
                open++;
            }
        }

        private void addWord(int kind, int wordIndex, int slot) {
            if (words < WORDS) {
                wordKinds[words] = kind;
                wordIndexes[words] = wordIndex;
                wordSlots[words] = slot;
                words++;
            }
        }

        private int slotOf(int name) {
            for (int slot = open - 1; slot >= 0; slot--) {
                if (openNames[slot] == name) {
                    return slot;
                }
            }
            return NONE;
        }

        /** Names behind a lambda and others are counted together. */
        private int countName() {
            names++;
            return names > MAX_NAMES ? TOO_MANY : 0;
        }

        private int nameSize() {
            if (!isLetter(byteAt(at))) {
                return 0;
            }
            int end = at + 1;
            while (end < length && isDigit(byteAt(end))) {
                end++;
            }
            return end - at;
        }

        /** The bytes of a name as one number, which is never 0. */
        private int nameOf(int size) {
            int name = 0;
            for (int k = 0; k < size; k++) {
                name = name * 256 + byteAt(at + k);
            }
            return name;
        }

        private void skipBlanks() {
            while (at < length && isBlank(byteAt(at))) {
                at++;
            }
        }

        private int byteAt(int where) {
            return where >= 0 && where < length && where < text.length ? text[where] : NONE;
        }

        private static boolean isBlank(int value) {
            return value == 9 || value == 10 || value == 13 || value == 32;
        }

        private static boolean isLetter(int value) {
            return value >= 'a' && value <= 'z';
        }

        private static boolean isDigit(int value) {
            return value >= '0' && value <= '9';
        }
    }

    /** Nodes, their wires, and the erasing of what nothing can ask for. */
    private static final class Graph {
        /** Two that meet are still there while the new ones are made. */
        private static final int CAPACITY = MAX_NODES + 2;

        private final int[] kinds = new int[CAPACITY];
        private final int[] indexes = new int[CAPACITY];
        private final int[] wires = new int[CAPACITY * 4];
        private final int[] spare = new int[CAPACITY];
        private int spares;
        private final int[] populations = new int[KINDS];

        // Erasers whose wire is new: only these may have something to erase.
        private final int[] restless = new int[CAPACITY];
        private final boolean[] isRestless = new boolean[CAPACITY];
        private int restlessCount;
        private int erased;

        void clear() {
            for (int node = 0; node < CAPACITY; node++) {
                kinds[node] = NONE;
                isRestless[node] = false;
                spare[node] = CAPACITY - 1 - node;
            }
            for (int kind = 0; kind < KINDS; kind++) {
                populations[kind] = 0;
            }
            spares = CAPACITY;
            restlessCount = 0;
            erased = 0;
        }

        int size() {
            return CAPACITY - spares;
        }

        int erasedNodes() {
            return erased;
        }

        int population(int kind) {
            return kind >= 0 && kind < KINDS ? populations[kind] : 0;
        }

        int kindOf(int node) {
            return node >= 0 && node < CAPACITY ? kinds[node] : NONE;
        }

        int indexOf(int node) {
            return node >= 0 && node < CAPACITY ? indexes[node] : NONE;
        }

        /** The port at the other end of a port's wire. */
        int across(int port) {
            return port >= 0 && port < wires.length ? wires[port] : NONE;
        }

        int make(int kind, int index) {
            if (spares < 1 || spares > CAPACITY || kind < 0 || kind >= KINDS) {
                return NONE;
            }
            int node = spare[spares - 1];
            if (node < 0 || node >= CAPACITY) {
                return NONE;
            }
            spares--;
            kinds[node] = kind;
            indexes[node] = index;
            populations[kind]++;
            return node;
        }

        void discard(int node) {
            int kind = kindOf(node);
            if (kind < 0 || kind >= KINDS || spares >= CAPACITY) {
                return;
            }
            populations[kind]--;
            kinds[node] = NONE;
            spare[spares] = node;
            spares++;
        }

        void link(int one, int other) {
            if (one < 0 || one >= wires.length || other < 0 || other >= wires.length) {
                return;
            }
            wires[one] = other;
            wires[other] = one;
            rouse(nodeAt(one));
            rouse(nodeAt(other));
        }

        /** What was at the old port is at the new one then; that may be a port which is itself to be replaced later. */
        void replace(int oldPort, int newPort) {
            link(newPort, across(oldPort));
        }

        /** What was at one port is wired to what was at the other; if that was each other, both go with the wire. */
        void join(int one, int other) {
            link(across(one), across(other));
        }

        void eraseAll() {
            for (int turn = 0; turn < MANY_TURNS && restlessCount > 0 && restlessCount <= CAPACITY; turn++) {
                restlessCount--;
                calm(restless[restlessCount]);
            }
        }

        /** A node that is no eraser, or waits already, is left alone. */
        private void rouse(int node) {
            if (node < 0 || node >= CAPACITY || restlessCount >= CAPACITY) {
                return;
            }
            if (kinds[node] == ERASER && !isRestless[node]) {
                isRestless[node] = true;
                restless[restlessCount] = node;
                restlessCount++;
            }
        }

        private void calm(int eraser) {
            if (eraser < 0 || eraser >= CAPACITY) {
                return;
            }
            isRestless[eraser] = false;
            if (kinds[eraser] != ERASER) {
                return;
            }
            int port = across(portOf(eraser, 0));
            int node = nodeAt(port);
            if (kindOf(node) == ERASER) {
                discard(eraser);
                discard(node);
            } else if (yields(node, whichAt(port))) {
                erase(node);
            }
        }

        /** Whether a node goes because of an eraser at one of its ports. */
        private boolean yields(int node, int which) {
            int kind = kindOf(node);
            if (kind == NONE || kind == ROOT) {
                return false;
            }
            if (which == 0) {
                return true;
            }
            if (kind == FAN) {
                return isErased(portOf(node, 1)) && isErased(portOf(node, 2));
            }
            return which == 1 && (kind == CROISSANT || kind == BRACKET || kind == APPLICATION);
        }

        private boolean isErased(int port) {
            return kindOf(nodeAt(across(port))) == ERASER;
        }

        /** An eraser that is at a port already would only meet the new one there, so both are left out at once. */
        private void erase(int node) {
            int ports = otherPorts(kindOf(node));
            for (int which = 0; which <= ports; which++) {
                int port = portOf(node, which);
                if (isErased(port)) {
                    discard(nodeAt(across(port)));
                } else {
                    replace(port, portOf(make(ERASER, NONE), 0));
                }
            }
            discard(node);
            erased++;
        }
    }

    /** Makes the graph of a term from the reader's words, from within outwards. */
    private static final class Builder {
        /** A function waits at each open parenthesis and outside, and its argument is being made. */
        private static final int HEIGHT = MAX_OPEN + 3;

        private final Graph graph;
        private final int[] rootPorts = new int[HEIGHT];
        private final int[][] freePorts = new int[HEIGHT][MAX_OPEN];
        private int height;

        Builder(Graph graph) {
            this.graph = graph;
        }

        void build(TermReader reader) {
            height = 0;
            int root = graph.make(ROOT, NONE);
            for (int word = 0; word < reader.wordCount(); word++) {
                int index = reader.wordIndex(word);
                int slot = reader.wordSlot(word);
                switch (reader.wordKind(word)) {
                    case TermReader.NAME_WORD:
                        buildName(index, slot);
                        break;
                    case TermReader.LAMBDA_WORD:
                        buildLambda(index, slot);
                        break;
                    default:
                        buildApplication(index);
                        break;
                }
            }
            if (height > 0) {
                graph.link(portOf(root, 0), rootPorts[0]);
            }
        }

        private void buildName(int index, int slot) {
            if (height >= HEIGHT || slot < 0 || slot >= MAX_OPEN) {
                return;
            }
            int croissant = graph.make(CROISSANT, index);
            for (int other = 0; other < MAX_OPEN; other++) {
                freePorts[height][other] = NONE;
            }
            rootPorts[height] = portOf(croissant, 1);
            freePorts[height][slot] = portOf(croissant, 0);
            height++;
        }

        private void buildLambda(int index, int slot) {
            if (height < 1 || slot < 0 || slot >= MAX_OPEN) {
                return;
            }
            int top = height - 1;
            int lambda = graph.make(LAMBDA, index);
            int binding = freePorts[top][slot];
            if (binding == NONE) {
                binding = portOf(graph.make(ERASER, NONE), 0);
            }
            graph.link(portOf(lambda, 1), rootPorts[top]);
            graph.link(portOf(lambda, 2), binding);
            rootPorts[top] = portOf(lambda, 0);
            freePorts[top][slot] = NONE;
        }

        private void buildApplication(int index) {
            if (height < 2) {
                return;
            }
            int argument = height - 1;
            int function = height - 2;
            int application = graph.make(APPLICATION, index);
            graph.link(portOf(application, 0), rootPorts[function]);
            graph.link(portOf(application, 2), rootPorts[argument]);
            rootPorts[function] = portOf(application, 1);
            for (int slot = 0; slot < MAX_OPEN; slot++) {
                int used = freePorts[argument][slot];
                if (used != NONE) {
                    freePorts[function][slot] = share(index, freePorts[function][slot], bracket(index, used));
                }
            }
            height = argument;
        }

        private int bracket(int index, int port) {
            int bracket = graph.make(BRACKET, index);
            graph.link(portOf(bracket, 1), port);
            return portOf(bracket, 0);
        }

        private int share(int index, int ofFunction, int ofArgument) {
            if (ofFunction == NONE) {
                return ofArgument;
            }
            int fan = graph.make(FAN, index);
            graph.link(portOf(fan, 1), ofFunction);
            graph.link(portOf(fan, 2), ofArgument);
            return portOf(fan, 0);
        }
    }

    /** What two nodes do that are wired by their principal ports. */
    private static final class Meetings {
        private final Graph graph;
        private int betas;
        private int annihilations;
        private int passings;

        Meetings(Graph graph) {
            this.graph = graph;
        }

        void clear() {
            betas = 0;
            annihilations = 0;
            passings = 0;
        }

        int betas() {
            return betas;
        }

        int annihilations() {
            return annihilations;
        }

        int passings() {
            return passings;
        }

        /** MEETING if the two can meet now, or else why not. */
        int refusal(int one, int other) {
            if (isBeta(one, other) || isAnnihilation(one, other)) {
                return MEETING;
            }
            if (passes(one, other)) {
                return hasRoom(one, other) ? MEETING : NO_ROOM;
            }
            if (passes(other, one)) {
                return hasRoom(other, one) ? MEETING : NO_ROOM;
            }
            return WRONG;
        }

        void act(int one, int other) {
            if (isBeta(one, other)) {
                joinPorts(one, other);
                betas++;
            } else if (isAnnihilation(one, other)) {
                joinPorts(one, other);
                annihilations++;
            } else if (passes(one, other)) {
                pass(one, other);
            } else if (passes(other, one)) {
                pass(other, one);
            }
        }

        private boolean isBeta(int one, int other) {
            int kind = graph.kindOf(one);
            int otherKind = graph.kindOf(other);
            return sameIndex(one, other)
                    && (kind == LAMBDA && otherKind == APPLICATION || kind == APPLICATION && otherKind == LAMBDA);
        }

        private boolean isAnnihilation(int one, int other) {
            int kind = graph.kindOf(one);
            return sameIndex(one, other) && kind == graph.kindOf(other) && isControl(kind);
        }

        private boolean sameIndex(int one, int other) {
            return graph.indexOf(one) == graph.indexOf(other);
        }

        private boolean passes(int control, int node) {
            return isControl(graph.kindOf(control)) && graph.indexOf(control) < graph.indexOf(node);
        }

        private boolean hasRoom(int control, int node) {
            int copies = graph.kindOf(control) == FAN ? 2 : 1;
            int size = graph.size() - 2 + copies + otherPorts(graph.kindOf(node));
            return size <= MAX_NODES && passedIndex(control, node) <= MAX_INDEX;
        }

        private int passedIndex(int control, int node) {
            int index = graph.indexOf(node);
            switch (graph.kindOf(control)) {
                case CROISSANT:
                    return index - 1;
                case BRACKET:
                    return index + 1;
                default:
                    return index;
            }
        }

        /** For a beta too: result and body are both port 1, argument and binding both port 2. */
        private void joinPorts(int one, int other) {
            int ports = otherPorts(graph.kindOf(one));
            for (int which = 1; which <= ports; which++) {
                graph.join(portOf(one, which), portOf(other, which));
            }
            graph.discard(one);
            graph.discard(other);
        }

        private void pass(int control, int node) {
            int kind = graph.kindOf(node);
            int controlKind = graph.kindOf(control);
            int copies = otherPorts(controlKind);
            int first = graph.make(kind, passedIndex(control, node));
            int second = copies == 2 ? graph.make(kind, passedIndex(control, node)) : NONE;
            graph.replace(portOf(control, 1), portOf(first, 0));
            if (copies == 2) {
                graph.replace(portOf(control, 2), portOf(second, 0));
            }
            for (int which = 1; which <= otherPorts(kind); which++) {
                int passed = graph.make(controlKind, graph.indexOf(control));
                graph.replace(portOf(node, which), portOf(passed, 0));
                graph.link(portOf(first, which), portOf(passed, 1));
                if (copies == 2) {
                    graph.link(portOf(second, which), portOf(passed, 2));
                }
            }
            graph.discard(control);
            graph.discard(node);
            passings++;
        }
    }

    /** What levels are made of: each tree is there once, so that two are the same if their numbers are. */
    private static final class Trees {
        static final int BOX = 0;
        private static final int FIRST = 1;
        private static final int SECOND = 2;
        private static final int PAIR = 3;

        /** Each step makes one at most. */
        private static final int CAPACITY = MAX_STEPS + 2;
        private static final int BUCKETS = 4096;

        private final int[] forms = new int[CAPACITY];
        private final int[] lefts = new int[CAPACITY];
        private final int[] rights = new int[CAPACITY];
        private final int[] olders = new int[CAPACITY];
        private final int[] newest = new int[BUCKETS];
        private int count = 1;

        int size() {
            return count;
        }

        int form(int tree) {
            return tree > 0 && tree < count ? forms[tree] : BOX;
        }

        int left(int tree) {
            return tree > 0 && tree < count ? lefts[tree] : BOX;
        }

        int right(int tree) {
            return tree > 0 && tree < count ? rights[tree] : BOX;
        }

        int tree(int form, int left, int right) {
            int bucket = bucketOf(form, left, right);
            int tree = newest[bucket];
            for (int turn = 0; turn < count && tree > 0 && tree < count; turn++) {
                if (forms[tree] == form && lefts[tree] == left && rights[tree] == right) {
                    return tree;
                }
                tree = olders[tree];
            }
            return add(bucket, form, left, right);
        }

        /** Forgets all trees but the first so many. */
        void cut(int kept) {
            while (count > kept && count > 1 && count <= CAPACITY) {
                count--;
                newest[bucketOf(forms[count], lefts[count], rights[count])] = olders[count];
            }
        }

        private int add(int bucket, int form, int left, int right) {
            if (count >= CAPACITY || bucket < 0 || bucket >= BUCKETS) {
                return BOX;
            }
            int tree = count;
            forms[tree] = form;
            lefts[tree] = left;
            rights[tree] = right;
            olders[tree] = newest[bucket];
            newest[bucket] = tree;
            count++;
            return tree;
        }

        private static int bucketOf(int form, int left, int right) {
            return (form * 1009 + left * 31 + right * 577) & (BUCKETS - 1);
        }
    }

    /** The context of a walk, and the trail of its changes, by which each can be taken back. */
    private static final class Context {
        /** An index reaches to 63, and each step adds one level at most. */
        private static final int LEVELS = MAX_INDEX + MAX_STEPS + 4;

        private static final int ADDED = 0;
        private static final int DROPPED = 1;
        private static final int PAIRED = 2;
        private static final int SPLIT = 3;
        private static final int CHANGED = 4;

        private final Trees trees = new Trees();
        private final int[] levels = new int[LEVELS];
        private int depth;

        private final int[] trailForms = new int[MAX_STEPS];
        private final int[] trailLevels = new int[MAX_STEPS];
        private final int[] trailTrees = new int[MAX_STEPS];
        private final int[] trailCounts = new int[MAX_STEPS];
        private int changes;

        void clear() {
            depth = 0;
            changes = 0;
            trees.cut(1);
        }

        int changes() {
            return changes;
        }

        /** All levels from the depth on are BOX. */
        int level(int n) {
            return n >= 0 && n < depth && n < LEVELS ? levels[n] : Trees.BOX;
        }

        void addBox(int n) {
            note(ADDED, n);
            insert(n, Trees.BOX);
        }

        void drop(int n) {
            note(DROPPED, n);
            delete(n);
        }

        void pairUp(int n) {
            note(PAIRED, n);
            set(n, trees.tree(Trees.PAIR, level(n), level(n + 1)));
            delete(n + 1);
        }

        /** Whether there was a pair. */
        boolean split(int n) {
            int tree = level(n);
            if (trees.form(tree) != Trees.PAIR) {
                return false;
            }
            note(SPLIT, n);
            set(n, trees.left(tree));
            insert(n + 1, trees.right(tree));
            return true;
        }

        void enterFan(int n, int which) {
            note(CHANGED, n);
            set(n, trees.tree(which == 1 ? Trees.FIRST : Trees.SECOND, level(n), Trees.BOX));
        }

        /** By which port of a fan it goes on, or NONE. */
        int leaveFan(int n) {
            int tree = level(n);
            int form = trees.form(tree);
            if (form != Trees.FIRST && form != Trees.SECOND) {
                return NONE;
            }
            note(CHANGED, n);
            set(n, trees.left(tree));
            return form == Trees.FIRST ? 1 : 2;
        }

        void undoTo(int mark) {
            for (int over = changes - mark; over > 0; over--) {
                undo();
            }
        }

        /** Trees that the change made are in no level any more, and in no other that is kept. */
        void undo() {
            if (changes < 1 || changes > MAX_STEPS) {
                return;
            }
            changes--;
            int n = trailLevels[changes];
            int old = trailTrees[changes];
            switch (trailForms[changes]) {
                case ADDED:
                    delete(n);
                    break;
                case DROPPED:
                    insert(n, old);
                    break;
                case PAIRED:
                    insert(n + 1, trees.right(level(n)));
                    set(n, old);
                    break;
                case SPLIT:
                    set(n, old);
                    delete(n + 1);
                    break;
                default:
                    set(n, old);
                    break;
            }
            trees.cut(trailCounts[changes]);
        }

        private void note(int form, int n) {
            if (changes < MAX_STEPS) {
                trailForms[changes] = form;
                trailLevels[changes] = n;
                trailTrees[changes] = level(n);
                trailCounts[changes] = trees.size();
                changes++;
            }
        }

        private void insert(int n, int tree) {
            if (n >= depth) {
                set(n, tree);
            } else if (n >= 0 && depth < LEVELS) {
                System.arraycopy(levels, n, levels, n + 1, depth - n);
                levels[n] = tree;
                depth++;
            }
        }

        private void delete(int n) {
            if (n >= 0 && n < depth && depth <= LEVELS) {
                System.arraycopy(levels, n + 1, levels, n, depth - n - 1);
                depth--;
            }
        }

        private void set(int n, int tree) {
            if (n < 0 || n >= LEVELS || n >= depth && tree == Trees.BOX) {
                return;
            }
            while (depth <= n) {
                levels[depth] = Trees.BOX;
                depth++;
            }
            levels[n] = tree;
        }
    }

    /** Reads a graph from the root, up to its end or to the next meeting. */
    private static final class Walk {
        private static final int IN_BODY = 0;
        private static final int IN_FUNCTION = 1;
        private static final int IN_ARGUMENT = 2;
        private static final int FEW_LEVELS = 2048;
        private static final int MOST_LEVELS = MAX_LETTERS * MAX_INDEX;

        private final Graph graph;
        private final Context context = new Context();
        private final char[] letters = new char[MAX_LETTERS];
        private int told;
        private int leaving;
        private final int[] leftBefore = new int[MAX_STEPS];
        private int steps;

        // The abstractions and applications around what is read, outermost first; each has told a letter.
        private final int[] stages = new int[MAX_LETTERS];
        private final int[] stageNodes = new int[MAX_LETTERS];
        private final int[] stageMarks = new int[MAX_LETTERS];
        private int depth;

        // Of these the abstractions alone, each with the levels before its body that a variable is known by.
        private final int[] binders = new int[MAX_LETTERS];
        private final int[] binderStarts = new int[MAX_LETTERS];
        private int binderCount;
        private int[] binderLevels = new int[FEW_LEVELS];
        private int binderLevelCount;

        Walk(Graph graph) {
            this.graph = graph;
        }

        /** The root is the first node that is made, and never goes. */
        void begin() {
            context.clear();
            told = 0;
            steps = 0;
            depth = 0;
            binderCount = 0;
            binderLevelCount = 0;
            leaving = portOf(0, 0);
        }

        int told() {
            return told;
        }

        int letterAt(int i) {
            return i >= 0 && i < told && i < MAX_LETTERS ? letters[i] : NONE;
        }

        int nodeLeft() {
            return nodeAt(leaving);
        }

        int nodeAhead() {
            return nodeAt(graph.across(leaving));
        }

        int advance() {
            while (steps < MAX_STEPS) {
                int there = graph.across(leaving);
                if (isMeeting(there)) {
                    return MEETING;
                }
                leftBefore[steps] = leaving;
                steps++;
                int outcome = arrive(nodeAt(there), whichAt(there));
                if (outcome == TERM_READ) {
                    outcome = endTerm();
                }
                if (outcome != GOES_ON) {
                    return outcome;
                }
            }
            return TOO_LONG;
        }

        /** Takes back the step into the node that is to meet: it came there by another port, and left by port 0. */
        void stepBack() {
            if (steps < 1 || steps > MAX_STEPS) {
                return;
            }
            if (graph.kindOf(nodeAt(leaving)) != APPLICATION) {
                context.undo();
            } else if (depth > 0 && told > 0) {
                depth--;
                told--;
            }
            steps--;
            leaving = leftBefore[steps];
        }

        private boolean isMeeting(int there) {
            return whichAt(leaving) == 0 && graph.kindOf(nodeAt(leaving)) != ROOT && whichAt(there) == 0;
        }

        private int arrive(int node, int which) {
            int n = graph.indexOf(node);
            switch (graph.kindOf(node)) {
                case LAMBDA:
                    return atLambda(node, which);
                case APPLICATION:
                    return which == 1 ? readApplication(node) : WRONG;
                case CROISSANT:
                    if (which == 0) {
                        context.drop(n);
                    } else {
                        context.addBox(n);
                    }
                    return leaveBy(node, 1 - which);
                case BRACKET:
                    return atBracket(node, n, which);
                case FAN:
                    return atFan(node, n, which);
                default:
                    return WRONG;
            }
        }

        private int leaveBy(int node, int which) {
            leaving = portOf(node, which);
            return GOES_ON;
        }

        private int atBracket(int node, int n, int which) {
            if (which == 0) {
                return context.split(n) ? leaveBy(node, 1) : WRONG;
            }
            context.pairUp(n);
            return leaveBy(node, 0);
        }

        private int atFan(int node, int n, int which) {
            if (which == 0) {
                int side = context.leaveFan(n);
                return side == NONE ? WRONG : leaveBy(node, side);
            }
            context.enterFan(n, which);
            return leaveBy(node, 0);
        }

        private int atLambda(int node, int which) {
            switch (which) {
                case 0:
                    return readAbstraction(node);
                case 2:
                    return readVariable(node);
                default:
                    return WRONG;
            }
        }

        private int readAbstraction(int node) {
            if (!tell('\\') || binderCount >= MAX_LETTERS) {
                return TOO_LONG;
            }
            binders[binderCount] = node;
            binderStarts[binderCount] = binderLevelCount;
            binderCount++;
            keepLevels(graph.indexOf(node));
            push(IN_BODY, node);
            return leaveBy(node, 1);
        }

        private int readApplication(int node) {
            if (!tell('(')) {
                return TOO_LONG;
            }
            push(IN_FUNCTION, node);
            return leaveBy(node, 0);
        }

        private int readVariable(int node) {
            int n = graph.indexOf(node);
            for (int binder = binderCount - 1; binder >= 0; binder--) {
                if (binders[binder] == node && hasLevels(binderStarts[binder], n)) {
                    return tellNumber(binderCount - 1 - binder) ? TERM_READ : TOO_LONG;
                }
            }
            return WRONG;
        }

        /** Behind a variable: ends all that ends with it, and turns to the next argument, if there is one. */
        private int endTerm() {
            for (int top = depth - 1; top >= 0 && top < MAX_LETTERS; top--) {
                if (stages[top] == IN_FUNCTION) {
                    context.undoTo(stageMarks[top]);
                    stages[top] = IN_ARGUMENT;
                    leaving = portOf(stageNodes[top], 2);
                    return tell(' ') ? GOES_ON : TOO_LONG;
                }
                if (stages[top] == IN_ARGUMENT && !tell(')')) {
                    return TOO_LONG;
                }
                if (stages[top] == IN_BODY) {
                    forgetBinder();
                }
                depth = top;
            }
            return DONE;
        }

        private void push(int stage, int node) {
            if (depth < MAX_LETTERS) {
                stages[depth] = stage;
                stageNodes[depth] = node;
                stageMarks[depth] = context.changes();
                depth++;
            }
        }

        private void forgetBinder() {
            if (binderCount > 0 && binderCount <= MAX_LETTERS) {
                binderCount--;
                binderLevelCount = binderStarts[binderCount];
            }
        }

        private void keepLevels(int count) {
            growLevels(binderLevelCount + count);
            for (int n = 0; n < count && binderLevelCount < binderLevels.length; n++) {
                binderLevels[binderLevelCount] = context.level(n);
                binderLevelCount++;
            }
        }

        /** Grown, since few runs need more than a little of what the limits allow. */
        private void growLevels(int needed) {
            if (needed > binderLevels.length && needed <= MOST_LEVELS) {
                int[] grown = new int[needed * 2 < MOST_LEVELS ? needed * 2 : MOST_LEVELS];
                for (int k = 0; k < binderLevels.length && k < grown.length; k++) {
                    grown[k] = binderLevels[k];
                }
                binderLevels = grown;
            }
        }

        private boolean hasLevels(int start, int count) {
            if (start < 0 || start + count > binderLevels.length) {
                return false;
            }
            for (int n = 0; n < count; n++) {
                if (binderLevels[start + n] != context.level(n)) {
                    return false;
                }
            }
            return true;
        }

        private boolean tellNumber(int number) {
            int scale = 1;
            while (scale < 1000 && scale * 10 <= number) {
                scale = scale * 10;
            }
            boolean fits = true;
            for (int unit = scale; unit > 0; unit = unit / 10) {
                fits = tell((char) ('0' + number / unit % 10)) && fits;
            }
            return fits;
        }

        private boolean tell(char letter) {
            if (told >= MAX_LETTERS) {
                return false;
            }
            letters[told] = letter;
            told++;
            return true;
        }
    }
}
