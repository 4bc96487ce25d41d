/**
 * A table for the game of sprouts without a drawing: fields are kept by the walls around them,
 * moves are counted, told, made and taken back, and small rests of a game are solved to their
 * nim-worth.
 */
public final class SproutTable {
    public static final int NONE = -1;

    private static final int FIRST_SPOTS = 2;
    private static final int MOST_FIRST_SPOTS = 8;
    private static final int IMAGES = 4;
    private static final int MOST_SOLVED_LIVES = 9;

    private static final int FULL_LIFE = 3;
    // A move takes two lives and gives one, and the last life that is left can't move.
    private static final int MOST_MOVES = FULL_LIFE * MOST_FIRST_SPOTS - 1;
    private static final int MOST_SPOTS = MOST_FIRST_SPOTS + MOST_MOVES;
    private static final int MOST_FIELDS = 1 + MOST_MOVES;
    private static final int MOST_WALLS = MOST_FIRST_SPOTS + MOST_MOVES;
    private static final int MOST_CORNERS = MOST_FIRST_SPOTS + 4 * MOST_MOVES;
    // Far above the pairs of corners that any position has.
    private static final int PAIRS_BOUND = 1000000;

    private final Game game;
    private final Notes[] images;
    private final Move asked;
    private Solver solver;

    public SproutTable() {
        game = new Game();
        images = new Notes[IMAGES];
        asked = new Move();
        game.start(FIRST_SPOTS);
    }

    public boolean begin(int n) {
        if (n < 1 || n > MOST_FIRST_SPOTS) {
            return false;
        }
        game.start(n);
        return true;
    }

    public int count(int what) {
        Position now = game.now();
        switch (what) {
            case 0:
                return now.spotCount;
            case 1:
                return now.fieldCount;
            case 2:
                return game.notes.madeCount;
            case 3:
                return now.lifeCount;
            case 4:
                return now.wallCount;
            case 5:
                return now.pieceCount;
            default:
                return NONE;
        }
    }

    public int walls(int field) {
        Position now = game.now();
        return now.hasField(field) ? now.wallsIn(field) : NONE;
    }

    public int corners(int field, int wall) {
        Position now = game.now();
        return now.hasWall(field, wall) ? now.cornersOn(field, wall) : NONE;
    }

    public int corner(int field, int wall, int k) {
        Position now = game.now();
        return now.hasCorner(field, wall, k) ? now.spot(field, wall, k) : NONE;
    }

    public int lives(int spot) {
        Position now = game.now();
        return spot >= 0 && spot < now.spotCount ? now.life[spot] : NONE;
    }

    public int join(int field, int u, int i, int v, int j, int side) {
        asked.field = field;
        asked.u = u;
        asked.i = i;
        asked.v = v;
        asked.j = j;
        asked.side = side;
        return game.now().allows(asked) ? game.play(asked) : NONE;
    }

    public int moves() {
        Position now = game.now();
        int total = 0;
        asked.rewind();
        for (int step = 0; step < PAIRS_BOUND && now.nextPair(asked); step++) {
            total += now.sides(asked);
        }
        return total;
    }

    public int move(int k) {
        return game.now().find(k, asked) ? game.play(asked) : NONE;
    }

    public int tell(int k, int what) {
        return game.now().find(k, asked) ? asked.part(what) : NONE;
    }

    public int undo() {
        return game.takeBack();
    }

    public int made(int t, int what) {
        Notes notes = game.notes;
        return t >= 0 && t < notes.madeCount ? notes.told[t].part(what) : NONE;
    }

    public int nim() {
        return canBeSolved() ? solver.worth(game.now()) : NONE;
    }

    public int best() {
        return canBeSolved() ? solver.firstToZero(game.now(), asked) : NONE;
    }

    /** The solver is made when it is first needed: many a table never asks for it. */
    private boolean canBeSolved() {
        if (game.now().lifeCount > MOST_SOLVED_LIVES) {
            return false;
        }
        if (solver == null) {
            solver = new Solver();
        }
        return true;
    }

    public boolean image(int k) {
        if (k < 0 || k >= IMAGES) {
            return false;
        }
        if (images[k] == null) {
            images[k] = new Notes();
        }
        images[k].take(game.notes);
        return true;
    }

    public boolean again(int k) {
        if (k < 0 || k >= IMAGES || images[k] == null) {
            return false;
        }
        game.replay(images[k]);
        return true;
    }

    /** A move as the document tells it; also the place from which a walk over all moves goes on. */
    private static final class Move {
        int field;
        int u;
        int i;
        int v;
        int j;
        int side;

        void rewind() {
            field = 0;
            u = 0;
            i = 0;
            v = 0;
            j = -1;
            side = 0;
        }

        void take(Move other) {
            field = other.field;
            u = other.u;
            i = other.i;
            v = other.v;
            j = other.j;
            side = other.side;
        }

        int part(int what) {
            switch (what) {
                case 0:
                    return field;
                case 1:
                    return u;
                case 2:
                    return i;
                case 3:
                    return v;
                case 4:
                    return j;
                case 5:
                    return side;
                default:
                    return NONE;
            }
        }
    }

    /** How a game went: enough to play it once more. */
    private static final class Notes {
        final Move[] told = new Move[MOST_MOVES];
        int firstSpots;
        int madeCount;

        Notes() {
            for (int t = 0; t < MOST_MOVES; t++) {
                told[t] = new Move();
            }
        }

        void take(Notes other) {
            firstSpots = other.firstSpots;
            madeCount = other.madeCount;
            for (int t = 0; t < madeCount; t++) {
                told[t].take(other.told[t]);
            }
        }
    }

    /** A game: its notes, and the position behind every move, so that taking back is no work. */
    private static final class Game {
        final Notes notes = new Notes();
        final Position[] after = new Position[MOST_MOVES + 1];

        Game() {
            for (int t = 0; t <= MOST_MOVES; t++) {
                after[t] = new Position(false);
            }
        }

        Position now() {
            return after[notes.madeCount];
        }

        void start(int n) {
            notes.firstSpots = n;
            notes.madeCount = 0;
            after[0].start(n);
        }

        int play(Move move) {
            int t = notes.madeCount;
            if (t >= MOST_MOVES) {
                return NONE;
            }
            after[t + 1].become(after[t], move);
            notes.told[t].take(move);
            notes.madeCount = t + 1;
            return after[t].spotCount;
        }

        int takeBack() {
            if (notes.madeCount == 0) {
                return NONE;
            }
            notes.madeCount--;
            return notes.madeCount;
        }

        void replay(Notes image) {
            start(image.firstSpots);
            for (int t = 0; t < image.madeCount; t++) {
                play(image.told[t]);
            }
        }
    }

    /**
     * Fields, walls and corners in rows: the walls of a field and the corners of a wall stand side
     * by side. A lean position leaves out what no move can touch any more, which changes its
     * nim-worth not at all: corners of dead spots, the second of two neighbouring corners of one
     * spot, empty walls, and fields without a move.
     */
    private static final class Position {
        final boolean lean;
        final int[] spotAt = new int[MOST_CORNERS];
        final int[] wallFrom = new int[MOST_WALLS + 1];
        final int[] fieldFrom = new int[MOST_FIELDS + 1];
        final int[] life = new int[MOST_SPOTS];
        int cornerCount;
        int wallCount;
        int fieldCount;
        int spotCount;
        int pieceCount;
        int lifeCount;

        Position(boolean lean) {
            this.lean = lean;
        }

        boolean hasField(int field) {
            return field >= 0 && field < fieldCount;
        }

        boolean hasWall(int field, int wall) {
            return hasField(field) && wall >= 0 && wall < wallsIn(field);
        }

        boolean hasCorner(int field, int wall, int k) {
            return hasWall(field, wall) && k >= 0 && k < cornersOn(field, wall);
        }

        int wallsIn(int field) {
            return fieldFrom[field + 1] - fieldFrom[field];
        }

        int cornersOn(int field, int wall) {
            return size(fieldFrom[field] + wall);
        }

        /** Corners of a wall by its place in the row of all walls. */
        int size(int w) {
            return wallFrom[w + 1] - wallFrom[w];
        }

        int spot(int field, int wall, int k) {
            return spotAt[wallFrom[fieldFrom[field] + wall] + k];
        }

        boolean canMeet(int a, int b) {
            return a == b ? life[a] >= 2 : life[a] >= 1 && life[b] >= 1;
        }

        int sides(Move m) {
            return m.u == m.v ? 1 << (wallsIn(m.field) - 1) : 1;
        }

        boolean allows(Move m) {
            if (!hasCorner(m.field, m.u, m.i) || !hasCorner(m.field, m.v, m.j)) {
                return false;
            }
            if (m.u > m.v || m.u == m.v && m.i > m.j) {
                return false;
            }
            if (m.side < 0 || m.side >= sides(m)) {
                return false;
            }
            return canMeet(spot(m.field, m.u, m.i), spot(m.field, m.v, m.j));
        }

        /** Goes from m to the next two corners in THE ORDER that can meet; false behind the last ones. */
        boolean nextPair(Move m) {
            m.j++;
            for (; m.field < fieldCount; m.field++) {
                for (; m.u < wallsIn(m.field); m.u++) {
                    for (; m.i < cornersOn(m.field, m.u); m.i++) {
                        if (nextPartner(m)) {
                            return true;
                        }
                        m.v = m.u;
                        m.j = m.i + 1;
                    }
                    m.i = 0;
                    m.v = m.u + 1;
                    m.j = 0;
                }
                m.u = 0;
                m.v = 0;
            }
            return false;
        }

        boolean nextPartner(Move m) {
            int a = spot(m.field, m.u, m.i);
            if (life[a] == 0) {
                return false;
            }
            for (; m.v < wallsIn(m.field); m.v++) {
                for (; m.j < cornersOn(m.field, m.v); m.j++) {
                    if (canMeet(a, spot(m.field, m.v, m.j))) {
                        return true;
                    }
                }
                m.j = 0;
            }
            return false;
        }

        boolean find(int k, Move m) {
            if (k < 0) {
                return false;
            }
            int left = k;
            m.rewind();
            for (int step = 0; step < PAIRS_BOUND && nextPair(m); step++) {
                int here = sides(m);
                if (left < here) {
                    m.side = left;
                    return true;
                }
                left -= here;
            }
            return false;
        }

        void clear() {
            cornerCount = 0;
            wallCount = 0;
            fieldCount = 0;
            spotCount = 0;
            pieceCount = 0;
            lifeCount = 0;
        }

        void addSpot(int lives) {
            if (spotCount < life.length) {
                life[spotCount] = lives;
                spotCount++;
                lifeCount += lives;
            }
        }

        void start(int n) {
            clear();
            for (int k = 0; k < n; k++) {
                addSpot(FULL_LIFE);
                put(k);
                closeWall();
            }
            closeField();
            pieceCount = n;
        }

        void takeSpots(Position p) {
            clear();
            System.arraycopy(p.life, 0, life, 0, p.spotCount);
            spotCount = p.spotCount;
            pieceCount = p.pieceCount;
            lifeCount = p.lifeCount;
        }

        void copy(Position p) {
            takeSpots(p);
            for (int f = 0; f < p.fieldCount; f++) {
                putField(p, f);
            }
        }

        /** What move m, which p allows, makes of p. */
        void become(Position p, Move m) {
            takeSpots(p);
            spend(p.spot(m.field, m.u, m.i));
            spend(p.spot(m.field, m.v, m.j));
            addSpot(1);
            if (m.u != m.v) {
                pieceCount--;
            }
            for (int f = 0; f < p.fieldCount; f++) {
                if (f != m.field) {
                    putField(p, f);
                } else if (m.u != m.v) {
                    putJoined(p, m);
                } else {
                    putHalf(p, m, 0);
                }
            }
            if (m.u == m.v) {
                putHalf(p, m, 1);
            }
        }

        void spend(int a) {
            life[a]--;
            lifeCount--;
        }

        void putField(Position p, int field) {
            for (int w = p.fieldFrom[field]; w < p.fieldFrom[field + 1]; w++) {
                putRound(p, w, 0, p.size(w));
                closeWall();
            }
            closeField();
        }

        /** So many corners of a wall of p, one behind the other, from one on. */
        void putRound(Position p, int w, int from, int many) {
            int base = p.wallFrom[w];
            int size = p.size(w);
            int at = from;
            for (int k = 0; k < many; k++) {
                put(p.spotAt[base + at]);
                at = at + 1 < size ? at + 1 : 0;
            }
        }

        /** How many corners the whole round of a wall has from one on: that one again, if it has a curve. */
        int wholeRound(int w, int k) {
            return life[spotAt[wallFrom[w] + k]] == FULL_LIFE ? 1 : size(w) + 1;
        }

        void putJoined(Position p, Move m) {
            int first = p.fieldFrom[m.field];
            int c = p.spotCount;
            for (int w = first; w < p.fieldFrom[m.field + 1]; w++) {
                if (w == first + m.u) {
                    putRound(p, w, m.i, p.wholeRound(w, m.i));
                    put(c);
                    putRound(p, first + m.v, m.j, p.wholeRound(first + m.v, m.j));
                    put(c);
                    closeWall();
                } else if (w != first + m.v) {
                    putRound(p, w, 0, p.size(w));
                    closeWall();
                }
            }
            closeField();
        }

        /** The first (0) or the second (1) of the fields into which m divides one. */
        void putHalf(Position p, Move m, int half) {
            int first = p.fieldFrom[m.field];
            int divided = first + m.u;
            int inner = m.j - m.i + 1;
            if (half == 0) {
                putRound(p, divided, m.i, inner);
            } else {
                putRound(p, divided, m.j, p.wholeRound(divided, m.i) - inner + 1);
            }
            put(p.spotCount);
            closeWall();
            int rest = m.side;
            for (int w = first; w < p.fieldFrom[m.field + 1]; w++) {
                if (w != divided) {
                    if ((rest & 1) == half) {
                        putRound(p, w, 0, p.size(w));
                        closeWall();
                    }
                    rest = rest >> 1;
                }
            }
            closeField();
        }

        void put(int a) {
            boolean inWall = cornerCount > wallFrom[wallCount];
            if (lean && (life[a] == 0 || inWall && spotAt[cornerCount - 1] == a)) {
                return;
            }
            if (cornerCount < spotAt.length) {
                spotAt[cornerCount] = a;
                cornerCount++;
            }
        }

        void closeWall() {
            int from = wallFrom[wallCount];
            if (lean) {
                if (cornerCount > from + 1 && spotAt[from] == spotAt[cornerCount - 1]) {
                    cornerCount--;
                }
                if (cornerCount == from) {
                    return;
                }
            }
            if (wallCount < MOST_WALLS) {
                wallCount++;
                wallFrom[wallCount] = cornerCount;
            }
        }

        void closeField() {
            if (lean && !canMoveFrom(wallFrom[fieldFrom[fieldCount]])) {
                wallCount = fieldFrom[fieldCount];
                cornerCount = wallFrom[wallCount];
            } else if (fieldCount < MOST_FIELDS) {
                fieldCount++;
                fieldFrom[fieldCount] = wallCount;
            }
        }

        /** Whether the corners from one on, all of one field and alive, allow a move. */
        boolean canMoveFrom(int from) {
            for (int k = from; k < cornerCount; k++) {
                if (life[spotAt[k]] >= 2 || spotAt[k] != spotAt[from]) {
                    return true;
                }
            }
            return false;
        }
    }

    /** Nim-worths that are known, by key; what finds no room drives out something older. */
    private static final class Memo {
        static final int SLOT_BITS = 12;
        static final int SLOTS = 1 << SLOT_BITS;
        static final int TRIES = 8;
        final long[] high = new long[SLOTS];
        final long[] low = new long[SLOTS];
        final byte[] worthAndOne = new byte[SLOTS];

        int slot(long h, long l, int attempt) {
            long mixed = (h * 31 + l) * 0x9E3779B97F4A7C15L;
            return (int) (mixed >>> 64 - SLOT_BITS) + attempt & SLOTS - 1;
        }

        int find(long h, long l) {
            for (int attempt = 0; attempt < TRIES; attempt++) {
                int s = slot(h, l, attempt);
                if (worthAndOne[s] == 0) {
                    return NONE;
                }
                if (high[s] == h && low[s] == l) {
                    return worthAndOne[s] - 1;
                }
            }
            return NONE;
        }

        void keep(long h, long l, int worth) {
            int place = slot(h, l, 0);
            for (int attempt = TRIES - 1; attempt >= 0; attempt--) {
                int s = slot(h, l, attempt);
                if (worthAndOne[s] == 0) {
                    place = s;
                }
            }
            high[place] = h;
            low[place] = l;
            worthAndOne[place] = (byte) (worth + 1);
        }
    }

    /** Splits a lean position into parts that share no spot: their nim-worths add up by xor. */
    private static final class Parts {
        final int[] times = new int[MOST_SPOTS];
        final int[] firstField = new int[MOST_SPOTS];
        final int[] lastField = new int[MOST_SPOTS];
        final int[] links = new int[MOST_FIELDS];
        int fieldsLeft;

        void read(Position p) {
            for (int a = 0; a < p.spotCount; a++) {
                times[a] = 0;
            }
            for (int f = 0; f < p.fieldCount; f++) {
                links[f] = 1 << f;
                for (int k = p.wallFrom[p.fieldFrom[f]]; k < p.wallFrom[p.fieldFrom[f + 1]]; k++) {
                    note(p.spotAt[k], f);
                }
            }
            fieldsLeft = (1 << p.fieldCount) - 1;
        }

        void note(int a, int f) {
            times[a]++;
            lastField[a] = f;
            if (times[a] == 1) {
                firstField[a] = f;
            } else {
                links[f] |= 1 << firstField[a];
                links[firstField[a]] |= 1 << f;
            }
        }

        boolean pairedInside(int a) {
            return times[a] == 2 && firstField[a] == lastField[a];
        }

        /** The fields of the next part, as bits; 0 if there is none. */
        int nextPart(int fieldCount) {
            int part = fieldsLeft & -fieldsLeft;
            for (int round = 0; round < fieldCount; round++) {
                int before = part;
                for (int f = 0; f < fieldCount; f++) {
                    if ((part >> f & 1) == 1) {
                        part |= links[f];
                    }
                }
                if (part == before) {
                    break;
                }
            }
            fieldsLeft &= ~part;
            return part;
        }

        int livesOf(int part, Position p) {
            int sum = 0;
            for (int a = 0; a < p.spotCount; a++) {
                if (times[a] > 0 && (part >> firstField[a] & 1) == 1) {
                    sum += p.life[a];
                }
            }
            return sum;
        }
    }

    /**
     * Writes a part as a key of two longs. Equal keys are equal parts, up to what the nim-worth
     * does not see: numbers of spots, fields and walls, where a round begins, and a field's
     * mirror image. The key tells the whole part, so it can be read back.
     */
    private static final class Namer {
        // Where the second half of the rows for walls begins, that of mirror images.
        static final int MIRRORED = MOST_WALLS;
        static final int FREE_SPOT = 1;
        static final int LEAF_SPOT = 2;
        static final int LONE_SPOT = 3;
        static final int FIRST_LETTER = 4;
        // The second round, with letters told apart, finds nearly all parts that are the same.
        static final int ROUNDS = 2;
        static final int CORNERS_IN_LONG = 10;
        static final int SIGN_BITS = 4;
        static final int ENDING_BITS = 2;
        static final int CODE_BITS = SIGN_BITS + ENDING_BITS;
        static final int MORE = 0;
        static final int WALL_ENDS = 1;
        static final int FIELD_ENDS = 2;

        final Parts parts;
        final int[] sign = new int[MOST_SPOTS];
        final int[] fieldRow = new int[MOST_FIELDS];
        final int[] wallRow = new int[2 * MIRRORED];
        final long[] text = new long[2 * MIRRORED];
        final int[] startOf = new int[2 * MIRRORED];
        final int[] turn = new int[MOST_FIELDS];
        final int[] walked = new int[MOST_CORNERS];
        final int[] ending = new int[MOST_CORNERS];
        int fieldsInRow;
        int walkedCount;
        long high;
        long low;

        Namer(Parts parts) {
            this.parts = parts;
        }

        void name(Position p, int part) {
            takeFields(p, part);
            signByKind(p);
            boolean unsure = true;
            for (int round = 0; round < ROUNDS && unsure; round++) {
                for (int r = 0; r < fieldsInRow; r++) {
                    turnField(p, fieldRow[r]);
                }
                rowFields(p);
                walk(p);
                unsure = signByFirstSight();
            }
            encode();
        }

        void takeFields(Position p, int part) {
            fieldsInRow = 0;
            for (int f = 0; f < p.fieldCount; f++) {
                if ((part >> f & 1) == 1) {
                    fieldRow[fieldsInRow] = f;
                    fieldsInRow++;
                }
            }
        }

        void signByKind(Position p) {
            for (int a = 0; a < p.spotCount; a++) {
                if (p.life[a] > 1) {
                    sign[a] = p.life[a] == FULL_LIFE ? FREE_SPOT : LEAF_SPOT;
                } else if (parts.times[a] < 2) {
                    sign[a] = LONE_SPOT;
                } else {
                    sign[a] = parts.pairedInside(a) ? FIRST_LETTER : FIRST_LETTER + 1;
                }
            }
        }

        /** Names the letters in the order of the walk; false if there are none. */
        boolean signByFirstSight() {
            for (int k = 0; k < walkedCount; k++) {
                if (sign[walked[k]] >= FIRST_LETTER) {
                    sign[walked[k]] = 0;
                }
            }
            int next = FIRST_LETTER;
            for (int k = 0; k < walkedCount; k++) {
                if (sign[walked[k]] == 0) {
                    sign[walked[k]] = next;
                    next++;
                }
            }
            return next > FIRST_LETTER;
        }

        /** Takes a field or its mirror image, whichever has the lesser texts. */
        void turnField(Position p, int f) {
            rowWalls(p, f, 0);
            rowWalls(p, f, MIRRORED);
            turn[f] = 0;
            if (compareRows(p, f, f, MIRRORED) > 0) {
                turn[f] = MIRRORED;
            }
        }

        /** Great fields come first: they tell most of their letters apart. */
        void rowFields(Position p) {
            for (int r = 1; r < fieldsInRow; r++) {
                int f = fieldRow[r];
                int place = r;
                while (place > 0 && compareRows(p, fieldRow[place - 1], f, turn[f]) < 0) {
                    fieldRow[place] = fieldRow[place - 1];
                    place--;
                }
                fieldRow[place] = f;
            }
        }

        void rowWalls(Position p, int f, int way) {
            for (int w = p.fieldFrom[f]; w < p.fieldFrom[f + 1]; w++) {
                readWall(p, w, way);
                int place = w;
                while (place > p.fieldFrom[f] && text[way + wallRow[way + place - 1]] > text[way + w]) {
                    wallRow[way + place] = wallRow[way + place - 1];
                    place--;
                }
                wallRow[way + place] = w;
            }
        }

        /** Compares field f, as it is turned, with field g turned that way. */
        int compareRows(Position p, int f, int g, int otherWay) {
            int way = turn[f];
            int size = p.wallsIn(f);
            if (size != p.wallsIn(g)) {
                return size - p.wallsIn(g);
            }
            for (int k = 0; k < size; k++) {
                long one = text[way + wallRow[way + p.fieldFrom[f] + k]];
                long other = text[otherWay + wallRow[otherWay + p.fieldFrom[g] + k]];
                if (one != other) {
                    return one < other ? -1 : 1;
                }
            }
            return 0;
        }

        /**
         * The least text of a wall over all corners to begin with, on one of the two ways round.
         * Texts only choose among names of one part: if one were too long for a long, no answer
         * would be another one.
         */
        void readWall(Position p, int w, int way) {
            int from = p.wallFrom[w];
            int size = p.size(w);
            long read = 0;
            for (int k = 0; k < size; k++) {
                int at = way == 0 ? from + k : from + size - 1 - k;
                read = read << SIGN_BITS | sign[p.spotAt[at]];
            }
            int topShift = SIGN_BITS * (size - 1);
            long least = read;
            int start = 0;
            for (int k = 1; k < size; k++) {
                long top = read >>> topShift;
                read = (read ^ top << topShift) << SIGN_BITS | top;
                if (read < least) {
                    least = read;
                    start = k;
                }
            }
            text[way + w] = least;
            startOf[way + w] = way == 0 ? start : size - 1 - start;
        }

        void walk(Position p) {
            walkedCount = 0;
            for (int r = 0; r < fieldsInRow; r++) {
                int f = fieldRow[r];
                int last = p.fieldFrom[f + 1] - 1;
                for (int k = p.fieldFrom[f]; k <= last; k++) {
                    walkWall(p, wallRow[turn[f] + k], turn[f], k < last ? WALL_ENDS : FIELD_ENDS);
                }
            }
        }

        void walkWall(Position p, int w, int way, int end) {
            int from = p.wallFrom[w];
            int size = p.size(w);
            int at = startOf[way + w];
            for (int k = 0; k < size; k++) {
                walked[walkedCount] = p.spotAt[from + at];
                ending[walkedCount] = k < size - 1 ? MORE : end;
                walkedCount++;
                if (way == 0) {
                    at = at + 1 < size ? at + 1 : 0;
                } else {
                    at = at > 0 ? at - 1 : size - 1;
                }
            }
        }

        void encode() {
            high = 0;
            low = 0;
            for (int k = 0; k < walkedCount; k++) {
                long code = sign[walked[k]] << ENDING_BITS | ending[k];
                if (k < CORNERS_IN_LONG) {
                    high |= code << CODE_BITS * k;
                } else {
                    low |= code << CODE_BITS * (k - CORNERS_IN_LONG);
                }
            }
        }
    }

    /** Nim-worths of positions, part by part; what is needed of a level stands ready in its rows. */
    private static final class Solver {
        static final int LEVELS = MOST_SOLVED_LIVES;
        static final int MOST_PARTS = MOST_SOLVED_LIVES / 2 + 1;
        final Parts parts = new Parts();
        final Namer namer = new Namer(parts);
        final Memo memo = new Memo();
        final Position draft = new Position(true);
        final Position[] level = new Position[LEVELS];
        final Move[] tried = new Move[LEVELS];
        final long[] partHigh = new long[(LEVELS + 1) * MOST_PARTS];
        final long[] partLow = new long[(LEVELS + 1) * MOST_PARTS];
        final int[] letterSpot = new int[1 << Namer.SIGN_BITS];

        Solver() {
            for (int d = 0; d < LEVELS; d++) {
                level[d] = new Position(true);
                tried[d] = new Move();
            }
        }

        int worth(Position p) {
            draft.copy(p);
            return worthOfDraft(0);
        }

        int firstToZero(Position p, Move m) {
            int k = 0;
            m.rewind();
            for (int step = 0; step < PAIRS_BOUND && p.nextPair(m); step++) {
                int sides = p.sides(m);
                for (int side = 0; side < sides; side++) {
                    m.side = side;
                    draft.become(p, m);
                    if (worthOfDraft(0) == 0) {
                        return k;
                    }
                    k++;
                }
            }
            return NONE;
        }

        private int worthOfDraft(int depth) {
            int sum = 0;
            int from = depth * MOST_PARTS;
            int to = from;
            parts.read(draft);
            for (int n = 0; n < MOST_PARTS; n++) {
                int part = parts.nextPart(draft.fieldCount);
                if (part == 0) {
                    break;
                }
                // Whatever move is made of two lives, it is the last one.
                if (parts.livesOf(part, draft) == 2) {
                    sum ^= 1;
                } else {
                    namer.name(draft, part);
                    partHigh[to] = namer.high;
                    partLow[to] = namer.low;
                    to++;
                }
            }
            for (int k = from; k < to; k++) {
                sum ^= worthOfKey(partHigh[k], partLow[k], depth);
            }
            return sum;
        }

        private int worthOfKey(long high, long low, int depth) {
            int known = memo.find(high, low);
            if (known != NONE) {
                return known;
            }
            // Never so deep: every move takes a life, and a part of two lives is not looked into.
            if (depth >= LEVELS) {
                return 0;
            }
            Position p = level[depth];
            decode(high, low, p);
            Move m = tried[depth];
            int reached = 0;
            m.rewind();
            for (int step = 0; step < PAIRS_BOUND && p.nextPair(m); step++) {
                int sides = p.sides(m);
                for (int side = 0; side < sides; side++) {
                    m.side = side;
                    draft.become(p, m);
                    reached |= 1 << worthOfDraft(depth + 1);
                }
            }
            int worth = Integer.numberOfTrailingZeros(~reached);
            memo.keep(high, low, worth);
            return worth;
        }

        void decode(long high, long low, Position p) {
            p.clear();
            for (int k = 0; k < letterSpot.length; k++) {
                letterSpot[k] = NONE;
            }
            decodeCorners(high, p);
            decodeCorners(low, p);
        }

        void decodeCorners(long codes, Position p) {
            long rest = codes;
            for (int k = 0; k < Namer.CORNERS_IN_LONG && rest != 0; k++) {
                int sign = (int) (rest >> Namer.ENDING_BITS) & (1 << Namer.SIGN_BITS) - 1;
                int ending = (int) rest & (1 << Namer.ENDING_BITS) - 1;
                p.put(spotOf(sign, p));
                if (ending != Namer.MORE) {
                    p.closeWall();
                }
                if (ending == Namer.FIELD_ENDS) {
                    p.closeField();
                }
                rest = rest >>> Namer.CODE_BITS;
            }
        }

        int spotOf(int sign, Position p) {
            if (sign >= Namer.FIRST_LETTER && letterSpot[sign] != NONE) {
                return letterSpot[sign];
            }
            int a = p.spotCount;
            letterSpot[sign] = a;
            p.addSpot(sign == Namer.FREE_SPOT ? FULL_LIFE : sign == Namer.LEAF_SPOT ? 2 : 1);
            return a;
        }
    }
}
