import java.util.Arrays;

/**
 * A little language with type classes: see ../shared/DOC.md for what each call promises.
 *
 * <p>Every row that a call needs is made once, with the object, so that a long run of calls makes
 * nothing but the exceptions that it throws.
 */
public final class DictionaryHouse {
    public static final int NONE = -1;

    private static final int INT = 0;
    private static final int BOOL = 1;
    private static final int FIRST_VARIABLE = 2;
    private static final int VARIABLES = 8;
    private static final int FIRST_MADE = FIRST_VARIABLE + VARIABLES;
    private static final int MOST_TYPES = 40;

    private static final int MOST_CLASSES = 6;
    private static final int MOST_METHODS = 3;
    private static final int SHAPES = 3;
    private static final int LISTS = 2;

    private static final int MOST_EXPRESSIONS = 200;
    private static final int MOST_PLACES = 60;
    private static final int MOST_LOCALS = 10;
    private static final int NUMBER = 0;
    private static final int PRIMITIVE = 1;
    private static final int LOCAL = 2;
    private static final int LAMBDA = 3;
    private static final int APPLICATION = 4;
    private static final int USE = 5;
    private static final int GIVEN = 6;

    private static final int TRUE = 0;
    private static final int FALSE = 1;
    private static final int PLUS = 2;
    private static final int LESS = 3;
    private static final int IF = 4;
    private static final int NIL = 5;
    private static final int CONS = 6;
    private static final int FOLD = 7;
    private static final int[] ARGUMENTS = {0, 0, 2, 2, 3, 0, 2, 3};

    private static final int MOST_DEFINITIONS = 20;
    private static final int MOST_CONDITIONS = 8;
    private static final int MOST_LISTS_FOLLOWED = 3;
    private static final int MOST_STEPS = 300;

    private static final int RIGHT = 0;
    private static final int NO_TYPE = -1;
    private static final int UNFULFILLED = -2;
    private static final int STRAY = -3;
    private static final int TOO_MUCH = -4;
    private static final int NOT_ABOVE = -5;

    private final TypeTable types;
    private final ClassTable classes;
    private final Expressions expressions;
    private final Definitions definitions;
    private final Checker checker;
    private final Machine machine;

    public DictionaryHouse() {
        types = new TypeTable();
        classes = new ClassTable();
        expressions = new Expressions();
        definitions = new Definitions();
        Plans plans = new Plans();
        Typing typing = new Typing(types, classes, expressions, definitions);
        checker = new Checker(types, classes, definitions, typing, plans);
        machine = new Machine(classes, expressions, definitions, plans);
    }

    public int list(int t) throws IllegalArgumentException, IllegalStateException {
        requireArgument(types.has(t));
        return numbered(types.numberFor(t, NONE));
    }

    public int function(int t, int u) throws IllegalArgumentException, IllegalStateException {
        requireArgument(types.has(t) && types.has(u));
        return numbered(types.numberFor(t, u));
    }

    public int type(int above) throws IllegalArgumentException, IllegalStateException {
        requireArgument(above == NONE || classes.has(above));
        requireState(classes.count() < MOST_CLASSES);
        return classes.addClass(above);
    }

    public int method(int c, int t) throws IllegalArgumentException, IllegalStateException {
        requireArgument(classes.has(c) && types.has(t) && types.hasOnlyTheFirstVariable(t));
        requireState(classes.methodsOf(c) < MOST_METHODS && !classes.hasAnyInstance(c));
        return classes.addMethod(c, t);
    }

    public int number(int v) throws IllegalStateException {
        return added(NUMBER, v, NONE);
    }

    public int primitive(int k) throws IllegalArgumentException, IllegalStateException {
        requireArgument(k >= 0 && k < ARGUMENTS.length);
        return added(PRIMITIVE, k, NONE);
    }

    public int local(int k) throws IllegalArgumentException, IllegalStateException {
        requireArgument(k >= 0 && k < MOST_LOCALS);
        return added(LOCAL, k, NONE);
    }

    public int lambda(int body) throws IllegalArgumentException, IllegalStateException {
        requireArgument(expressions.has(body));
        return added(LAMBDA, body, NONE);
    }

    public int apply(int f, int x) throws IllegalArgumentException, IllegalStateException {
        requireArgument(expressions.has(f) && expressions.has(x));
        return added(APPLICATION, f, x);
    }

    public int use(int c, int m) throws IllegalArgumentException, IllegalStateException {
        requireArgument(classes.hasMethod(c, m));
        return added(USE, c, m);
    }

    public int given(int g) throws IllegalArgumentException, IllegalStateException {
        requireArgument(definitions.has(g));
        return added(GIVEN, g, NONE);
    }

    public int instance(int c, int shape, int context, int m0, int m1, int m2)
            throws IllegalArgumentException, IllegalStateException {
        requireArgument(classes.has(c) && shape >= 0 && shape < SHAPES);
        requireArgument(context == NONE || (shape == LISTS && classes.has(context)));
        int methods = classes.methodsOf(c);
        requireArgument(methods < 1 || expressions.has(m0));
        requireArgument(methods < 2 || expressions.has(m1));
        requireArgument(methods < 3 || expressions.has(m2));
        requireState(!classes.hasInstance(c, shape));
        if (!classes.agreesWithAbove(c, shape, context)) {
            return NOT_ABOVE;
        }
        // It stands already while its methods are looked at, for they may use it themselves.
        classes.addInstance(c, shape, context);
        classes.setBodies(c, shape, m0, m1, m2);
        int wrong = RIGHT;
        for (int m = 0; m < methods && wrong == RIGHT; m++) {
            wrong = checker.wrongOfMethod(c, shape, m);
        }
        if (wrong != RIGHT) {
            classes.removeInstance(c, shape);
        }
        return wrong;
    }

    public int define(int e) throws IllegalArgumentException, IllegalStateException {
        requireArgument(expressions.has(e));
        requireState(definitions.count() < MOST_DEFINITIONS);
        return checker.newDefinition(e);
    }

    public int scheme(int g, int what) throws IllegalArgumentException {
        requireArgument(definitions.has(g));
        requireArgument(what >= 0 && what - 2 < definitions.conditionsOf(g));
        if (what == 0) {
            return definitions.typeOf(g);
        }
        return what == 1 ? definitions.conditionsOf(g) : definitions.condition(g, what - 2);
    }

    public boolean is(int c, int t) throws IllegalArgumentException {
        requireArgument(classes.has(c) && types.has(t));
        return isMember(c, t);
    }

    public int run(int g, int steps) throws IllegalArgumentException, IllegalStateException {
        requireArgument(definitions.has(g) && steps >= 1 && steps <= MOST_STEPS);
        requireState(definitions.conditionsOf(g) == 0 && canBeShown(definitions.typeOf(g)));
        return machine.perform(g, steps);
    }

    public int value(int what) throws IllegalArgumentException {
        requireArgument(machine.hasResult(what));
        return machine.result(what);
    }

    private static void requireArgument(boolean holds) {
        if (!holds) {
            throw new IllegalArgumentException();
        }
    }

    private static void requireState(boolean holds) {
        if (!holds) {
            throw new IllegalStateException();
        }
    }

    private static int numbered(int t) {
        requireState(t != NONE);
        return t;
    }

    private int added(int kind, int first, int second) {
        requireState(expressions.hasRoomFor(kind, first, second));
        return expressions.add(kind, first, second);
    }

    private boolean isMember(int c, int t) {
        int inClass = c;
        int of = t;
        // What a list is of has a lower number than the list, so as many turns as types are enough.
        for (int turn = 0; turn < MOST_TYPES && types.isList(of); turn++) {
            if (classes.contextOfLists(inClass) == NONE) {
                break;
            }
            inClass = classes.contextOfLists(inClass);
            of = types.left(of);
        }
        if (types.isList(of)) {
            return classes.hasInstance(inClass, LISTS);
        }
        return (of == INT || of == BOOL) && classes.hasInstance(inClass, of);
    }

    private boolean canBeShown(int t) {
        int of = types.isList(t) ? types.left(t) : t;
        return of == INT || of == BOOL;
    }

    /** The numbered types. What a made type is made of always has lower numbers than itself. */
    private static final class TypeTable {
        private final int[] left = new int[MOST_TYPES];
        private final int[] right = new int[MOST_TYPES];
        private final int[] variables = new int[MOST_TYPES];
        private int count = FIRST_MADE;

        TypeTable() {
            for (int v = 0; v < VARIABLES; v++) {
                variables[FIRST_VARIABLE + v] = 1 << v;
            }
        }

        boolean has(int t) {
            return t >= 0 && t < count;
        }

        boolean isList(int t) {
            return t >= FIRST_MADE && right[t] == NONE;
        }

        int left(int t) {
            return left[t];
        }

        int right(int t) {
            return right[t];
        }

        int count() {
            return count;
        }

        int variablesIn(int t) {
            return Integer.bitCount(variables[t]);
        }

        boolean hasOnlyTheFirstVariable(int t) {
            return variables[t] == 1;
        }

        /** The lists of l when r is NONE, the functions from l to r otherwise; NONE when full. */
        int numberFor(int l, int r) {
            for (int t = FIRST_MADE; t < count; t++) {
                if (left[t] == l && right[t] == r) {
                    return t;
                }
            }
            if (count == MOST_TYPES) {
                return NONE;
            }
            left[count] = l;
            right[count] = r;
            variables[count] = variables[l] | (r == NONE ? 0 : variables[r]);
            return count++;
        }

        /** Forgets types made since there were so many: what turned out wrong must leave none. */
        void cutTo(int earlier) {
            count = earlier;
        }
    }

    /** The classes, their methods and their instances. */
    private static final class ClassTable {
        private final int[] above = new int[MOST_CLASSES];
        private final int[] methods = new int[MOST_CLASSES];
        private final int[] methodType = new int[MOST_CLASSES * MOST_METHODS];
        private final boolean[] present = new boolean[MOST_CLASSES * SHAPES];
        private final int[] context = new int[MOST_CLASSES * SHAPES];
        private final int[] body = new int[MOST_CLASSES * SHAPES * MOST_METHODS];
        private int count;

        ClassTable() {
            Arrays.fill(context, NONE);
        }

        int count() {
            return count;
        }

        boolean has(int c) {
            return c >= 0 && c < count;
        }

        boolean hasMethod(int c, int m) {
            return has(c) && m >= 0 && m < methods[c];
        }

        int methodsOf(int c) {
            return methods[c];
        }

        int methodType(int c, int m) {
            return methodType[c * MOST_METHODS + m];
        }

        int addClass(int aboveIt) {
            above[count] = aboveIt;
            return count++;
        }

        int addMethod(int c, int t) {
            methodType[c * MOST_METHODS + methods[c]] = t;
            return methods[c]++;
        }

        boolean hasInstance(int c, int shape) {
            return present[c * SHAPES + shape];
        }

        boolean hasAnyInstance(int c) {
            return hasInstance(c, INT) || hasInstance(c, BOOL) || hasInstance(c, LISTS);
        }

        /** NONE also when there is no instance for lists. */
        int contextOfLists(int c) {
            return context[c * SHAPES + LISTS];
        }

        int body(int c, int shape, int m) {
            return body[(c * SHAPES + shape) * MOST_METHODS + m];
        }

        /** Whether what is in the lower class is thereby in the upper one, too. */
        boolean reaches(int lower, int upper) {
            int c = lower;
            // The one above always has a lower number, so as many turns as classes are enough.
            for (int turn = 0; turn < MOST_CLASSES && c != NONE && c != upper; turn++) {
                c = above[c];
            }
            return c == upper;
        }

        boolean agreesWithAbove(int c, int shape, int contextThere) {
            int upper = above[c];
            if (upper == NONE) {
                return true;
            }
            if (!hasInstance(upper, shape)) {
                return false;
            }
            int asked = context[upper * SHAPES + shape];
            return asked == NONE || reaches(contextThere, asked);
        }

        void addInstance(int c, int shape, int contextThere) {
            present[c * SHAPES + shape] = true;
            context[c * SHAPES + shape] = contextThere;
        }

        void setBodies(int c, int shape, int m0, int m1, int m2) {
            int at = (c * SHAPES + shape) * MOST_METHODS;
            body[at] = m0;
            body[at + 1] = m1;
            body[at + 2] = m2;
        }

        void removeInstance(int c, int shape) {
            present[c * SHAPES + shape] = false;
            context[c * SHAPES + shape] = NONE;
        }
    }

    /** The expressions: of each its kind, what it has, and how many places it takes. */
    private static final class Expressions {
        private final int[] kind = new int[MOST_EXPRESSIONS];
        private final int[] first = new int[MOST_EXPRESSIONS];
        private final int[] second = new int[MOST_EXPRESSIONS];
        private final int[] places = new int[MOST_EXPRESSIONS];
        private int count;

        boolean has(int e) {
            return e >= 0 && e < count;
        }

        int kind(int e) {
            return kind[e];
        }

        int first(int e) {
            return first[e];
        }

        int second(int e) {
            return second[e];
        }

        int places(int e) {
            return places[e];
        }

        boolean hasRoomFor(int k, int a, int b) {
            return count < MOST_EXPRESSIONS && placesFor(k, a, b) <= MOST_PLACES;
        }

        int add(int k, int a, int b) {
            kind[count] = k;
            first[count] = a;
            second[count] = b;
            places[count] = placesFor(k, a, b);
            return count++;
        }

        private int placesFor(int k, int a, int b) {
            if (k == LAMBDA) {
                return 1 + places[a];
            }
            return k == APPLICATION ? 1 + places[a] + places[b] : 1;
        }
    }

    /** The definitions with their schemes. */
    private static final class Definitions {
        private final int[] expression = new int[MOST_DEFINITIONS];
        private final int[] type = new int[MOST_DEFINITIONS];
        private final int[] conditions = new int[MOST_DEFINITIONS];
        private final int[] condition = new int[MOST_DEFINITIONS * MOST_CONDITIONS];
        private int count;

        int count() {
            return count;
        }

        boolean has(int g) {
            return g >= 0 && g < count;
        }

        int expressionOf(int g) {
            return expression[g];
        }

        int typeOf(int g) {
            return type[g];
        }

        int conditionsOf(int g) {
            return conditions[g];
        }

        int condition(int g, int i) {
            return condition[g * MOST_CONDITIONS + i];
        }

        int classOfCondition(int g, int i) {
            return condition(g, i) / VARIABLES;
        }

        int variableOfCondition(int g, int i) {
            return condition(g, i) % VARIABLES;
        }

        int add(int e, int t, int[] remaining, int many) {
            expression[count] = e;
            type[count] = t;
            conditions[count] = many;
            System.arraycopy(remaining, 0, condition, count * MOST_CONDITIONS, many);
            return count++;
        }
    }

    /**
     * Types while they are being found, as nodes that are joined with one another. Parts are
     * shared, never copied: written out, such a type may be longer than any memory.
     */
    private static final class Graph {
        /** INT and BOOL, a row for each place, and the type that an instance's method must have. */
        static final int MOST_NODES = 2 + MOST_PLACES * (MOST_TYPES + 1) + MOST_TYPES + 2;

        /** The first two kinds have one node each, whose number is that of the type, too. */
        static final int OPEN = 2;
        static final int LIST = 3;
        static final int FUNCTION = 4;
        /** The variable of which an instance is for all lists: no type can be put for it. */
        static final int FIXED = 5;

        private static final int UNSEEN = -2;

        private final int[] kind = new int[MOST_NODES];
        private final int[] left = new int[MOST_NODES];
        private final int[] right = new int[MOST_NODES];
        private final int[] link = new int[MOST_NODES];
        private final int[] users = new int[MOST_NODES];
        private final int[] variableNumber = new int[MOST_NODES];
        private final int[] variable = new int[MOST_NODES];
        /** Each join takes one pair and lays down two at most, so one pair a node is enough. */
        private final int[] waiting = new int[2 * MOST_NODES + 4];
        private int count;
        private int variableCount;

        void clear() {
            count = 0;
            add(INT, NONE, NONE);
            add(BOOL, NONE, NONE);
        }

        boolean hasRoomForType() {
            return count + MOST_TYPES + 2 <= MOST_NODES;
        }

        /** A list has its part on the left, a function its argument left and its result right. */
        int add(int k, int l, int r) {
            kind[count] = k;
            left[count] = l;
            right[count] = r;
            link[count] = count;
            return count++;
        }

        int count() {
            return count;
        }

        /** The node that stands for all that were joined with this one. */
        int root(int node) {
            int n = node;
            for (int turn = 0; turn < MOST_NODES && link[n] != n; turn++) {
                link[n] = link[link[n]];
                n = link[n];
            }
            return n;
        }

        int kind(int root) {
            return kind[root];
        }

        int left(int root) {
            return root(left[root]);
        }

        int right(int root) {
            return root(right[root]);
        }

        boolean join(int x, int y) {
            waiting[0] = x;
            waiting[1] = y;
            int top = 2;
            for (int turn = 0; top > 0 && turn <= 2 * MOST_NODES; turn++) {
                top -= 2;
                int p = root(waiting[top]);
                int q = root(waiting[top + 1]);
                if (p == q) {
                    continue;
                }
                if (kind[p] == OPEN) {
                    link[p] = q;
                } else if (kind[q] == OPEN) {
                    link[q] = p;
                } else if (kind[p] != kind[q]) {
                    return false;
                } else {
                    // Joined ahead of its parts, so that one without end comes to an end here.
                    link[p] = q;
                    top = addParts(p, q, top);
                }
            }
            return true;
        }

        private int addParts(int p, int q, int top) {
            int after = top;
            if (left[p] != NONE && left[q] != NONE) {
                waiting[after++] = left[p];
                waiting[after++] = left[q];
            }
            if (right[p] != NONE && right[q] != NONE) {
                waiting[after++] = right[p];
                waiting[after++] = right[q];
            }
            return after;
        }

        /** Whether some type stands in itself: then not all nodes can be taken users first. */
        boolean isEndless() {
            int roots = countUsers();
            int taken = 0;
            for (int n = 0; n < count; n++) {
                if (link[n] == n && users[n] == 0) {
                    waiting[taken++] = n;
                }
            }
            for (int next = 0; next < taken && next < MOST_NODES; next++) {
                int n = waiting[next];
                taken = release(left[n], taken);
                taken = release(right[n], taken);
            }
            return taken < roots;
        }

        private int countUsers() {
            Arrays.fill(users, 0, count, 0);
            int roots = 0;
            for (int n = 0; n < count; n++) {
                if (link[n] == n) {
                    roots++;
                    addUser(left[n]);
                    addUser(right[n]);
                }
            }
            return roots;
        }

        private void addUser(int part) {
            if (part != NONE) {
                users[root(part)]++;
            }
        }

        private int release(int part, int taken) {
            if (part == NONE) {
                return taken;
            }
            int n = root(part);
            users[n]--;
            if (users[n] > 0) {
                return taken;
            }
            waiting[taken] = n;
            return taken + 1;
        }

        int variableCount() {
            return variableCount;
        }

        int variable(int i) {
            return variable[i];
        }

        /** NONE when it does not stand in the type whose variables were numbered. */
        int variableNumber(int root) {
            return Math.max(variableNumber[root], NONE);
        }

        void forgetVariables() {
            variableCount = 0;
            Arrays.fill(variableNumber, 0, count, UNSEEN);
        }

        /** From left to right, each part once, however often it stands in the type. */
        void numberVariablesOf(int type) {
            forgetVariables();
            waiting[0] = root(type);
            int top = 1;
            for (int turn = 0; top > 0 && turn <= 2 * MOST_NODES; turn++) {
                top--;
                int n = waiting[top];
                if (variableNumber[n] == UNSEEN) {
                    top = see(n, top);
                }
            }
        }

        private int see(int n, int top) {
            int after = top;
            variableNumber[n] = NONE;
            if (kind[n] == OPEN) {
                variable[variableCount] = n;
                variableNumber[n] = variableCount++;
            }
            if (right[n] != NONE) {
                waiting[after++] = root(right[n]);
            }
            if (left[n] != NONE) {
                waiting[after++] = root(left[n]);
            }
            return after;
        }
    }

    /** Finds a type for each place of an expression, places being numbered from its top on. */
    private static final class Typing {
        private static final int EXPECTED = MOST_PLACES * VARIABLES;

        private final TypeTable types;
        private final ClassTable classes;
        private final Expressions expressions;
        private final Definitions definitions;
        private final Graph graph = new Graph();
        private final int[] expressionAt = new int[MOST_PLACES];
        private final int[] lambdaAround = new int[MOST_PLACES];
        private final int[] typeAt = new int[MOST_PLACES];
        private final int[] argumentAt = new int[MOST_PLACES];
        /** What was put for each variable at each use and each given place. */
        private final int[] filling = new int[EXPECTED + VARIABLES];
        private final int[] fillings = new int[MOST_PLACES];
        private final int[] nodeOfType = new int[MOST_TYPES];
        private final boolean[] wanted = new boolean[MOST_TYPES];
        private int places;

        Typing(TypeTable types, ClassTable classes, Expressions expressions, Definitions definitions) {
            this.types = types;
            this.classes = classes;
            this.expressions = expressions;
            this.definitions = definitions;
        }

        Graph graph() {
            return graph;
        }

        int places() {
            return places;
        }

        int kindAt(int p) {
            return expressions.kind(expressionAt[p]);
        }

        /** The class of a use, or the number of a given definition. */
        int subjectAt(int p) {
            return expressions.first(expressionAt[p]);
        }

        int fillingAt(int p, int variable) {
            return filling[p * VARIABLES + variable];
        }

        int fillingsAt(int p) {
            return fillings[p];
        }

        int typeOfWhole() {
            return typeAt[0];
        }

        boolean findTypes(int e) {
            layOut(e);
            graph.clear();
            for (int p = 0; p < places; p++) {
                typeAt[p] = graph.add(Graph.OPEN, NONE, NONE);
                fillings[p] = 0;
            }
            for (int p = 0; p < places; p++) {
                if (!graph.hasRoomForType() || !findTypeAt(p)) {
                    return false;
                }
            }
            return true;
        }

        /** Whether the whole can have a method's type, with the node for a. */
        boolean canBe(int methodType, int node) {
            filling[EXPECTED] = node;
            return graph.join(typeAt[0], nodeFor(methodType, EXPECTED));
        }

        private void layOut(int e) {
            places = expressions.places(e);
            lay(0, e, NONE);
            for (int p = 0; p < places; p++) {
                int at = expressionAt[p];
                if (expressions.kind(at) == LAMBDA) {
                    lay(p + 1, expressions.first(at), p);
                } else if (expressions.kind(at) == APPLICATION) {
                    lay(p + 1, expressions.first(at), lambdaAround[p]);
                    lay(placeOfOther(p), expressions.second(at), lambdaAround[p]);
                }
            }
        }

        private void lay(int p, int e, int lambda) {
            expressionAt[p] = e;
            lambdaAround[p] = lambda;
        }

        private int placeOfOther(int p) {
            return p + 1 + expressions.places(expressions.first(expressionAt[p]));
        }

        private boolean findTypeAt(int p) {
            int subject = subjectAt(p);
            switch (kindAt(p)) {
                case NUMBER:
                    return graph.join(typeAt[p], INT);
                case PRIMITIVE:
                    return graph.join(typeAt[p], primitiveNode(subject));
                case LOCAL:
                    return joinLocal(p, subject);
                case LAMBDA:
                    argumentAt[p] = graph.add(Graph.OPEN, NONE, NONE);
                    return graph.join(typeAt[p], arrow(argumentAt[p], typeAt[p + 1]));
                case APPLICATION:
                    return graph.join(typeAt[p + 1], arrow(typeAt[placeOfOther(p)], typeAt[p]));
                case USE:
                    return joinFilled(p, classes.methodType(subject, expressions.second(expressionAt[p])));
                default:
                    return joinFilled(p, definitions.typeOf(subject));
            }
        }

        private boolean joinLocal(int p, int k) {
            int lambda = lambdaAround[p];
            for (int i = 0; i < k && lambda != NONE; i++) {
                lambda = lambdaAround[lambda];
            }
            return lambda != NONE && graph.join(typeAt[p], argumentAt[lambda]);
        }

        private boolean joinFilled(int p, int t) {
            fillings[p] = types.variablesIn(t);
            for (int v = 0; v < fillings[p]; v++) {
                filling[p * VARIABLES + v] = graph.add(Graph.OPEN, NONE, NONE);
            }
            return graph.join(typeAt[p], nodeFor(t, p * VARIABLES));
        }

        /** The node of a numbered type, the variables filled from a row of filling. */
        private int nodeFor(int t, int row) {
            markWanted(t);
            for (int i = 0; i <= t; i++) {
                if (!wanted[i]) {
                    continue;
                }
                if (i < FIRST_VARIABLE) {
                    nodeOfType[i] = i;
                } else if (i < FIRST_MADE) {
                    nodeOfType[i] = filling[row + i - FIRST_VARIABLE];
                } else if (types.isList(i)) {
                    nodeOfType[i] = graph.add(Graph.LIST, nodeOfType[types.left(i)], NONE);
                } else {
                    nodeOfType[i] = arrow(nodeOfType[types.left(i)], nodeOfType[types.right(i)]);
                }
            }
            return nodeOfType[t];
        }

        private void markWanted(int t) {
            for (int i = 0; i < t; i++) {
                wanted[i] = false;
            }
            wanted[t] = true;
            for (int i = t; i >= FIRST_MADE; i--) {
                if (wanted[i]) {
                    wanted[types.left(i)] = true;
                    if (!types.isList(i)) {
                        wanted[types.right(i)] = true;
                    }
                }
            }
        }

        private int primitiveNode(int k) {
            if (k == TRUE || k == FALSE) {
                return BOOL;
            }
            if (k == PLUS || k == LESS) {
                return arrow(INT, arrow(INT, k == PLUS ? INT : BOOL));
            }
            int a = graph.add(Graph.OPEN, NONE, NONE);
            if (k == IF) {
                return arrow(BOOL, arrow(a, arrow(a, a)));
            }
            int listOfA = graph.add(Graph.LIST, a, NONE);
            if (k == NIL) {
                return listOfA;
            }
            if (k == CONS) {
                return arrow(a, arrow(listOfA, listOfA));
            }
            int b = graph.add(Graph.OPEN, NONE, NONE);
            return arrow(arrow(a, arrow(b, b)), arrow(b, arrow(listOfA, b)));
        }

        private int arrow(int from, int to) {
            return graph.add(Graph.FUNCTION, from, to);
        }
    }

    /** Follows the conditions of a typed expression to those that remain, and says what is wrong. */
    private static final class Conditions {
        private final ClassTable classes;
        private final Definitions definitions;
        private final Typing typing;
        private final Graph graph;
        /** A bit for each class in which a variable must be. */
        private final int[] classesOf = new int[Graph.MOST_NODES];
        private int contextOfFixed;
        private boolean unfulfilled;
        private boolean stray;
        private boolean far;

        Conditions(ClassTable classes, Definitions definitions, Typing typing) {
            this.classes = classes;
            this.definitions = definitions;
            this.typing = typing;
            this.graph = typing.graph();
        }

        /** What is wrong with the conditions; the fixed variable, if any, is in the context. */
        int wrongWith(int context) {
            Arrays.fill(classesOf, 0, graph.count(), 0);
            contextOfFixed = context;
            unfulfilled = false;
            stray = false;
            far = false;
            for (int p = 0; p < typing.places(); p++) {
                followThoseAt(p);
            }
            if (unfulfilled) {
                return UNFULFILLED;
            }
            if (stray) {
                return STRAY;
            }
            return far ? TOO_MUCH : RIGHT;
        }

        /** Whether this condition remains, and no lower class says it already. */
        boolean remains(int c, int variable) {
            int said = classesOf[variable];
            if ((said >> c & 1) == 0) {
                return false;
            }
            for (int lower = 0; lower < MOST_CLASSES; lower++) {
                if (lower != c && (said >> lower & 1) == 1 && classes.reaches(lower, c)) {
                    return false;
                }
            }
            return true;
        }

        private void followThoseAt(int p) {
            int subject = typing.subjectAt(p);
            if (typing.kindAt(p) == USE) {
                follow(subject, typing.fillingAt(p, 0));
            } else if (typing.kindAt(p) == GIVEN) {
                for (int i = 0; i < definitions.conditionsOf(subject); i++) {
                    int node = typing.fillingAt(p, definitions.variableOfCondition(subject, i));
                    follow(definitions.classOfCondition(subject, i), node);
                }
            }
        }

        private void follow(int c, int node) {
            int inClass = c;
            int at = graph.root(node);
            int lists = 0;
            // To the very end, however far: not being fulfilled there goes ahead of being far.
            while (lists < Graph.MOST_NODES && graph.kind(at) == Graph.LIST
                    && classes.contextOfLists(inClass) != NONE) {
                inClass = classes.contextOfLists(inClass);
                at = graph.left(at);
                lists++;
            }
            far = far || lists > MOST_LISTS_FOLLOWED;
            judge(inClass, at);
        }

        private void judge(int c, int at) {
            switch (graph.kind(at)) {
                case INT:
                case BOOL:
                    unfulfilled = unfulfilled || !classes.hasInstance(c, graph.kind(at));
                    break;
                case Graph.LIST:
                    unfulfilled = unfulfilled || !classes.hasInstance(c, LISTS);
                    break;
                case Graph.FUNCTION:
                    unfulfilled = true;
                    break;
                case Graph.FIXED:
                    stray = stray || !classes.reaches(contextOfFixed, c);
                    break;
                default:
                    stray = stray || graph.variableNumber(at) == NONE;
                    classesOf[at] |= 1 << c;
                    break;
            }
        }
    }

    /** Says what is wrong with an expression; makes definitions of what is right. */
    private static final class Checker {
        private final TypeTable types;
        private final ClassTable classes;
        private final Definitions definitions;
        private final Typing typing;
        private final Plans plans;
        private final Graph graph;
        private final Conditions conditions;
        private final int[] remaining = new int[MOST_CONDITIONS];
        private final int[] typeOfNode = new int[Graph.MOST_NODES];

        Checker(TypeTable types, ClassTable classes, Definitions definitions, Typing typing, Plans plans) {
            this.types = types;
            this.classes = classes;
            this.definitions = definitions;
            this.typing = typing;
            this.plans = plans;
            graph = typing.graph();
            conditions = new Conditions(classes, definitions, typing);
        }

        /** The number of the definition, or what is wrong. */
        int newDefinition(int e) {
            if (!typing.findTypes(e) || graph.isEndless()) {
                return NO_TYPE;
            }
            graph.numberVariablesOf(typing.typeOfWhole());
            int wrong = conditions.wrongWith(NONE);
            if (wrong != RIGHT) {
                return wrong;
            }
            int many = gatherRemaining();
            if (graph.variableCount() > VARIABLES || many > MOST_CONDITIONS) {
                return TOO_MUCH;
            }
            int t = numberedTypeOfWhole();
            if (t == NONE) {
                return TOO_MUCH;
            }
            int g = definitions.add(e, t, remaining, many);
            plans.write(Plans.ofDefinition(g), typing);
            return g;
        }

        /** Of an instance that stands already; a method that is right can be run from then on. */
        int wrongOfMethod(int c, int shape, int m) {
            if (!typing.findTypes(classes.body(c, shape, m))) {
                return NO_TYPE;
            }
            if (!typing.canBe(classes.methodType(c, m), nodeForShape(shape)) || graph.isEndless()) {
                return NO_TYPE;
            }
            graph.forgetVariables();
            int wrong = conditions.wrongWith(shape == LISTS ? classes.contextOfLists(c) : NONE);
            if (wrong == RIGHT) {
                plans.write(Plans.ofMethod(c, shape, m), typing);
            }
            return wrong;
        }

        private int nodeForShape(int shape) {
            if (shape != LISTS) {
                return shape;
            }
            return graph.add(Graph.LIST, graph.add(Graph.FIXED, NONE, NONE), NONE);
        }

        /** By variables, then by classes; how many there are, though only eight are kept. */
        private int gatherRemaining() {
            int many = 0;
            for (int v = 0; v < graph.variableCount(); v++) {
                for (int c = 0; c < classes.count(); c++) {
                    if (conditions.remains(c, graph.variable(v))) {
                        if (many < MOST_CONDITIONS) {
                            remaining[many] = VARIABLES * c + v;
                        }
                        many++;
                    }
                }
            }
            return many;
        }

        /** NONE, and no new types, when there would be too many. */
        private int numberedTypeOfWhole() {
            int before = types.count();
            Arrays.fill(typeOfNode, 0, graph.count(), NONE);
            int t = numberedType(graph.root(typing.typeOfWhole()), 0);
            if (t == NONE) {
                types.cutTo(before);
            }
            return t;
        }

        /** Each level down is a type of its own, so that a deeper one has too many for sure. */
        private int numberedType(int root, int depth) {
            int kind = graph.kind(root);
            if (kind == INT || kind == BOOL) {
                return kind;
            }
            if (kind == Graph.OPEN) {
                return FIRST_VARIABLE + graph.variableNumber(root);
            }
            if (typeOfNode[root] != NONE || depth >= MOST_TYPES - FIRST_MADE) {
                return typeOfNode[root];
            }
            int left = numberedType(graph.left(root), depth + 1);
            if (left == NONE) {
                return NONE;
            }
            int right = NONE;
            if (kind == Graph.FUNCTION) {
                right = numberedType(graph.right(root), depth + 1);
                if (right == NONE) {
                    return NONE;
                }
            }
            typeOfNode[root] = types.numberFor(left, right);
            return typeOfNode[root];
        }
    }

    /**
     * For each definition and each instance's method, what the types at its uses and given places
     * are when it is run. Instances look at nothing in a type but how many lists stand around what,
     * so one number tells a type: the lists, and INT, BOOL, a variable of the whole, or another.
     */
    private static final class Plans {
        private static final int WHOLES = MOST_DEFINITIONS + MOST_CLASSES * SHAPES * MOST_METHODS;
        private static final int OTHER = 2;
        private static final int FIRST_OPEN = 4;
        /** While variables stand for types: so many numbers for each list around. */
        private static final int PLANNED_LIST = 16;
        /** When types have been put for them. */
        private static final int ACTUAL_LIST = 4;

        private final int[] planned = new int[WHOLES * MOST_PLACES * VARIABLES];

        /** The spot of the top place; other places have the spots that follow it. */
        static int ofDefinition(int g) {
            return g * MOST_PLACES;
        }

        static int ofMethod(int c, int shape, int m) {
            return (MOST_DEFINITIONS + (c * SHAPES + shape) * MOST_METHODS + m) * MOST_PLACES;
        }

        static int shapeOf(int actual) {
            if (actual >= ACTUAL_LIST) {
                return LISTS;
            }
            return actual == OTHER ? NONE : actual;
        }

        static int ofWhatListIs(int actual) {
            return actual >= ACTUAL_LIST ? actual - ACTUAL_LIST : OTHER;
        }

        void write(int top, Typing typing) {
            for (int p = 0; p < typing.places(); p++) {
                int fillings = typing.fillingsAt(p);
                int row = (top + p) * VARIABLES;
                Arrays.fill(planned, row, row + VARIABLES, OTHER);
                for (int v = 0; v < fillings; v++) {
                    planned[row + v] = planFor(typing.graph(), typing.fillingAt(p, v));
                }
            }
        }

        /** The type put for a variable at a spot, by those put for the variables of the whole. */
        int actual(int spot, int variable, int[] frames, int frame) {
            int plan = planned[spot * VARIABLES + variable];
            int lists = plan / PLANNED_LIST * ACTUAL_LIST;
            int of = plan % PLANNED_LIST;
            return lists + (of < FIRST_OPEN ? of : frames[frame * VARIABLES + of - FIRST_OPEN]);
        }

        private static int planFor(Graph graph, int node) {
            int at = graph.root(node);
            int lists = 0;
            while (lists < Graph.MOST_NODES && graph.kind(at) == Graph.LIST) {
                at = graph.left(at);
                lists++;
            }
            return lists * PLANNED_LIST + planForInnermost(graph.kind(at), graph.variableNumber(at));
        }

        private static int planForInnermost(int kind, int index) {
            if (kind == INT || kind == BOOL) {
                return kind;
            }
            if (kind == Graph.FIXED) {
                return FIRST_OPEN;
            }
            return kind == Graph.OPEN && index != NONE ? FIRST_OPEN + index : OTHER;
        }
    }

    /** What a run makes: values, arguments bound around a place, types put for variables. */
    private static final class Heap {
        static final int NUMBER_CELL = 0;
        static final int EMPTY_CELL = 1;
        static final int PAIR_CELL = 2;
        static final int CLOSURE_CELL = 3;
        static final int PARTIAL_CELL = 4;
        static final int BOUND_CELL = 5;

        private static final int ROW = 5;
        /** A step makes two cells at most: those of a FOLD, which calls twice. */
        private static final int MOST_CELLS = 2 * MOST_STEPS + 2;
        private static final int MOST_FRAMES = MOST_STEPS + 2;

        private final int[] cells = new int[MOST_CELLS * ROW];
        private final int[] frames = new int[MOST_FRAMES * VARIABLES];
        private int cellCount;
        private int frameCount;

        void clear() {
            cellCount = 0;
            frameCount = 0;
        }

        boolean hasRoom() {
            return cellCount < MOST_CELLS && frameCount < MOST_FRAMES;
        }

        int[] frames() {
            return frames;
        }

        int newFrame() {
            int at = frameCount * VARIABLES;
            Arrays.fill(frames, at, at + VARIABLES, Plans.OTHER);
            return frameCount++;
        }

        void setInFrame(int frame, int variable, int actual) {
            frames[frame * VARIABLES + variable] = actual;
        }

        int newCell(int kind, int a, int b, int c, int d) {
            int at = cellCount * ROW;
            cells[at] = kind;
            cells[at + 1] = a;
            cells[at + 2] = b;
            cells[at + 3] = c;
            cells[at + 4] = d;
            return cellCount++;
        }

        int newNumber(int n) {
            return newCell(NUMBER_CELL, n, NONE, NONE, NONE);
        }

        /** A pair also holds how long the list is, so that a FOLD can begin with the last. */
        int newPair(int head, int tail) {
            return newCell(PAIR_CELL, head, tail, lengthOf(tail) + 1, NONE);
        }

        int kind(int cell) {
            return cells[cell * ROW];
        }

        int field(int cell, int i) {
            return cells[cell * ROW + 1 + i];
        }

        int numberIn(int cell) {
            return field(cell, 0);
        }

        int lengthOf(int list) {
            return kind(list) == PAIR_CELL ? field(list, 2) : 0;
        }

        /** Lists and what is bound around a place are chains of the same form. */
        int elementOf(int chain, int index) {
            int at = chain;
            for (int i = 0; i < index; i++) {
                at = field(at, 1);
            }
            return field(at, 0);
        }
    }

    /** Runs definitions. What is left to do waits in rows of its own, however deep a run goes. */
    private static final class Machine {
        private static final int OTHER_WAITS = 0;
        private static final int CALL_WAITS = 1;
        private static final int SECOND_CALL_WAITS = 2;
        private static final int FOLD_WAITS = 3;

        private static final int ROW = 5;
        /** A step lets three wait at most: those of a FOLD. */
        private static final int MOST_WAITING = 3 * MOST_STEPS + 3;
        /** A turn for each step, and one for each that waits. */
        private static final int MOST_TURNS = 4 * MOST_STEPS + 8;

        private final ClassTable classes;
        private final Expressions expressions;
        private final Definitions definitions;
        private final Plans plans;
        private final Heap heap = new Heap();
        private final int[] waiting = new int[MOST_WAITING * ROW];
        private int waitingCount;
        private int steps;
        private int limit;
        private boolean stopped;
        /** What is evaluated next; NONE when a value came out instead. */
        private int expression;
        private int spot;
        private int environment;
        private int frame;
        private int value;
        private final int[] shown = new int[MOST_STEPS + 1];
        private int shownCount = NONE;

        Machine(ClassTable classes, Expressions expressions, Definitions definitions, Plans plans) {
            this.classes = classes;
            this.expressions = expressions;
            this.definitions = definitions;
            this.plans = plans;
        }

        boolean hasResult(int what) {
            return shownCount != NONE && what >= NONE && what < shownCount;
        }

        int result(int what) {
            return what == NONE ? shownCount : shown[what];
        }

        /** How many steps there were; NONE when these were not enough. */
        int perform(int g, int steplimit) {
            heap.clear();
            waitingCount = 0;
            steps = 0;
            limit = steplimit;
            stopped = false;
            enter(definitions.expressionOf(g), Plans.ofDefinition(g), heap.newFrame());
            for (int turn = 0; turn < MOST_TURNS && isGoing(); turn++) {
                if (expression != NONE) {
                    evaluate();
                } else {
                    goOn();
                }
            }
            if (stopped || expression != NONE || waitingCount > 0) {
                return NONE;
            }
            keepResult();
            return steps;
        }

        private boolean isGoing() {
            return !stopped && heap.hasRoom() && (expression != NONE || waitingCount > 0);
        }

        private void keepResult() {
            if (heap.kind(value) == Heap.NUMBER_CELL) {
                shown[0] = heap.numberIn(value);
                shownCount = 1;
                return;
            }
            shownCount = Math.min(heap.lengthOf(value), shown.length);
            for (int i = 0; i < shownCount; i++) {
                shown[i] = heap.numberIn(heap.elementOf(value, i));
            }
        }

        private boolean takeStep() {
            stopped = steps == limit;
            if (!stopped) {
                steps++;
            }
            return !stopped;
        }

        /** A whole of its own: no lambda stands around it. */
        private void enter(int e, int top, int newFrame) {
            expression = e;
            spot = top;
            environment = NONE;
            frame = newFrame;
        }

        private void yieldValue(int cell) {
            value = cell;
            expression = NONE;
        }

        private void letWait(int kind, int a, int b, int c, int d) {
            int at = waitingCount * ROW;
            waiting[at] = kind;
            waiting[at + 1] = a;
            waiting[at + 2] = b;
            waiting[at + 3] = c;
            waiting[at + 4] = d;
            waitingCount++;
        }

        private void evaluate() {
            if (!takeStep()) {
                return;
            }
            int e = expression;
            int subject = expressions.first(e);
            switch (expressions.kind(e)) {
                case NUMBER:
                    yieldValue(heap.newNumber(subject));
                    break;
                case PRIMITIVE:
                    yieldValue(primitiveCell(subject));
                    break;
                case LOCAL:
                    yieldValue(heap.elementOf(environment, subject));
                    break;
                case LAMBDA:
                    yieldValue(heap.newCell(Heap.CLOSURE_CELL, subject, spot + 1, environment, frame));
                    break;
                case APPLICATION:
                    int spotOfOther = spot + 1 + expressions.places(subject);
                    letWait(OTHER_WAITS, expressions.second(e), spotOfOther, environment, frame);
                    expression = subject;
                    spot++;
                    break;
                case USE:
                    enterMethod(subject, expressions.second(e));
                    break;
                default:
                    enterDefinition(subject);
                    break;
            }
        }

        private int primitiveCell(int k) {
            if (k == TRUE || k == FALSE) {
                return heap.newNumber(k == TRUE ? 1 : 0);
            }
            if (k == NIL) {
                return heap.newCell(Heap.EMPTY_CELL, NONE, NONE, NONE, NONE);
            }
            return heap.newCell(Heap.PARTIAL_CELL, k, 0, NONE, NONE);
        }

        private void enterMethod(int c, int m) {
            int actual = plans.actual(spot, 0, heap.frames(), frame);
            int shape = Plans.shapeOf(actual);
            if (shape == NONE || !classes.hasInstance(c, shape)) {
                // No typed expression comes here: its conditions were fulfilled.
                stopped = true;
                return;
            }
            int inside = heap.newFrame();
            heap.setInFrame(inside, 0, Plans.ofWhatListIs(actual));
            enter(classes.body(c, shape, m), Plans.ofMethod(c, shape, m), inside);
        }

        private void enterDefinition(int g) {
            int inside = heap.newFrame();
            for (int v = 0; v < VARIABLES; v++) {
                heap.setInFrame(inside, v, plans.actual(spot, v, heap.frames(), frame));
            }
            enter(definitions.expressionOf(g), Plans.ofDefinition(g), inside);
        }

        /** Takes the value to what waits for it. */
        private void goOn() {
            waitingCount--;
            int at = waitingCount * ROW;
            int first = waiting[at + 1];
            switch (waiting[at]) {
                case OTHER_WAITS:
                    expression = first;
                    spot = waiting[at + 2];
                    environment = waiting[at + 3];
                    frame = waiting[at + 4];
                    letWait(CALL_WAITS, value, NONE, NONE, NONE);
                    break;
                case CALL_WAITS:
                    call(first, value);
                    break;
                case SECOND_CALL_WAITS:
                    call(value, first);
                    break;
                default:
                    fold(first, value, waiting[at + 2], waiting[at + 3]);
                    break;
            }
        }

        private void call(int f, int x) {
            if (heap.kind(f) == Heap.CLOSURE_CELL) {
                expression = heap.field(f, 0);
                spot = heap.field(f, 1);
                environment = heap.newCell(Heap.BOUND_CELL, x, heap.field(f, 2), NONE, NONE);
                frame = heap.field(f, 3);
                return;
            }
            int k = heap.field(f, 0);
            int held = heap.field(f, 1);
            if (held + 1 == ARGUMENTS[k]) {
                finish(k, heap.field(f, 2), heap.field(f, 3), x);
            } else if (held == 0) {
                yieldValue(heap.newCell(Heap.PARTIAL_CELL, k, 1, x, NONE));
            } else {
                yieldValue(heap.newCell(Heap.PARTIAL_CELL, k, 2, heap.field(f, 2), x));
            }
        }

        /** A primitive that has all arguments now; of two, the second one is the last. */
        private void finish(int k, int first, int second, int last) {
            switch (k) {
                case PLUS:
                    yieldValue(heap.newNumber(heap.numberIn(first) + heap.numberIn(last)));
                    break;
                case LESS:
                    yieldValue(heap.newNumber(heap.numberIn(first) < heap.numberIn(last) ? 1 : 0));
                    break;
                case IF:
                    yieldValue(heap.numberIn(first) == 1 ? second : last);
                    break;
                case CONS:
                    yieldValue(heap.newPair(first, last));
                    break;
                default:
                    fold(first, second, last, heap.lengthOf(last));
                    break;
            }
        }

        /** Folds the first so many of a list, the last of them first. */
        private void fold(int f, int soFar, int list, int left) {
            if (left == 0) {
                yieldValue(soFar);
            } else if (takeStep()) {
                letWait(FOLD_WAITS, f, list, left - 1, NONE);
                letWait(SECOND_CALL_WAITS, soFar, NONE, NONE, NONE);
                // The call waits, too, and is not made from here: f may be a FOLD itself.
                letWait(CALL_WAITS, f, NONE, NONE, NONE);
                yieldValue(heap.elementOf(list, left - 1));
            }
        }
    }
}
