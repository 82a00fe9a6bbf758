import java.io.IOException;
import java.lang.reflect.Constructor;
import java.lang.reflect.Field;
import java.lang.reflect.Method;
import java.lang.reflect.Modifier;
import java.nio.file.Files;
import java.nio.file.Path;
import java.util.Arrays;
import java.util.HashSet;
import java.util.List;
import java.util.Set;
import java.util.TreeSet;
import java.util.regex.Matcher;
import java.util.regex.Pattern;

/** The public face, and those rules of LANGUAGE.md that can be seen in the source or by reflection. */
public final class LanguageTest {
    private static final String SOURCE = "src/main/java/SentenceMaker.java";
    private static final List<String> FACE = List.of("int status()", "int feed(int,int,int,int,int)", "int load(int)",
            "int fault(int)", "int turn(int,boolean)", "int weigh(int,int)", "int start(int)", "int undo()",
            "int many(int)", "int rule(int,int)", "int sign(int,int)", "int ends(int,int)", "int beside(int)",
            "int yields(int,int)", "int yielded(int,int)", "int context(int,int)", "int around(int,boolean,int)",
            "int pair(int,int)", "int shown(int,int)", "int pairOf(int,int,int)", "int has(int,int)",
            "int cover(int,int)", "int by(int)", "int wrong(int,int,int)", "int foretells(int,int)",
            "int conflicts()", "int bound()", "long trees(int,int)", "int tree(int,int,int,int)",
            "int treeRule(int,int,int,int)", "long number(int)", "int ways(int)", "int parse(int)",
            "int parsed(int,int)", "int shrink(int,int)", "int shrunk(int,int,int)", "int drop(int)");

    /** What the class uses of what LANGUAGE.md lists. */
    private static final List<String> LIBRARY = List.of("java/lang/Object.<init>", "java/lang/Math.min",
            "java/lang/Math.max", "java/lang/Integer.bitCount", "java/lang/Integer.numberOfTrailingZeros",
            "java/lang/Long.bitCount", "java/lang/Long.numberOfTrailingZeros", "java/lang/System.arraycopy",
            "java/util/Arrays.fill");

    private static final Check CHECK = new Check();

    private LanguageTest() {
    }

    private static String told(Method method) {
        StringBuilder out = new StringBuilder(method.getReturnType().getName() + " " + method.getName() + "(");
        for (Class<?> type : method.getParameterTypes()) {
            out.append(out.charAt(out.length() - 1) == '(' ? "" : ",").append(type.getName());
        }
        return out.append(")").toString();
    }

    private static void face() {
        Class<?> type = SentenceMaker.class;
        CHECK.holds("the class is public and final",
                Modifier.isPublic(type.getModifiers()) && Modifier.isFinal(type.getModifiers()));
        Set<String> open = new TreeSet<>();
        for (Method method : type.getDeclaredMethods()) {
            if (Modifier.isPublic(method.getModifiers())) {
                open.add(told(method));
            } else {
                CHECK.holds(method + " is private", Modifier.isPrivate(method.getModifiers()));
            }
        }
        CHECK.holds("the methods are those of the document", open.equals(new TreeSet<>(FACE)));
        for (Field field : type.getDeclaredFields()) {
            boolean constant = field.getName().equals("NONE");
            CHECK.holds(field + " is private, but for NONE", constant == Modifier.isPublic(field.getModifiers())
                    && constant != Modifier.isPrivate(field.getModifiers()));
        }
        Constructor<?>[] made = type.getDeclaredConstructors();
        CHECK.holds("one constructor, public, without arguments", made.length == 1
                && Modifier.isPublic(made[0].getModifiers()) && made[0].getParameterCount() == 0);
    }

    private static void classes() {
        Set<String> names = new HashSet<>();
        for (String told : FACE) {
            names.add(told.substring(told.indexOf(' ') + 1, told.indexOf('(')));
        }
        Class<?>[] inside = SentenceMaker.class.getDeclaredClasses();
        CHECK.holds("at most twelve classes", inside.length + 1 <= 12);
        for (Class<?> type : inside) {
            CHECK.holds(type + " is static", Modifier.isStatic(type.getModifiers()));
            CHECK.holds(type + " is private", Modifier.isPrivate(type.getModifiers()));
            for (Method method : type.getDeclaredMethods()) {
                CHECK.holds(method + " has a name of its own", !names.contains(method.getName()));
                CHECK.holds(method + " has at most seven parameters", method.getParameterCount() <= 7);
            }
            long fields = Arrays.stream(type.getDeclaredFields())
                    .filter(f -> !Modifier.isStatic(f.getModifiers())).count();
            CHECK.holds(type + " has at most twenty fields", fields <= 20);
            for (Field field : type.getDeclaredFields()) {
                CHECK.holds(field + " is final if it is static", !Modifier.isStatic(field.getModifiers())
                        || Modifier.isFinal(field.getModifiers()));
            }
        }
    }

    private static String bare(String source) {
        return source.replaceAll("(?s)/\\*.*?\\*/", "").replaceAll("//[^\n]*", "").replaceAll("'(\\\\.|[^'])'", "0");
    }

    private static void words(String code) {
        for (String word : List.of("throw", "throws", "try", "catch", "finally", "synchronized", "assert", "package",
                "double", "float", "native", "volatile", "transient", "System.out", "Exact")) {
            CHECK.holds("no " + word, !Pattern.compile("\\b" + Pattern.quote(word) + "\\b").matcher(code).find());
        }
        CHECK.holds("no lambda", !code.contains("->"));
        CHECK.holds("no method reference", !code.contains("::"));
        CHECK.holds("no text that could be joined", !code.contains("\""));
        CHECK.holds("no annotation", !code.contains("@"));
        CHECK.holds("ASCII alone", code.chars().allMatch(c -> c < 128));
        Matcher imports = Pattern.compile("import ([\\w.]+);").matcher(code);
        while (imports.find()) {
            CHECK.holds("import " + imports.group(1), imports.group(1).equals("java.util.Arrays"));
        }
    }

    private static void compiled() throws IOException {
        CallGraph graph = new CallGraph();
        graph.add(ClassFile.of(SentenceMaker.class));
        for (Class<?> type : SentenceMaker.class.getDeclaredClasses()) {
            graph.add(ClassFile.of(type));
        }
        CHECK.holds("no method comes back to itself: " + graph.endless(), graph.endless().isEmpty());
        if (graph.endless().isEmpty()) {
            depths(graph);
        }
        for (String outside : graph.outside()) {
            CHECK.holds("the library has " + outside, LIBRARY.contains(outside.substring(0, outside.indexOf('('))));
        }
        // rows are made with the object, so that calls take no room
        for (String maker : graph.makers()) {
            CHECK.holds("nothing is made in " + maker, maker.contains("<init>"));
        }
        CHECK.holds("something is made in constructors", !graph.makers().isEmpty());
    }

    private static void depths(CallGraph graph) {
        CHECK.holds("there are methods and calls to look at", graph.methods().size() > 200
                && graph.longestWay("SentenceMaker.bound()I").size() > 4);
        for (String method : graph.methods()) {
            List<String> way = graph.longestWay(method);
            CHECK.holds("calls go at most eight deep: " + way, way.size() <= 8);
        }
    }

    /** All that the calls of one run make has one room: many objects of the class must fit in it. */
    private static void room() throws IllegalAccessException {
        Room room = new Room();
        room.add(new SentenceMaker());
        CHECK.holds("one has its parts", room.objects() > 50 && room.elements() > 1000);
        CHECK.holds("two hundred have at most 600,000 objects and arrays: " + room.objects(),
                200 * room.objects() <= 600000);
        CHECK.holds("two hundred have at most 7,300,000 fields and elements: " + room.elements(),
                200 * room.elements() <= 7300000);
    }

    private static void lengths(String source) {
        String[] rows = source.split("\n");
        int from = -1;
        String close = "";
        for (int i = 0; i < rows.length; i++) {
            CHECK.holds("row " + (i + 1) + " is at most 120 long", rows[i].length() <= 120);
            Matcher head = Pattern.compile("^( {4}| {8})(\\w[\\w\\[\\] ]*)\\(.*\\) \\{$").matcher(rows[i]);
            if (from < 0 && head.matches()) {
                from = i;
                close = head.group(1) + "}";
            } else if (from >= 0 && rows[i].equals(close)) {
                CHECK.holds("the method in row " + (from + 1) + " is at most 60 rows", i - from + 1 <= 60);
                from = -1;
            }
        }
    }

    public static void main(String[] args) throws Exception {
        String source = Files.readString(Path.of(SOURCE));
        face();
        classes();
        words(bare(source));
        compiled();
        room();
        lengths(source);
        CHECK.close("LanguageTest");
    }
}
